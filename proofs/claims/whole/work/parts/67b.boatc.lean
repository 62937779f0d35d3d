/-! A boat's text, by the class. -/
def frB (f g : Nat → Nat → Int32) : Prop := ∀ k j, ¬ (28 ≤ k ∧ k ≤ 36) → ¬ (k = 46 ∧ 3 ≤ j) → ¬ (k = 48 ∧ j = 2) → g k j = f k j
def frBl (f g : Nat → Nat → Int64) : Prop := ∀ k j, ¬ (28 ≤ k ∧ k ≤ 36) → ¬ (k = 46 ∧ j = 7) → g k j = f k j
def RCb (a on pn : Nat → Nat) (t : Nat) (mi : Nat → Nat → Int32) (ml : Nat → Nat → Int64) : Prop := CB 28 a mi ∧ (∀ o, o < a 0 → ml 30 o = lN (on o)) ∧ (∀ p, p < a 1 → ml 35 p = lN (pn p)) ∧ ∃ v, v < 32 ∧ mi 48 2 = nI v ∧ ∀ i, i < 3 → v.testBit (i + 2) = t.testBit i
def NF (mi : Nat → Nat → Int32) : Prop := mi 46 9 = nI 0 ∧ mi 46 10 = nM
def CSb (c : Nat → Nat) (n : Nat) (m0 : Nat → Nat → Int32) (l0 : Nat → Nat → Int64) (a on pn : Nat → Nat) (t : Nat) (mi : Nat → Nat → Int32) (ml : Nat → Nat → Int64) : Prop := frB m0 mi ∧ frBl l0 ml ∧ RCb a on pn t mi ml ∧ TX c n mi ml ∧ NF mi
def Gc (c : Nat → Nat) (n : Nat) (K : am_K) (m0 : Nat → Nat → Int32) (l0 : Nat → Nat → Int64) (x : BSt) : Prop := ∀ mi ml, CSb c n m0 l0 x.2.1 x.2.2.1 x.2.2.2.1 x.2.2.2.2 mi ml → mi 46 3 = nI x.1 → K (some (.int (nI 1))) (S0, mi, ml)
def Bc (K : am_K) (m0 : Nat → Nat → Int32) (l0 : Nat → Nat → Int64) (k s : Nat) : Prop := ∀ mi ml, frB m0 mi → frBl l0 ml → FLT k s mi → K (some (.int (nI 0))) (S0, mi, ml)
def PAS (K K' : am_K) : Prop := ∀ r mi ml, (r = nI 0 ∨ r = nI 1) → K (some (.int r)) (S0, mi, ml) → K' (some (.int r)) (S0, mi, ml)
theorem PAS_rfl {K : am_K} : PAS K K := fun _ _ _ _ h => h
theorem RCb_tok {a on pn : Nat → Nat} {t : Nat} {mi mi' : Nat → Nat → Int32} {ml ml' : Nat → Nat → Int64} (h : RCb a on pn t mi ml) (f1 : frT mi mi') (f2 : frU ml ml') : RCb a on pn t mi' ml' := by
  obtain ⟨h1, h2, h3, v, v1, v2, v3⟩ := h
  exact ⟨CB_frb h1 (fun k j z => f1 k j (by omega)), fun o ho => by rw [f2 30 o (by omega)]; exact h2 o ho, fun p hp => by rw [f2 35 p (by omega)]; exact h3 p hp, v, v1, by rw [f1 48 2 (by omega)]; exact v2, v3⟩
theorem frB_T {m0 mi mi' : Nat → Nat → Int32} (h : frB m0 mi) (f : frT mi mi') : frB m0 mi' := fun k j z1 z2 z3 => by rw [f k j z2]; exact h k j z1 z2 z3
theorem frBl_U {m0 mi mi' : Nat → Nat → Int64} (h : frBl m0 mi) (f : frU mi mi') : frBl m0 mi' := fun k j z1 z2 => by rw [f k j z2]; exact h k j z1 z2
theorem CSb_tok {c : Nat → Nat} {n : Nat} {m0 : Nat → Nat → Int32} {l0 : Nat → Nat → Int64} {a on pn : Nat → Nat} {t : Nat} {mi mi' : Nat → Nat → Int32} {ml ml' : Nat → Nat → Int64} (h : CSb c n m0 l0 a on pn t mi ml) (f1 : frT mi mi') (f2 : frU ml ml') (s : SAME mi mi') : CSb c n m0 l0 a on pn t mi' ml' :=
  ⟨frB_T h.1 f1, frBl_U h.2.1 f2, RCb_tok h.2.2.1 f1 f2, TX_fr h.2.2.2.1 f1 f2, by rw [NF, s.1, s.2]; exact h.2.2.2.2⟩
theorem Bc_go {c : Nat → Nat} {n : Nat} {K : am_K} {m0 : Nat → Nat → Int32} {l0 : Nat → Nat → Int64} {a on pn : Nat → Nat} {t k s : Nat} {mi mi' : Nat → Nat → Int32} {ml ml' : Nat → Nat → Int64} (h : CSb c n m0 l0 a on pn t mi ml) (hB : Bc K m0 l0 k s) (f1 : frT mi mi') (f2 : frU ml ml') (hf : FLT k s mi') : K (some (.int (nI 0))) (S0, mi', ml') := hB _ _ (frB_T h.1 f1) (frBl_U h.2.1 f2) hf
theorem Bc_in {c : Nat → Nat} {n : Nat} {K : am_K} {m0 : Nat → Nat → Int32} {l0 : Nat → Nat → Int64} {a on pn : Nat → Nat} {t k s : Nat} {mi : Nat → Nat → Int32} {ml : Nat → Nat → Int64} (h : CSb c n m0 l0 a on pn t mi ml) (hB : Bc K m0 l0 k s) (h4 : mi 46 4 = nI s) : K (some (.int (nI 0))) (S0, am_si (am_si mi 46 9 (nI k)) 46 10 ((am_si mi 46 9 (nI k)) 46 4), ml) := by
  rw [si_f (f := mi) (by omega), h4]
  exact Bc_go h hB (fail_fr (fun _ _ _ => rfl)) (fun _ _ _ => rfl) fail_FLT
theorem bt_nf {b : Bool} (h : ¬ b = false) : b = true := by cases b with | false => exact absurd rfl h | true => rfl
theorem n10 : ¬ (nI 1 = nI 0) := by decide
theorem s_stopC {E : am_E} {d : Nat} {K : am_K} {mi : Nat → Nat → Int32} {ml : Nat → Nat → Int64} {c : Nat → Nat} {n p : Nat} {K' : am_K} {m0 : Nat → Nat → Int32} {l0 : Nat → Nat → Int64} {a on pn : Nat → Nat} {t : Nat} (hC : CSb c n m0 l0 a on pn t mi ml) (hp : p ≤ n) (h3 : mi 46 3 = nI p) (hP : PAS K K') (h : stopW c n p (Gc c n K m0 l0 (tkE c n p, a, on, pn, t)) (Bc K m0 l0)) : cq E (d + 4) 85 [.ref 46] K' mi ml :=
  s_wantStop hC.2.2.2.1 hp h3 (fun q m l f1 f2 hT hs => hP _ _ _ (Or.inr rfl) (h.1 q _ _ (CSb_tok hC f1 f2 hs) hT.1)) (fun q m l f1 f2 hf => hP _ _ _ (Or.inl rfl) (Bc_go hC (h.2 q) f1 f2 hf))
theorem ms_or {v i : Nat} (hi : i < 32) : nI v ||| (nI 1 <<< ms (nI i)) = nI (v ||| 1 <<< i) := by rw [ni_shl hi, ni_or]
theorem TX_fr2 {c : Nat → Nat} {n : Nat} {mi mi' : Nat → Nat → Int32} {ml ml' : Nat → Nat → Int64} (h : TX c n mi ml) (h1 : ∀ k j, (k = 46 ∧ j = 2) ∨ k = 1 → mi' k j = mi k j) (h2 : ∀ j, ml' 47 j = ml 47 j) : TX c n mi' ml' := by
  obtain ⟨a1, a2, a3, a4⟩ := h
  exact ⟨a1, by rw [h1 46 2 (by omega)]; exact a2, fun i hi => ⟨(a3 i hi).1, by rw [h1 1 i (by omega)]; exact (a3 i hi).2⟩, fun i hi => by rw [h2 i]; exact a4 i hi⟩
theorem CSb_up {c : Nat → Nat} {n : Nat} {m0 : Nat → Nat → Int32} {l0 : Nat → Nat → Int64} {a on pn a' on' pn' : Nat → Nat} {t t' : Nat} {mi mi' : Nat → Nat → Int32} {ml ml' : Nat → Nat → Int64} (h : CSb c n m0 l0 a on pn t mi ml) (hf : ∀ k j, ¬ (28 ≤ k ∧ k ≤ 36) → ¬ (k = 48 ∧ j = 2) → mi' k j = mi k j) (hl : ∀ k j, ¬ (28 ≤ k ∧ k ≤ 36) → ml' k j = ml k j) (hR : RCb a' on' pn' t' mi' ml') : CSb c n m0 l0 a' on' pn' t' mi' ml' :=
  ⟨fun k j z1 z2 z3 => by rw [hf k j z1 z3]; exact h.1 k j z1 z2 z3, fun k j z1 z2 => by rw [hl k j z1]; exact h.2.1 k j z1 z2, hR, TX_fr2 h.2.2.2.1 (fun k j z => hf k j (by omega) (by omega)) (fun j => hl 47 j (by omega)), by rw [NF, hf 46 9 (by omega) (by omega), hf 46 10 (by omega) (by omega)]; exact h.2.2.2.2⟩
theorem pas_1 {K : am_K} {r : Int32} {mi : Nat → Nat → Int32} {ml : Nat → Nat → Int64} (q : r = nI 0 ∨ r = nI 1) (h : K (some (.int r)) (S0, mi, ml)) : (r = nI 0 → K (some (.int (nI 0))) (S0, mi, ml)) ∧ (¬ r = nI 0 → K (some (.int (nI 1))) (S0, mi, ml)) :=
  ⟨fun z => by rw [z] at h; exact h, fun z => by rw [q.resolve_left z] at h; exact h⟩
theorem s_readRule {E : am_E} {d : Nat} {K : am_K} {mi : Nat → Nat → Int32} {ml : Nat → Nat → Int64} {c : Nat → Nat} {n i : Nat} {m0 : Nat → Nat → Int32} {l0 : Nat → Nat → Int64} {x : BSt} (hC : CSb c n m0 l0 x.2.1 x.2.2.1 x.2.2.2.1 x.2.2.2.2 mi ml) (hp : x.1 ≤ n) (hT : TC c n x.1 mi ml) (hi : i < 3) (h : ruleW c n i (rlm i) (rlM i) x (Gc c n K m0 l0) (Bc K m0 l0)) : cq E (d + 5) 34 [.ref 48, .int (nI (i + 2)), .int (nI (rlm i)), .int (nI (rlM i))] K mi ml := by
  obtain ⟨g1, g2, ⟨r1, r2, r3, v, v1, v2, v3⟩, g4, g5⟩ := id hC
  have e1 := tkE_ge (c := c) hp
  have e2 := tkE_ge (c := c) e1.2
  have hlo : rlm i < 1000 ∧ rlM i < 1000 := by unfold rlm rlM; constructor <;> repeat (first | omega | split)
  apply en_X1_readRule
  rw [v2, ni_bit (by omega) (by omega), ni_b0, v3 i hi, ms_or (by omega)]
  refine ⟨fun q => ?_, fun q => Bc_in hC (h.1 (bt_nf q)) hT.2.1⟩
  have h2 := h.2 (by rw [q]; decide)
  have hv2 : v ||| 1 <<< (i + 2) < 32 := or_lt (m := 5) v1 (by omega)
  have hC2 : CSb c n m0 l0 x.2.1 x.2.2.1 x.2.2.2.1 (x.2.2.2.2 ||| 1 <<< i) (am_si mi 48 2 (nI (v ||| 1 <<< (i + 2)))) ml := by
    refine CSb_up hC (fun k j z1 z2 => si_f z2) (fun _ _ _ => rfl) ⟨CB_frb r1 (fun k j z => si_f (by omega)), r2, r3, _, hv2, si_t ⟨rfl, rfl⟩, fun j hj => ?_⟩
    rw [Nat.testBit_or, Nat.testBit_or, tb_1shl, tb_1shl, v3 j hj]
    congr 1
    by_cases e : j = i
    · rw [decide_eq_true (by omega), decide_eq_true e]
    · rw [decide_eq_false (by omega), decide_eq_false e]
  apply s_wantNumber hC2.2.2.2.1 e1.2 (by rw [si_f (by omega)]; exact hT.1) hlo.1 hlo.2
  · intro q2 m l f1 f2 hT2 hs
    have hC3 := CSb_tok hC2 f1 f2 hs
    apply rg_X1_readRule_41
    refine br_f n10 ?_
    rw [hT2.2.2.2.2.2.1 q2.1]
    apply s_setRule_ok bt_28 hi q2.2.1 q2.2.2
    apply rg_X1_readRule_59
    refine br_f n10 ?_
    have hC4 : CSb c n m0 l0 (up1 x.2.1 (i + 2) (tkV c n (tkE c n x.1))) x.2.2.1 x.2.2.2.1 (x.2.2.2.2 ||| 1 <<< i) (am_si m 28 i (nI (tkV c n (tkE c n x.1)))) l := by
      obtain ⟨g1, g2, ⟨r1, r2, r3, v, v1, v2, v3⟩, g4, g5⟩ := id hC3
      refine CSb_up hC3 (fun k j z1 z2 => si_f (by omega)) (fun _ _ _ => rfl) ⟨CB_rule r1 i _ hi, fun o ho => r2 o (by rw [up1_f (by omega)] at ho; exact ho), fun o ho => r3 o (by rw [up1_f (by omega)] at ho; exact ho), v, v1, by rw [si_f (by omega)]; exact v2, v3⟩
    exact s_stopC (d := d) hC4 e2.2 (by rw [si_f (by omega)]; exact hT2.1) (fun r m l q h => rg_X1_readRule_69 (pas_1 q h)) (h2.1 q2)
  · intro q2 m l f1 f2 hf
    apply rg_X1_readRule_41
    exact br_t rfl (Bc_go hC2 (h2.2 q2) f1 f2 hf)
theorem nP_0 {x : Nat} (hx : x ≤ 100) : (nP x = nM) ↔ x = 0 := by
  rw [show nM = nP 0 from rfl, nP_eq hx (by omega)]
theorem s_isTaken {E : am_E} {d : Nat} {K : am_K} {mi : Nat → Nat → Int32} {ml : Nat → Nat → Int64} {c : Nat → Nat} {n e : Nat} {m0 : Nat → Nat → Int32} {l0 : Nat → Nat → Int64} {x : BSt} (hx : WFb x) (hC : CSb c n m0 l0 x.2.1 x.2.2.1 x.2.2.2.1 x.2.2.2.2 mi ml) (he : e < 32 ^ 8) (h1 : takenP x e → K (some (.int (nI 1))) (S0, mi, ml)) (h0 : ¬ takenP x e → K (some (.int (nI 0))) (S0, mi, ml)) : cq E (d + 2) 35 [.ref 48, .long (lN e)] K mi ml := by
  obtain ⟨g1, g2, ⟨r1, r2, r3, v, v1, v2, v3⟩, g4, g5⟩ := id hC
  have x0 : x.2.1 0 ≤ 6 := hx.1.1.1.1
  have x1 : x.2.1 1 ≤ 8 := hx.1.1.1.2.1
  have f1 := fnd_le x.2.2.1 e (x.2.1 0)
  have f2 := fnd_le x.2.2.2.1 e (x.2.1 1)
  apply en_X1_isTaken
  apply s_omenNamed bt_28 x0 r1.1.2.2.2.2.1 (fun k hk => ⟨hx.2.2.2.2.1 k hk, r2 k hk⟩) he
  apply rg_X1_isTaken_8
  rw [nP_0 (by omega)]
  refine ⟨fun q => h1 (Or.inl q), fun q => ?_⟩
  apply s_personNamed bt_28 x1 r1.1.2.2.2.2.2.1 (fun k hk => ⟨hx.2.2.2.2.2 k hk, r3 k hk⟩) he
  apply rg_X1_isTaken_20
  rw [nP_0 (by omega)]
  exact ⟨fun q2 => h0 (fun z => z.elim q (fun y => y q2)), fun q2 => h1 (Or.inr q2)⟩
theorem s_addOmen {E : am_E} {d : Nat} {K : am_K} {mi : Nat → Nat → Int32} {ml : Nat → Nat → Int64} {a : Nat → Nat} {v : Nat} {nm : Int64} (hC : CB 28 a mi) (h6 : a 0 < 6) (hk : CB 28 (signA a v) (am_si (am_si mi 29 (a 0) (nI v)) 28 4 (nI (a 0 + 1))) → K (some (.int (nI (a 0)))) (S0, am_si (am_si mi 29 (a 0) (nI v)) 28 4 (nI (a 0 + 1)), am_sj ml 30 (a 0) nm)) : cq E (d + 1) 15 [.ref 28, .long nm, .int (nI v)] K mi ml := by
  obtain ⟨⟨c0, c1, c2, c3, c4, c5, c6, c7⟩, cp, cr⟩ := id hC
  apply en_X0_addOmen bt_28
  rw [c4, ni_cl (by omega), si_f (f := mi) (by omega), c4, ni_cl (by omega), si_t ⟨rfl, rfl⟩, nI_add, ni_lt (by omega) (by omega), ni_sub (by omega), Nat.add_sub_cancel]
  refine br_t h6 ⟨by rw [ni_in (by omega)]; omega, by rw [ni_in (by omega)]; omega, hk ?_⟩
  have e0 : signA a v 0 = a 0 + 1 := up1_at
  have ej : ∀ j, ¬ j = 0 → ¬ j = 10 + a 0 → signA a v j = a j := fun j j1 j2 => by
    unfold signA up1; rw [if_neg j1, if_neg j2]
  have e10 : signA a v (10 + a 0) = v := by
    unfold signA up1; rw [if_neg (by omega), if_pos rfl]
  have ab : aboA (signA a v) = aboA a := by unfold aboA; rw [ej 1 (by omega) (by omega), ej 7 (by omega) (by omega)]
  refine ⟨⟨?_, ?_, ?_, ?_, ?_, ?_, ?_, ?_⟩, fun o ho => ?_, fun p hp => ?_⟩
  · rw [si_f (by omega), si_f (by omega), ej 2 (by omega) (by omega)]; exact c0
  · rw [si_f (by omega), si_f (by omega), ej 3 (by omega) (by omega)]; exact c1
  · rw [si_f (by omega), si_f (by omega), ej 4 (by omega) (by omega)]; exact c2
  · rw [si_f (by omega), si_f (by omega), ej 5 (by omega) (by omega)]; exact c3
  · rw [si_t ⟨rfl, rfl⟩, e0]
  · rw [si_f (by omega), si_f (by omega), ej 1 (by omega) (by omega)]; exact c5
  · rw [si_f (by omega), si_f (by omega), ej 6 (by omega) (by omega)]; exact c6
  · rw [si_f (by omega), si_f (by omega), ab]; exact c7
  · rw [e0] at ho
    rw [si_f (by omega)]
    by_cases eo : o = a 0
    · rw [eo, si_t ⟨rfl, rfl⟩, e10]
    · rw [si_f (by omega), ej (10 + o) (by omega) (by omega)]; exact cp o (by omega)
  · rw [ej 1 (by omega) (by omega)] at hp
    obtain ⟨y1, y2, y3, y4⟩ := cr p hp
    rw [si_f (by omega), si_f (by omega), si_f (by omega), si_f (by omega), si_f (by omega), si_f (by omega), si_f (by omega), si_f (by omega), ej _ (by omega) (by omega), ej _ (by omega) (by omega), ej _ (by omega) (by omega)]
    have es : seesA (signA a v) p = seesA a p := by unfold seesA; rw [ej 1 (by omega) (by omega), ej _ (by omega) (by omega)]
    rw [es]
    exact ⟨y1, y2, y3, y4⟩
/-- the token at r is taken: is it the stop? -/
theorem stop_in {c : Nat → Nat} {n r : Nat} {K : am_K} {m0 : Nat → Nat → Int32} {l0 : Nat → Nat → Int64} {a on pn : Nat → Nat} {t : Nat} {mi : Nat → Nat → Int32} {ml : Nat → Nat → Int64} (hC : CSb c n m0 l0 a on pn t mi ml) (hk : ¬ tkK c n r = 4) (hT : TC c n r mi ml) (h : stopW c n r (Gc c n K m0 l0 (tkE c n r, a, on, pn, t)) (Bc K m0 l0)) : (¬ (mi 46 5) = (nI 2) → K (some (.int (nI 0))) (S0, am_si (am_si mi 46 9 (nI 2)) 46 10 ((am_si mi 46 9 (nI 2)) 46 4), ml)) ∧ (¬ (¬ (mi 46 5) = (nI 2)) → ((¬ (mi 46 6) = (nI 59) → K (some (.int (nI 0))) (S0, am_si (am_si mi 46 9 (nI 2)) 46 10 ((am_si mi 46 9 (nI 2)) 46 4), ml)) ∧ (¬ (¬ (mi 46 6) = (nI 59)) → K (some (.int (nI 1))) (S0, mi, ml)))) := by
  obtain ⟨t1, t2, t3, t4, t5, t6, t7⟩ := id hT
  have hk4 := tkK_le c n r
  have bad : ¬ isSt c n r → K (some (.int (nI 0))) (S0, am_si (am_si mi 46 9 (nI 2)) 46 10 ((am_si mi 46 9 (nI 2)) 46 4), ml) := fun z => by
    have := h.2 z
    rw [badK_n hk] at this
    exact Bc_in hC this t2
  rw [t3, ni_eq (by omega) (by omega)]
  refine ⟨fun q => bad (fun z => q z.1), fun q => ?_⟩
  have k2 : tkK c n r = 2 := Classical.byContradiction q
  have hs : tkS c n r < n := by
    apply Classical.byContradiction; intro y
    unfold tkK kN at k2
    rw [if_pos (by omega)] at k2; omega
  have hcb := (hC.2.2.2.1.2.2.1 _ hs).1
  rw [t7 k2, ni_eq (by omega) (by omega)]
  exact ⟨fun q2 => bad (fun z => q2 z.2), fun q2 => h.1 ⟨k2, Classical.byContradiction q2⟩ _ _ hC t1⟩
theorem kw_in {c : Nat → Nat} {n r w : Nat} {mi : Nat → Nat → Int32} {ml : Nat → Nat → Int64} (hw : w < 22) (hT : TC c n r mi ml) : (mi 46 8 = nI w) ↔ tkW c n r = w + 1 := by
  have := tkW_le c n r
  rw [hT.2.2.2.1, show nI w = nP (w + 1) from rfl, nP_eq (by omega) (by omega)]
theorem tkW_bad {c : Nat → Nat} {n r w : Nat} (h : tkK c n r = 4) : ¬ tkW c n r = w + 1 := fun z => by unfold tkW at z; rw [if_neg (by omega)] at z; omega
/-- the next token is taken; if it is none, stopW says so -/
theorem adv_bad {c : Nat → Nat} {n r : Nat} {K : am_K} {m0 : Nat → Nat → Int32} {l0 : Nat → Nat → Int64} {a on pn : Nat → Nat} {t : Nat} {A : Prop} {mi mi' : Nat → Nat → Int32} {ml ml' : Nat → Nat → Int64} (hC : CSb c n m0 l0 a on pn t mi ml) (f1 : frT mi mi') (f2 : frU ml ml') (hA : ADV c n r mi mi' ml') (hk : tkK c n r = 4) (h : stopW c n r A (Bc K m0 l0)) : K (some (.int (nI 0))) (S0, mi', ml') := by
  have h2 := h.2 (fun z => by have := z.1; omega)
  rw [badK_4 hk] at h2
  exact Bc_go hC h2 f1 f2 (hA.1 hk)
theorem s_readSign {E : am_E} {d : Nat} {K : am_K} {mi : Nat → Nat → Int32} {ml : Nat → Nat → Int64} {c : Nat → Nat} {n : Nat} {m0 : Nat → Nat → Int32} {l0 : Nat → Nat → Int64} {x : BSt} (hx : WFb x) (hC : CSb c n m0 l0 x.2.1 x.2.2.1 x.2.2.2.1 x.2.2.2.2 mi ml) (hp : x.1 ≤ n) (hT : TC c n x.1 mi ml) (h : signW c n x (Gc c n K m0 l0) (Bc K m0 l0)) : cq E (d + 5) 36 [.ref 48] K mi ml := by
  have e1 := tkE_ge (c := c) hp
  have e2 := tkE_ge (c := c) e1.2
  have e3 := tkE_ge (c := c) e2.2
  have e4 := tkE_ge (c := c) e3.2
  have e5 := tkE_ge (c := c) e4.2
  have x0 : x.2.1 0 ≤ 6 := hx.1.1.1.1
  have x6 : x.2.1 6 < 2 ^ x.2.1 0 := hx.1.1.1.2.2.2.2.2.2.2.1
  apply en_X1_readSign
  rw [hC.2.2.1.1.1.2.2.2.2.1, ni_lt (by omega) (by omega)]
  refine ⟨fun q => ?_, fun q => Bc_in hC (h.1 (by omega)) hT.2.1⟩
  have h2 := h.2 (by omega)
  apply s_wantName hC.2.2.2.1 e1.2 hT.1
  · intro q2 m l f1 f2 hT1 hs
    have hC1 := CSb_tok hC f1 f2 hs
    apply rg_X1_readSign_29
    refine br_t n10 ?_
    rw [hT1.2.2.2.2.1]
    have h3 := h2.1 q2
    apply s_isTaken hx hC1 (tkC_lt _ _ _)
    · intro q3
      apply rg_X1_readSign_47
      exact br_f n10 (Bc_in hC1 (h3.1 q3) hT1.2.1)
    intro q3
    apply rg_X1_readSign_47
    refine br_t rfl ?_
    have h4 := h3.2 q3
    apply s_wantKeyword hC1.2.2.2.1 e2.2 hT1.1 (by omega)
    · intro q4 m2 l2 f1 f2 hT2 hs2
      have hC2 := CSb_tok hC1 f1 f2 hs2
      apply rg_X1_readSign_67
      refine br_f n10 ?_
      have h5 := h4.1 q4
      apply s_wantNumber hC2.2.2.2.1 e3.2 hT2.1 (by omega) (by omega)
      · intro q5 m3 l3 f1 f2 hT3 hs3
        have hC3 := CSb_tok hC2 f1 f2 hs3
        apply rg_X1_readSign_79
        refine br_t n10 ?_
        have h6 := h5.1 q5
        rw [hT3.2.2.2.2.2.1 q5.1]
        apply s_addOmen hC3.2.2.1.1 q
        intro hCB
        have hC4 : CSb c n m0 l0 (signA x.2.1 (tkV c n (tkE c n (tkE c n (tkE c n x.1))))) (up1 x.2.2.1 (x.2.1 0) (tkC c n (tkE c n x.1))) x.2.2.2.1 x.2.2.2.2 (am_si (am_si m3 29 (x.2.1 0) (nI (tkV c n (tkE c n (tkE c n (tkE c n x.1)))))) 28 4 (nI (x.2.1 0 + 1))) (am_sj l3 30 (x.2.1 0) (lN (tkC c n (tkE c n x.1)))) := by
          obtain ⟨g1, g2, ⟨r1, r2, r3, v, v1, v2, v3⟩, g4, g5⟩ := id hC3
          refine CSb_up hC3 (fun k j z1 z2 => by rw [si_f (by omega), si_f (by omega)]) (fun k j z => sj_f (by omega)) ⟨hCB, fun o ho => ?_, fun o ho => ?_, v, v1, by rw [si_f (by omega), si_f (by omega)]; exact v2, v3⟩
          · rw [show signA x.2.1 (tkV c n (tkE c n (tkE c n (tkE c n x.1)))) 0 = x.2.1 0 + 1 from up1_at] at ho
            by_cases eo : o = x.2.1 0
            · rw [eo, sj_t ⟨rfl, rfl⟩, up1_at]
            · rw [sj_f (by omega), up1_f eo]; exact r2 o (by omega)
          · rw [sj_f (by omega)]
            refine r3 o ?_
            have : signA x.2.1 (tkV c n (tkE c n (tkE c n (tkE c n x.1)))) 1 = x.2.1 1 := by
              unfold signA; rw [up1_f (by omega), up1_f (by omega)]
            rw [this] at ho; exact ho
        have p3 : (am_si (am_si m3 29 (x.2.1 0) (nI (tkV c n (tkE c n (tkE c n (tkE c n x.1)))))) 28 4 (nI (x.2.1 0 + 1))) 46 3 = nI (tkE c n (tkE c n (tkE c n (tkE c n x.1)))) := by rw [si_f (by omega), si_f (by omega)]; exact hT3.1
        apply rg_X1_readSign_99
        apply s_advance (d := d + 1) hC4.2.2.2.1 e4.2 p3
        intro m5 l5 f1 f2 hA
        apply rg_X1_readSign_107
        rw [ni_b0, decide_eq_false_iff_not]
        by_cases k4 : tkK c n (tkE c n (tkE c n (tkE c n (tkE c n x.1)))) = 4
        · exact br_f (fun z => z (fun y => y k4)) (adv_bad hC4 f1 f2 hA k4 (h6.2 (tkW_bad k4)))
        obtain ⟨hT5, hs5⟩ := hA.2 k4
        have hC5 := CSb_tok hC4 f1 f2 hs5
        refine br_t (fun z => z k4) ?_
        rw [kw_in (by omega) hT5]
        refine ⟨fun q6 => stop_in hC5 k4 hT5 (h6.2 q6), fun q6 => ?_⟩
        obtain ⟨r1, r2, r3, v, v1, v2, v3⟩ := id hC5.2.2.1
        rw [r1.1.2.2.2.2.2.2.1, show signA x.2.1 (tkV c n (tkE c n (tkE c n (tkE c n x.1)))) 6 = x.2.1 6 by unfold signA; rw [up1_f (by omega), up1_f (by omega)], ms_or (by omega)]
        refine s_stopC (d := d) (K := K) (CSb_up hC5 (fun k j z1 z2 => si_f (by omega)) (fun _ _ _ => rfl) ⟨CB_shown r1 _, fun o ho => r2 o (by rw [up1_f (by omega)] at ho; exact ho), fun o ho => r3 o (by rw [up1_f (by omega)] at ho; exact ho), v, v1, by rw [si_f (by omega)]; exact v2, v3⟩) e5.2 (by rw [si_f (by omega)]; exact hT5.1) (fun r m l q h => rg_X1_readSign_145 ⟨q, h⟩) (h6.1 (Classical.byContradiction q6))
      · intro q5 m3 l3 f1 f2 hf
        apply rg_X1_readSign_79
        exact br_f (fun z => z rfl) (Bc_go hC2 (h5.2 q5) f1 f2 hf)
    · intro q4 m2 l2 f1 f2 hf
      apply rg_X1_readSign_67
      exact br_t rfl (Bc_go hC1 (h4.2 q4) f1 f2 hf)
  · intro q2 m l f1 f2 hf
    apply rg_X1_readSign_29
    exact br_f (fun z => z rfl) (Bc_go hC (h2.2 q2) f1 f2 hf)
theorem up1_up1 {a : Nat → Nat} {k v w : Nat} : up1 (up1 a k v) k w = up1 a k w := by
  funext j; unfold up1; split
  · rfl
  · rfl
theorem up1_id {a : Nat → Nat} {k v : Nat} (h : a k = v) : up1 a k v = a := by
  funext j; unfold up1; split
  · next e => rw [e, h]
  · rfl
theorem RCb_sub {a a' on pn : Nat → Nat} {t : Nat} {mi mi' : Nat → Nat → Int32} {ml : Nat → Nat → Int64} (h : RCb a on pn t mi ml) (hC : CB 28 a' mi') (e0 : a' 0 = a 0) (e1 : a' 1 = a 1) (e2 : mi' 48 2 = mi 48 2) : RCb a' on pn t mi' ml := by
  obtain ⟨r1, r2, r3, v, v1, v2, v3⟩ := h
  exact ⟨hC, fun o ho => r2 o (by rw [e0] at ho; exact ho), fun o ho => r3 o (by rw [e1] at ho; exact ho), v, v1, by rw [e2]; exact v2, v3⟩
theorem s_readExcuses {E : am_E} {d : Nat} {K : am_K} {mi : Nat → Nat → Int32} {ml : Nat → Nat → Int64} {c : Nat → Nat} {n q r m : Nat} {m0 : Nat → Nat → Int32} {l0 : Nat → Nat → Int64} {a1 on pn1 : Nat → Nat} {t : Nat} (hq : q < 8) (h0 : a1 0 = m) (h1 : a1 1 = q + 1) (hm : m ≤ 6) (hz : a1 (16 + 4 * q + 2) = 0) (hon : ∀ o, o < m → on o < 32 ^ 8) (hC : CSb c n m0 l0 a1 on pn1 t mi ml) (h3 : mi 46 3 = nI r) (hr : r ≤ n) (h : excW c n on m (fun p s => Gc c n K m0 l0 (p, up1 a1 (16 + 4 * q + 2) s, on, pn1, t)) (Bc K m0 l0) 7 r 0) : cq E (d + 4) 38 [.ref 48, .int (nI q)] K mi ml := by
  have key : ∀ f i, i + f = 7 → ∀ r s mi ml, CSb c n m0 l0 (up1 a1 (16 + 4 * q + 2) s) on pn1 t mi ml → mi 46 3 = nI r → r ≤ n → s < 2 ^ m → cnt6 s = i → excW c n on m (fun p s => Gc c n K m0 l0 (p, up1 a1 (16 + 4 * q + 2) s, on, pn1, t)) (Bc K m0 l0) f r s → rn E (d + 3) 38 K 2 [.ref 48, .int (nI q), .int (nI i), am_mk] [] mi ml := by
    intro f
    induction f with
    | zero =>
      intro i hi r s mi ml _ _ _ _ hc _
      have := cnt6_le s
      omega
    | succ f ih =>
      intro i hi r s mi ml hC h3 hr hs hcn h
      have hs64 : s < 64 := Nat.lt_of_lt_of_le hs (Nat.pow_le_pow_right (n := 2) (by omega) hm)
      have e1 := tkE_ge (c := c) hr
      apply rg_X1_readExcuses_2
      rw [ni_lt (by omega) (by omega)]
      refine br_f (by omega) ?_
      apply s_advance hC.2.2.2.1 hr h3
      intro m1 l1 f1 f2 hA
      apply rg_X1_readExcuses_15
      rw [ni_b0, decide_eq_false_iff_not]
      by_cases k4 : tkK c n r = 4
      · exact br_f (fun z => z (fun y => y k4)) (adv_bad hC f1 f2 hA k4 (h.2 (fun z => by have := z.1; omega)))
      obtain ⟨hT, hs1⟩ := hA.2 k4
      have hC1 := CSb_tok hC f1 f2 hs1
      refine br_t (fun z => z k4) ?_
      obtain ⟨t1, t2, t3, t4, t5, t6, t7⟩ := id hT
      have hk4 := tkK_le c n r
      have hw := tkW_le c n r
      have hcl := tkC_lt c n r
      have bad : ¬ isNm c n r → ¬ isSt c n r → K (some (.int (nI 0))) (S0, am_si (am_si m1 46 9 (nI 2)) 46 10 ((am_si m1 46 9 (nI 2)) 46 4), l1) := fun z z2 => by
        have := (h.2 z).2 z2
        rw [badK_n k4] at this
        exact Bc_in hC1 this t2
      have good : isNm c n r → cq E (d + 3) 13 [.ref 28, .long (l1 46 7)] (kc E (d + 3) 38 K 65 [.ref 48, .int (nI q), .int (nI i), am_mk] []) m1 l1 := fun z => by
        obtain ⟨h5, h6⟩ := h.1 z
        have hfl := fnd_le on (tkC c n r) m
        rw [t5]
        apply s_omenNamed (m := m) (N := on) bt_28 hm (by rw [hC1.2.2.1.1.1.2.2.2.2.1, up1_f (by omega), h0]) (fun k hk => ⟨hon k hk, hC1.2.2.1.2.1 k (by rw [up1_f (by omega), h0]; exact hk)⟩) hcl
        apply rg_X1_readExcuses_65
        rw [nP_0 (by omega)]
        refine ⟨fun q2 => ⟨by rw [ni_in (by omega)]; omega, ?_⟩, fun q2 => Bc_in hC1 (h5 (Classical.byContradiction q2)) t2⟩
        obtain ⟨h7, h8⟩ := h6 q2
        generalize ef : fnd on (tkC c n r) m = u at *
        obtain ⟨u', rfl⟩ : ∃ u', u = u' + 1 := ⟨u - 1, by omega⟩
        rw [Nat.add_sub_cancel] at h7 h8
        have em : m1 33 q = nI s := by
          have := (hC1.2.2.1.1.2.2 q (by rw [up1_f (by omega), h1]; omega)).2.2.1
          rw [up1_at] at this; exact this
        rw [ni_cl (by omega), em, nP_s, ni_bit (by omega) (by omega), ni_b0, ms_or (by omega), nI_add]
        refine ⟨fun q3 => ⟨by rw [ni_in (by omega)]; omega, by rw [ni_in (by omega)]; omega, ?_⟩, fun q3 => Bc_in hC1 (h7 (bt_nf q3)) t2⟩
        have q3' : ¬ s.testBit u' = true := by rw [q3]; decide
        refine ih (i + 1) (by omega) (tkE c n r) (s ||| 1 <<< u') _ _ (CSb_up hC1 (fun k j z1 z2 => si_f (by omega)) (fun _ _ _ => rfl) (RCb_sub hC1.2.2.1 ?_ (by rw [up1_f (by omega), up1_f (by omega)]) (by rw [up1_f (by omega), up1_f (by omega)]) (si_f (by omega)))) (by rw [si_f (by omega)]; exact t1) e1.2 (or_lt hs (by omega)) (by rw [cnt6_or s hs64 u' (by omega) q3', hcn]) (h8 q3')
        have := CB_pers (b := 28) (by rw [up1_f (by omega), h0]; exact hm) hC1.2.2.1.1 q 2 (s ||| 1 <<< u') (nI (s ||| 1 <<< u')) (Or.inr (Or.inl rfl)) rfl
        rw [up1_up1] at this
        exact this
      have nc : ¬ isSt c n r → (¬ (m1 46 5) = (nI 0) → K (some (.int (nI 0))) (S0, am_si (am_si m1 46 9 (nI 2)) 46 10 ((am_si m1 46 9 (nI 2)) 46 4), l1)) ∧ (¬ (¬ (m1 46 5) = (nI 0)) → ((¬ (m1 46 8) = nM → K (some (.int (nI 0))) (S0, am_si (am_si m1 46 9 (nI 2)) 46 10 ((am_si m1 46 9 (nI 2)) 46 4), l1)) ∧ (¬ (¬ (m1 46 8) = nM) → (((lg_cmp (l1 46 7) 0) = (nI 0) → K (some (.int (nI 0))) (S0, am_si (am_si m1 46 9 (nI 2)) 46 10 ((am_si m1 46 9 (nI 2)) 46 4), l1)) ∧ (¬ ((lg_cmp (l1 46 7) 0) = (nI 0)) → cq E (d + 3) 13 [.ref 28, .long (l1 46 7)] (kc E (d + 3) 38 K 65 [.ref 48, .int (nI q), .int (nI i), am_mk] []) m1 l1))))) := fun z => by
        have ec : (lg_cmp (l1 46 7) 0 = nI 0) ↔ tkC c n r = 0 := by
          have := @lgc_eq (l1 46 7) 0
          rw [t5, lN_0, lgc_eq, pk_lEQ (by omega) (by omega)]
        rw [ec, t3, t4, ni_eq (by omega) (by omega), nP_0 (by omega)]
        exact ⟨fun q => bad (fun y => q y.1) z, fun q => ⟨fun q2 => bad (fun y => q2 y.2.1) z, fun q2 => ⟨fun q3 => bad (fun y => y.2.2 q3) z, fun q3 => good ⟨Classical.byContradiction q, Classical.byContradiction q2, q3⟩⟩⟩⟩
      have t3' : (m1 46 5 = nI 2) ↔ tkK c n r = 2 := by rw [t3, ni_eq (by omega) (by omega)]
      by_cases k2 : tkK c n r = 2
      · refine br_f (fun z => z (t3'.mpr k2)) ?_
        have hs : tkS c n r < n := by
          apply Classical.byContradiction; intro y
          unfold tkK kN at k2
          rw [if_pos (by omega)] at k2; omega
        have hcb := (hC1.2.2.2.1.2.2.1 _ hs).1
        have t7' : (m1 46 6 = nI 59) ↔ c (tkS c n r) = 59 := by rw [t7 k2, ni_eq (by omega) (by omega)]
        refine ⟨fun z => nc (fun y => z (t7'.mpr y.2)), fun z => ?_⟩
        exact (h.2 (fun y => by have := y.1; omega)).1 ⟨k2, t7'.mp (Classical.byContradiction z)⟩ _ _ hC1 t1
      · exact br_t (fun z => k2 (t3'.mp z)) (nc (fun y => k2 y.1))
  apply en_X1_readExcuses
  refine key 7 0 rfl r 0 mi ml ?_ h3 hr (Nat.pow_pos (by omega)) (by decide) h
  rw [up1_id hz]; exact hC
theorem ndif_or (m x y : Nat) : ndif (ndif m x) y = ndif m (x ||| y) := by
  apply Nat.eq_of_testBit_eq; intro i
  rw [tb_dif, tb_dif, tb_dif, Nat.testBit_or]
  cases m.testBit i <;> cases x.testBit i <;> cases y.testBit i <;> rfl
/-- a person's end: excuses or the stop -/
theorem persT_in {E : am_E} {d : Nat} {K : am_K} {c : Nat → Nat} {n r : Nat} {m0 : Nat → Nat → Int32} {l0 : Nat → Nat → Int64} {x : BSt} {a1 pn1 : Nat → Nat} {mi : Nat → Nat → Int32} {ml : Nat → Nat → Int64} (hx : WFb x) (h8 : x.2.1 1 < 8) (hr : r ≤ n) (e0 : a1 0 = x.2.1 0) (e1 : a1 1 = x.2.1 1 + 1) (e2 : a1 (16 + 4 * x.2.1 1 + 2) = 0) (hC : CSb c n m0 l0 a1 x.2.2.1 pn1 x.2.2.2.2 mi ml) (hk : ¬ tkK c n r = 4) (hT : TC c n r mi ml) (h : persT c n r x a1 pn1 (Gc c n K m0 l0) (Bc K m0 l0)) : (¬ (mi 46 8) = (nI 9) → ((¬ (mi 46 5) = (nI 2) → (K (some (.int (nI 0))) (S0, am_si (am_si mi 46 9 (nI 2)) 46 10 ((am_si mi 46 9 (nI 2)) 46 4), ml))) ∧ (¬ (¬ (mi 46 5) = (nI 2)) → ((¬ (mi 46 6) = (nI 59) → (K (some (.int (nI 0))) (S0, am_si (am_si mi 46 9 (nI 2)) 46 10 ((am_si mi 46 9 (nI 2)) 46 4), ml))) ∧ (¬ (¬ (mi 46 6) = (nI 59)) → (K (some (.int (nI 1))) (S0, mi, ml))))))) ∧ (¬ (¬ (mi 46 8) = (nI 9)) → (cq E (d + 4) 38 [.ref 48, .int (nI (x.2.1 1))] (kc E (d + 4) 37 K 172 [am_mk, am_mk, am_mk, am_mk] []) mi ml)) := by
  have x0 : x.2.1 0 ≤ 6 := hx.1.1.1.1
  rw [kw_in (by omega) hT]
  refine ⟨fun q => stop_in hC hk hT (h.2 q), fun q => ?_⟩
  have hP : PAS K (kc E (d + 4) 37 K 172 [am_mk, am_mk, am_mk, am_mk] []) := fun r m l q h => rg_X1_readPerson_172 ⟨q, h⟩
  refine s_readExcuses h8 e0 e1 x0 e2 (fun o ho => hx.2.2.2.2.1 o ho) hC hT.1 (tkE_ge hr).2 (excW_mono x0 (fun k s hb m l f1 f2 hf => hP _ _ _ (Or.inl rfl) (hb m l f1 f2 hf)) 7 _ _ (tkE_ge hr).2 (Nat.pow_pos (by omega)) (fun p s _ _ _ hg m l f1 f2 => hP _ _ _ (Or.inr rfl) (hg m l f1 f2)) (h.1 (Classical.byContradiction q)))
theorem s_readPerson {E : am_E} {d : Nat} {K : am_K} {mi : Nat → Nat → Int32} {ml : Nat → Nat → Int64} {c : Nat → Nat} {n : Nat} {m0 : Nat → Nat → Int32} {l0 : Nat → Nat → Int64} {x : BSt} (hx : WFb x) (hC : CSb c n m0 l0 x.2.1 x.2.2.1 x.2.2.2.1 x.2.2.2.2 mi ml) (hp : x.1 ≤ n) (hT : TC c n x.1 mi ml) (h : persW c n x (Gc c n K m0 l0) (Bc K m0 l0)) : cq E (d + 5) 37 [.ref 48] K mi ml := by
  have e1 := tkE_ge (c := c) hp
  have e2 := tkE_ge (c := c) e1.2
  have e3 := tkE_ge (c := c) e2.2
  have e4 := tkE_ge (c := c) e3.2
  have e5 := tkE_ge (c := c) e4.2
  have x0 : x.2.1 0 ≤ 6 := hx.1.1.1.1
  have x1 : x.2.1 1 ≤ 8 := hx.1.1.1.2.1
  apply en_X1_readPerson
  rw [hC.2.2.1.1.1.2.2.2.2.2.1, ni_lt (by omega) (by omega)]
  refine ⟨fun q => ?_, fun q => Bc_in hC (h.1 (by omega)) hT.2.1⟩
  have h2 := h.2 (by omega)
  apply s_wantName hC.2.2.2.1 e1.2 hT.1
  · intro q2 m l f1 f2 hT1 hs
    have hC1 := CSb_tok hC f1 f2 hs
    apply rg_X1_readPerson_29
    refine br_t n10 ?_
    rw [hT1.2.2.2.2.1]
    have h3 := h2.1 q2
    apply s_isTaken hx hC1 (tkC_lt _ _ _)
    · intro q3
      apply rg_X1_readPerson_47
      exact br_f n10 (Bc_in hC1 (h3.1 q3) hT1.2.1)
    intro q3
    apply rg_X1_readPerson_47
    refine br_t rfl ?_
    have h4 := h3.2 q3
    apply s_wantKeyword hC1.2.2.2.1 e2.2 hT1.1 (by omega)
    · intro q4 m2 l2 f1 f2 hT2 hs2
      have hC2 := CSb_tok hC1 f1 f2 hs2
      apply rg_X1_readPerson_68
      refine br_f n10 ?_
      have h5 := h4.1 q4
      apply s_wantNumber hC2.2.2.2.1 e3.2 hT2.1 (by omega) (by omega)
      · intro q5 m3 l3 f1 f2 hT3 hs3
        have hC3 := CSb_tok hC2 f1 f2 hs3
        apply rg_X1_readPerson_81
        refine br_t n10 ?_
        have h6 := h5.1 q5
        rw [hT3.2.2.2.2.2.1 q5.1]
        apply s_addPerson bt_28 hC3.2.2.1.1 hx.1.1 q
        intro m4 fC hCB
        generalize ev : tkV c n (tkE c n (tkE c n (tkE c n x.1))) = v at *
        generalize er : tkE c n (tkE c n (tkE c n (tkE c n x.1))) = r at *
        have c0 : comeA x.2.1 v 0 = x.2.1 0 := comeA_lo (by omega) (by omega)
        have hC4 : CSb c n m0 l0 (comeA x.2.1 v) x.2.2.1 (up1 x.2.2.2.1 (x.2.1 1) (tkC c n (tkE c n x.1))) x.2.2.2.2 m4 (am_sj l3 35 (x.2.1 1) (lN (tkC c n (tkE c n x.1)))) := by
          obtain ⟨g1, g2, ⟨r1, r2, r3, w, v1, v2, v3⟩, g4, g5⟩ := id hC3
          refine CSb_up hC3 (fun k j z1 z2 => by rw [fC k (by omega)]) (fun k j z => sj_f (by omega)) ⟨hCB, fun o ho => ?_, fun o ho => ?_, w, v1, by rw [fC 48 (by omega)]; exact v2, v3⟩
          · rw [c0] at ho
            rw [sj_f (by omega)]; exact r2 o ho
          · rw [comeA_1] at ho
            by_cases eo : o = x.2.1 1
            · rw [eo, sj_t ⟨rfl, rfl⟩, up1_at]
            · rw [sj_f (by omega), up1_f eo]; exact r3 o (by omega)
        have p3 : m4 46 3 = nI r := by rw [fC 46 (by omega), ← er]; exact hT3.1
        have cz : comeA x.2.1 v (16 + 4 * x.2.1 1 + 2) = 0 := comeA_z _ _ (by omega) (by omega)
        apply rg_X1_readPerson_101
        apply s_advance (d := d + 1) hC4.2.2.2.1 e4.2 p3
        intro m5 l5 f1 f2 hA
        apply rg_X1_readPerson_109
        rw [ni_b0, decide_eq_false_iff_not]
        by_cases k4 : tkK c n r = 4
        · exact br_f (fun z => z (fun y => y k4)) (adv_bad hC4 f1 f2 hA k4 ((h6.2 (tkW_bad k4)).2 (tkW_bad k4)))
        obtain ⟨hT5, hs5⟩ := hA.2 k4
        have hC5 := CSb_tok hC4 f1 f2 hs5
        have e8 : (m5 46 8 = nI 8) ↔ tkW c n r = 8 + 1 := kw_in (by omega) hT5
        refine br_t (fun z => z k4) ⟨fun q6 => ?_, fun q6 => ?_⟩
        · exact persT_in hx q e4.2 c0 rfl cz hC5 k4 hT5 (h6.2 (fun z => q6 (e8.mpr z)))
        · have h7 := h6.1 (e8.mp (Classical.byContradiction q6))
          obtain ⟨r1, r2, r3, w, v1, v2, v3⟩ := id hC5.2.2.1
          have ab : aboA (comeA x.2.1 v) = ndif (2 ^ (x.2.1 1 + 1) - 1) (x.2.1 7) := by
            unfold aboA; rw [comeA_1, comeA_lo (by omega) (by omega)]
          rw [r1.1.2.2.2.2.2.2.2, ni_shl (by omega), ni_dif, ab, ndif_or]
          have hCB6 := CB_out r1 (x.2.1 7 ||| 1 <<< x.2.1 1)
          rw [comeA_1] at hCB6
          have hC6 := CSb_up (mi' := am_si m5 28 7 (nI (ndif (2 ^ (x.2.1 1 + 1) - 1) (x.2.1 7 ||| 1 <<< x.2.1 1)))) hC5 (fun k j z1 z2 => si_f (by omega)) (fun _ _ _ => rfl) (RCb_sub hC5.2.2.1 hCB6 (by rw [up1_f (by omega)]) (by rw [up1_f (by omega)]) (si_f (by omega)))
          apply s_advance (d := d + 1) hC6.2.2.2.1 e5.2 (by rw [si_f (by omega)]; exact hT5.1)
          intro m7 l7 f1 f2 hA
          apply rg_X1_readPerson_150
          rw [ni_b0, decide_eq_false_iff_not]
          by_cases k5 : tkK c n (tkE c n r) = 4
          · exact br_f (fun z => z (fun y => y k5)) (adv_bad hC6 f1 f2 hA k5 (h7.2 (tkW_bad k5)))
          obtain ⟨hT7, hs7⟩ := hA.2 k5
          have hC7 := CSb_tok hC6 f1 f2 hs7
          refine br_t (fun z => z k5) ?_
          exact persT_in hx q e5.2 (by rw [up1_f (by omega)]; exact c0) (by rw [up1_f (by omega)]; rfl) (by rw [up1_f (by omega)]; exact cz) hC7 k5 hT7 h7
      · intro q5 m3 l3 f1 f2 hf
        apply rg_X1_readPerson_81
        exact br_f (fun z => z rfl) (Bc_go hC2 (h5.2 q5) f1 f2 hf)
    · intro q4 m2 l2 f1 f2 hf
      apply rg_X1_readPerson_68
      exact br_t rfl (Bc_go hC1 (h4.2 q4) f1 f2 hf)
  · intro q2 m l f1 f2 hf
    apply rg_X1_readPerson_29
    exact br_f (fun z => z rfl) (Bc_go hC (h2.2 q2) f1 f2 hf)
theorem s_readBlind {E : am_E} {d : Nat} {K : am_K} {mi : Nat → Nat → Int32} {ml : Nat → Nat → Int64} {c : Nat → Nat} {n : Nat} {m0 : Nat → Nat → Int32} {l0 : Nat → Nat → Int64} {x : BSt} (hx : WFb x) (hC : CSb c n m0 l0 x.2.1 x.2.2.1 x.2.2.2.1 x.2.2.2.2 mi ml) (hp : x.1 ≤ n) (hT : TC c n x.1 mi ml) (h : bliW c n x (Gc c n K m0 l0) (Bc K m0 l0)) : cq E (d + 5) 39 [.ref 48] K mi ml := by
  have e1 := tkE_ge (c := c) hp
  have e2 := tkE_ge (c := c) e1.2
  have e3 := tkE_ge (c := c) e2.2
  have x0 : x.2.1 0 ≤ 6 := hx.1.1.1.1
  have x1 : x.2.1 1 ≤ 8 := hx.1.1.1.2.1
  have nm : ∀ {m l}, CSb c n m0 l0 x.2.1 x.2.2.1 x.2.2.2.1 x.2.2.2.2 m l → ∀ k, k < x.2.1 1 → x.2.2.2.1 k < 32 ^ 8 ∧ l (28 + 7) k = lN (x.2.2.2.1 k) := fun hh k hk => ⟨hx.2.2.2.2.2 k hk, hh.2.2.1.2.2.1 k hk⟩
  apply en_X1_readBlind
  apply s_wantName hC.2.2.2.1 e1.2 hT.1
  · intro q2 m l f1 f2 hT1 hs
    have hC1 := CSb_tok hC f1 f2 hs
    have h3 := h.1 q2
    apply rg_X1_readBlind_7
    refine br_t n10 ?_
    rw [hT1.2.2.2.2.1]
    have fl1 := fnd_le x.2.2.2.1 (tkC c n (tkE c n x.1)) (x.2.1 1)
    apply s_personNamed bt_28 x1 hC1.2.2.1.1.1.2.2.2.2.2.1 (nm hC1) (tkC_lt _ _ _)
    apply rg_X1_readBlind_26
    rw [nP_0 (by omega)]
    refine ⟨fun q3 => ?_, fun q3 => Bc_in hC1 (h3.1 (Classical.byContradiction q3)) hT1.2.1⟩
    have h4 := h3.2 q3
    apply s_wantName hC1.2.2.2.1 e2.2 hT1.1
    · intro q4 m2 l2 f1 f2 hT2 hs2
      have hC2 := CSb_tok hC1 f1 f2 hs2
      have h5 := h4.1 q4
      apply rg_X1_readBlind_48
      refine br_t n10 ?_
      rw [hT2.2.2.2.2.1]
      have fl2 := fnd_le x.2.2.2.1 (tkC c n (tkE c n (tkE c n x.1))) (x.2.1 1)
      apply s_personNamed bt_28 x1 hC2.2.2.1.1.1.2.2.2.2.2.1 (nm hC2) (tkC_lt _ _ _)
      apply rg_X1_readBlind_67
      generalize fnd x.2.2.2.1 (tkC c n (tkE c n x.1)) (x.2.1 1) = u at *
      generalize fnd x.2.2.2.1 (tkC c n (tkE c n (tkE c n x.1))) (x.2.1 1) = w at *
      rw [nP_0 (by omega), nP_eq (by omega) (by omega)]
      refine ⟨fun q5 => ?_, fun q5 => Bc_in hC2 (h5.1 (Classical.byContradiction q5)) hT2.2.1⟩
      have h6 := h5.2 q5
      refine ⟨fun q6 => ?_, fun q6 => Bc_in hC2 (h6.1 (Classical.byContradiction q6)) hT2.2.1⟩
      have h7 := h6.2 q6
      obtain ⟨u, rfl⟩ : ∃ u', u = u' + 1 := ⟨u - 1, by omega⟩
      obtain ⟨w, rfl⟩ : ∃ u', w = u' + 1 := ⟨w - 1, by omega⟩
      unfold bliA at h7
      rw [Nat.add_sub_cancel, Nat.add_sub_cancel] at h7
      rw [nP_s, nP_s, ni_cl (by omega), (hC2.2.2.1.1.2.2 u (by omega)).2.2.2, ni_shl (by omega), ni_dif]
      refine ⟨by rw [ni_in (by omega)]; omega, by rw [ni_in (by omega)]; omega, ?_⟩
      have hcb := CB_pers (b := 28) x0 hC2.2.2.1.1 u 3 (x.2.1 (16 + 4 * u + 3) ||| 1 <<< w) (nI (ndif (seesA x.2.1 u) (1 <<< w))) (Or.inr (Or.inr rfl)) (by
        rw [if_pos rfl]; unfold seesA; rw [ndif_or, ndif_or, ndif_or, Nat.or_assoc, Nat.or_comm (1 <<< u), ← Nat.or_assoc])
      exact s_stopC (d := d) (K := K) (CSb_up hC2 (fun k j z1 z2 => si_f (by omega)) (fun _ _ _ => rfl) (RCb_sub hC2.2.2.1 hcb (up1_f (by omega)) (up1_f (by omega)) (si_f (by omega)))) e3.2 (by rw [si_f (by omega)]; exact hT2.1) (fun r m l q h => rg_X1_readBlind_120 ⟨q, h⟩) h7
    · intro q4 m2 l2 f1 f2 hf
      apply rg_X1_readBlind_48
      exact br_f (fun z => z rfl) (Bc_go hC1 (h4.2 q4) f1 f2 hf)
  · intro q2 m l f1 f2 hf
    apply rg_X1_readBlind_7
    exact br_f (fun z => z rfl) (Bc_go hC (h.2 q2) f1 f2 hf)
