/-! A boat's text, by the reference. -/
def frN (f g : Nat → Nat → Int32) : Prop := ∀ k j, ¬ (k = 106 ∧ 12 ≤ j ∧ j ≤ 20 ∧ j ≠ 16 ∧ j ≠ 19) → ¬ (k = 107 ∧ 1664 ≤ j) → g k j = f k j
def frNl (f g : Nat → Nat → Int64) : Prop := ∀ k j, ¬ (k = 108 ∧ 56 ≤ j) → g k j = f k j
def RMa (a : Nat → Nat) (mi : Nat → Nat → Int32) : Prop := ∀ k, k < 48 → k ≠ 8 → mi 107 (1664 + k) = nI (a k)
def RMt (t : Nat) (mi : Nat → Nat → Int32) : Prop := ∃ u, u < 64 ∧ mi 106 20 = nI u ∧ ∀ i, i < 3 → u.testBit i = t.testBit i
def CSm (c : Nat → Nat) (n : Nat) (m0 : Nat → Nat → Int32) (l0 : Nat → Nat → Int64) (a on : Nat → Nat) (no : Nat) (pn : Nat → Nat) (np t p : Nat) (mi : Nat → Nat → Int32) (ml : Nat → Nat → Int64) : Prop := (frN m0 mi ∧ frNl l0 ml) ∧ (RMa a mi ∧ RMt t mi ∧ mi 107 1672 = nM) ∧ (NMm 56 on no ml ∧ NMm 62 pn np ml) ∧ TXm c n mi ∧ TM c n p mi ∧ mi 106 18 = nI 0 ∧ mi 106 17 = nM
def Gm (c : Nat → Nat) (n : Nat) (K : am_K) (m0 : Nat → Nat → Int32) (l0 : Nat → Nat → Int64) (x : BSt) : Prop := ∀ mi ml, CSm c n m0 l0 x.2.1 x.2.2.1 (x.2.1 0) x.2.2.2.1 (x.2.1 1) x.2.2.2.2 x.1 mi ml → K (some (.int (nI 1))) (S0, mi, ml)
def Bm (K : am_K) (m0 : Nat → Nat → Int32) (l0 : Nat → Nat → Int64) (k s : Nat) : Prop := ∀ mi ml, frN m0 mi → frNl l0 ml → FLM k s mi → K (some (.int (nI 0))) (S0, mi, ml)
def PF (K K' : am_K) : Prop := ∀ m l, K (some (.int (nI 0))) (S0, m, l) → K' (some (.int (nI 0))) (S0, m, l)
theorem Bm_P {K K' : am_K} {m0 : Nat → Nat → Int32} {l0 : Nat → Nat → Int64} (hP : PF K K') : ∀ k s, Bm K m0 l0 k s → Bm K' m0 l0 k s := fun _ _ hb m l f1 f2 hf => hP _ _ (hb m l f1 f2 hf)
theorem CSm_up {c : Nat → Nat} {n : Nat} {m0 : Nat → Nat → Int32} {l0 : Nat → Nat → Int64} {a on a' : Nat → Nat} {no : Nat} {pn : Nat → Nat} {np t t' p q : Nat} {mi mi' : Nat → Nat → Int32} {ml : Nat → Nat → Int64} (h : CSm c n m0 l0 a on no pn np t p mi ml) (hf : ∀ k j, ¬ (k = 106 ∧ (12 ≤ j ∧ j ≤ 15 ∨ j = 20)) → ¬ (k = 107 ∧ 1664 ≤ j) → mi' k j = mi k j) (hR : RMa a' mi' ∧ RMt t' mi' ∧ mi' 107 1672 = nM) (hM : TM c n q mi') : CSm c n m0 l0 a' on no pn np t' q mi' ml := by
  obtain ⟨⟨a1, a2⟩, _, h3, h4, h5, h6, h7⟩ := h
  exact ⟨⟨fun k j z1 z2 => by rw [hf k j (by omega) z2]; exact a1 k j z1 z2, a2⟩, hR, h3, TXm_fr h4 (fun k j z => hf k j (by omega) (by omega)), hM, by rw [hf 106 18 (by omega) (by omega)]; exact h6, by rw [hf 106 17 (by omega) (by omega)]; exact h7⟩
theorem RM_fr {a : Nat → Nat} {t : Nat} {mi mi' : Nat → Nat → Int32} (h : RMa a mi ∧ RMt t mi ∧ mi 107 1672 = nM) (h1 : ∀ j, 1664 ≤ j → j < 1712 → mi' 107 j = mi 107 j) (h2 : mi' 106 20 = mi 106 20) : RMa a mi' ∧ RMt t mi' ∧ mi' 107 1672 = nM := by
  obtain ⟨r1, ⟨u, u1, u2, u3⟩, r3⟩ := h
  exact ⟨fun k hk h8 => by rw [h1 _ (by omega) (by omega)]; exact r1 k hk h8, ⟨u, u1, by rw [h2]; exact u2, u3⟩, by rw [h1 1672 (by omega) (by omega)]; exact r3⟩
theorem CSm_M {c : Nat → Nat} {n : Nat} {m0 : Nat → Nat → Int32} {l0 : Nat → Nat → Int64} {a on : Nat → Nat} {no : Nat} {pn : Nat → Nat} {np t p q : Nat} {mi mi' : Nat → Nat → Int32} {ml : Nat → Nat → Int64} (h : CSm c n m0 l0 a on no pn np t p mi ml) (f : frM mi mi') (hM : TM c n q mi') : CSm c n m0 l0 a on no pn np t q mi' ml :=
  CSm_up h (fun k j z1 z2 => f k j (by omega)) (RM_fr h.2.1 (fun j _ _ => f 107 j (by omega)) (f 106 20 (by omega))) hM
theorem CSm_set {c : Nat → Nat} {n : Nat} {m0 : Nat → Nat → Int32} {l0 : Nat → Nat → Int64} {a on : Nat → Nat} {no : Nat} {pn : Nat → Nat} {np t p k v : Nat} {mi : Nat → Nat → Int32} {ml : Nat → Nat → Int64} (h : CSm c n m0 l0 a on no pn np t p mi ml) (hk : k < 48) (h8 : k ≠ 8) : CSm c n m0 l0 (up1 a k v) on no pn np t p (am_si mi 107 (1664 + k) (nI v)) ml := by
  obtain ⟨r1, ⟨u, u1, u2, u3⟩, r3⟩ := h.2.1
  refine CSm_up h (fun i j z1 z2 => si_f (by omega)) ⟨fun j hj hj8 => ?_, ⟨u, u1, by rw [si_f (by omega)]; exact u2, u3⟩, by rw [si_f (by omega)]; exact r3⟩ (TM_fr h.2.2.2.2.1 (fun j z z => si_f (by omega)))
  by_cases e : j = k
  · rw [e, si_t ⟨rfl, rfl⟩, up1_at]
  · rw [si_f (by omega), up1_f e]; exact r1 j hj hj8
theorem CSm_ext {c : Nat → Nat} {n : Nat} {m0 : Nat → Nat → Int32} {l0 : Nat → Nat → Int64} {a on a' : Nat → Nat} {no : Nat} {pn : Nat → Nat} {np t p : Nat} {mi : Nat → Nat → Int32} {ml : Nat → Nat → Int64} (h : CSm c n m0 l0 a on no pn np t p mi ml) (he : ∀ k, k < 48 → a' k = a k) : CSm c n m0 l0 a' on no pn np t p mi ml :=
  ⟨h.1, ⟨fun k hk h8 => by rw [he k hk]; exact h.2.1.1 k hk h8, h.2.1.2⟩, h.2.2⟩
theorem Bm_Y {c : Nat → Nat} {n : Nat} {K : am_K} {m0 : Nat → Nat → Int32} {l0 : Nat → Nat → Int64} {a on : Nat → Nat} {no : Nat} {pn : Nat → Nat} {np t p k s : Nat} {mi mi' : Nat → Nat → Int32} {ml : Nat → Nat → Int64} (h : CSm c n m0 l0 a on no pn np t p mi ml) (hB : Bm K m0 l0 k s) (f : frY mi mi') (hf : FLM k s mi') : K (some (.int (nI 0))) (S0, mi', ml) :=
  hB _ _ (fun k j z1 z2 => by rw [f k j (by omega)]; exact h.1.1 k j z1 z2) h.1.2 hf
theorem kw_K {c : Nat → Nat} {n p w : Nat} (h : tkW c n p = w + 1) : tkK c n p = 0 := Classical.byContradiction (fun z => by unfold tkW at h; rw [if_neg z] at h; omega)
theorem s_failM {E : am_E} {d : Nat} {K : am_K} {mi : Nat → Nat → Int32} {ml : Nat → Nat → Int64} {c : Nat → Nat} {n : Nat} {K' : am_K} {m0 : Nat → Nat → Int32} {l0 : Nat → Nat → Int64} {a on : Nat → Nat} {no : Nat} {pn : Nat → Nat} {np t p k : Nat} (hC : CSm c n m0 l0 a on no pn np t p mi ml) (hP : PF K K') (hB : Bm K m0 l0 (badK c n p k) (tkS c n p)) : cq E (d + 1) 208 [.ref 106, .int (nI k)] K' mi ml :=
  s_fails hC.2.2.2.2.1 hC.2.2.2.2.2.1 (fun m f h => hP _ _ (Bm_Y hC hB f h))
theorem s_stopM {E : am_E} {d : Nat} {K : am_K} {mi : Nat → Nat → Int32} {ml : Nat → Nat → Int64} {c : Nat → Nat} {n : Nat} {K' : am_K} {m0 : Nat → Nat → Int32} {l0 : Nat → Nat → Int64} {a on : Nat → Nat} {no : Nat} {pn : Nat → Nat} {np t p : Nat} (hC : CSm c n m0 l0 a on no pn np t p mi ml) (hp : p ≤ n) (e0 : no = a 0) (e1 : np = a 1) (hP : PAS K K') (h : stopW c n p (Gm c n K m0 l0 (tkE c n p, a, on, pn, t)) (Bm K m0 l0)) : cq E (d + 3) 210 [.ref 106, .int (nI 59)] K' mi ml := by
  subst e0 e1
  exact s_wantSt hC.2.2.2.1 hC.2.2.2.2.1 hp hC.2.2.2.2.2.1 (fun q m f hM => hP _ _ _ (Or.inr rfl) (h.1 q m ml (CSm_M hC f hM))) (fun q m f hf => hP _ _ _ (Or.inl rfl) (Bm_Y hC (h.2 q) f hf))
theorem s_newOne {E : am_E} {d : Nat} {K : am_K} {mi : Nat → Nat → Int32} {ml : Nat → Nat → Int64} {c : Nat → Nat} {n w M o : Nat} {m0 : Nat → Nat → Int32} {l0 : Nat → Nat → Int64} {x : BSt} (hE : EK E) (hx : WFb x) (hw : (w = 0 ∧ M = 6 ∧ o = 0) ∨ (w = 1 ∧ M = 8 ∧ o = 6)) (hC : CSm c n m0 l0 x.2.1 x.2.2.1 (x.2.1 0) x.2.2.2.1 (x.2.1 1) x.2.2.2.2 x.1 mi ml) (hp : x.1 ≤ n) (hK : tkK c n x.1 = 0) (h6 : x.2.1 w = M → Bm K m0 l0 6 (tkS c n x.1)) (hN : ¬ x.2.1 w = M → nmW c n (tkE c n x.1) ((takenP x (tkC c n (tkE c n x.1)) → Bm K m0 l0 3 (tkS c n (tkE c n x.1))) ∧ (¬ takenP x (tkC c n (tkE c n x.1)) → ∀ mi', frM mi mi' → TM c n (tkE c n (tkE c n x.1)) mi' → K (some (.int (nI 1))) (S0, mi', am_sj ml 108 (56 + o + x.2.1 w) (lN (cvn 8 (tkC c n (tkE c n x.1))))))) (Bm K m0 l0)) : cq E (d + 8) 220 [.ref 106, .int (nI w), .int (nI M), .int (nI o)] K mi ml := by
  have e1 := tkE_ge (c := c) hp
  have e2 := tkE_ge (c := c) e1.2
  have x0 : x.2.1 0 ≤ 6 := hx.1.1.1.1
  have x1 : x.2.1 1 ≤ 8 := hx.1.1.1.2.1
  have xw : x.2.1 w ≤ M := by rcases hw with ⟨rfl, rfl, rfl⟩ | ⟨rfl, rfl, rfl⟩ <;> assumption
  have f1 := fnd_le x.2.2.1 (tkC c n (tkE c n x.1)) (x.2.1 0)
  have f2 := fnd_le x.2.2.2.1 (tkC c n (tkE c n x.1)) (x.2.1 1)
  have mw : mi 107 (1664 + w) = nI (x.2.1 w) := hC.2.1.1 w (by omega) (by omega)
  have hin : vp_in (nI (1664 + w)) 2592 := by rw [ni_in (by omega)]; omega
  apply en_X10_newOne
  rw [nI_add, ni_cl (by omega), mw, ni_eq (by omega) (by omega)]
  refine ⟨hin, fun q => ?_, fun q => ?_⟩
  · apply s_next (d := d + 5) hC.2.2.2.1 hC.2.2.2.2.1 hp
    intro m f hM
    have hC1 := CSm_M hC f hM
    have h3 := hN q
    apply rg_X10_newOne_25
    apply s_isName hE hC1.2.2.2.1 hM e1.2
    · intro q2
      have h4 := h3.1 q2
      apply rg_X10_newOne_31
      refine br_t n10 ?_
      have tak : takenP x (tkC c n (tkE c n x.1)) → cq E (d + 7) 208 [.ref 106, .int (nI 3)] (kc E (d + 7) 220 K 81 [am_mk, am_mk, am_mk, am_mk] []) m ml := fun z =>
        s_failM (d := d + 6) (K := K) hC1 (fun m l hh => rg_X10_newOne_81 ⟨Or.inl rfl, hh⟩) (by rw [badK_n (by rw [q2.1]; omega)]; exact h4.1 z)
      rw [hC1.2.1.1 0 (by omega) (by omega)]
      apply s_findHere (d := d + 4) hC1.2.2.2.1 hM e1.2 q2 (by omega) hC1.2.2.1.1
      apply rg_X10_newOne_54
      rw [nP_0 (by omega), hC1.2.1.1 1 (by omega) (by omega)]
      refine ⟨fun q3 => tak (Or.inl q3), fun q3 => ?_⟩
      apply s_findHere (d := d + 4) hC1.2.2.2.1 hM e1.2 q2 (by omega) hC1.2.2.1.2
      apply rg_X10_newOne_72
      rw [nP_0 (by omega), nI_add, ni_cl (by omega), hC1.2.1.1 w (by omega) (by omega), nI_add, nI_add]
      refine ⟨fun q4 => ⟨hin, ?_⟩, fun q4 => tak (Or.inr q4)⟩
      apply s_nameHere (d := d + 5) hC1.2.2.2.1 hM e1.2 q2
      apply rg_X10_newOne_105
      rw [ni_cl (by omega)]
      refine ⟨by rw [ni_in (by omega)]; omega, ?_⟩
      apply s_next (d := d + 5) hC1.2.2.2.1 hM e1.2
      intro m2 f2 hM2
      apply rg_X10_newOne_110
      exact h4.2 (fun z => z.elim (fun y => q3 y) (fun y => y q4)) m2 (frM_tr f f2) hM2
    · intro q2
      apply rg_X10_newOne_31
      refine br_f (fun z => z rfl) ?_
      exact s_failM (d := d + 6) (K := K) hC1 (fun m l hh => rg_X10_newOne_39 ⟨Or.inl rfl, hh⟩) (h3.2 q2)
  · exact s_failM (d := d + 6) (K := K) hC (fun m l hh => rg_X10_newOne_20 ⟨Or.inl rfl, hh⟩) (by rw [badK_n (by omega)]; exact h6 (Classical.byContradiction q))
/-- behind it the stop is wanted -/
def STP (c : Nat → Nat) (n : Nat) (m0 : Nat → Nat → Int32) (l0 : Nat → Nat → Int64) (K K' : am_K) : Prop := PF K K' ∧ ∀ a on pn t p mi ml, p ≤ n → CSm c n m0 l0 a on (a 0) pn (a 1) t p mi ml → stopW c n p (Gm c n K m0 l0 (tkE c n p, a, on, pn, t)) (Bm K m0 l0) → K' (some (.int (nI 1))) (S0, mi, ml)
theorem NMm_x {base k m : Nat} {N : Nat → Nat} {v : Int64} {ml : Nat → Nat → Int64} (h : NMm base N m ml) (hk : k < base ∨ base + m ≤ k) : NMm base N m (am_sj ml 108 k v) := fun j hj => ⟨(h j hj).1, by rw [sj_f (by omega)]; exact (h j hj).2⟩
theorem NMm_s {base m e : Nat} {N : Nat → Nat} {ml : Nat → Nat → Int64} (h : NMm base N m ml) (he : e < 32 ^ 8) (hv : ml 108 (base + m) = lN (cvn 8 e)) : NMm base (up1 N m e) (m + 1) ml := fun j hj => by
  by_cases ej : j = m
  · rw [ej, up1_at]; exact ⟨he, hv⟩
  · rw [up1_f ej]; exact h j (by omega)
theorem s_anOmen {E : am_E} {d : Nat} {K : am_K} {mi : Nat → Nat → Int32} {ml : Nat → Nat → Int64} {c : Nat → Nat} {n : Nat} {K' : am_K} {m0 : Nat → Nat → Int32} {l0 : Nat → Nat → Int64} {x : BSt} (hE : EK E) (hx : WFb x) (hC : CSm c n m0 l0 x.2.1 x.2.2.1 (x.2.1 0) x.2.2.2.1 (x.2.1 1) x.2.2.2.2 x.1 mi ml) (hp : x.1 ≤ n) (hK : tkK c n x.1 = 0) (hS : STP c n m0 l0 K K') (h : signW c n x (Gm c n K m0 l0) (Bm K m0 l0)) : cq E (d + 9) 222 [.ref 106] K' mi ml := by
  have e1 := tkE_ge (c := c) hp
  have e2 := tkE_ge (c := c) e1.2
  have e3 := tkE_ge (c := c) e2.2
  have e4 := tkE_ge (c := c) e3.2
  have e5 := tkE_ge (c := c) e4.2
  have x0 : x.2.1 0 ≤ 6 := hx.1.1.1.1
  have x6 : x.2.1 6 < 2 ^ x.2.1 0 := hx.1.1.1.2.2.2.2.2.2.2.1
  have hF := hS.1
  apply en_X10_anOmen
  rw [hC.2.1.1 0 (by omega) (by omega)]
  have P17 : PF K (kc E (d + 8) 222 K' 17 [.ref 106, .int (nI (x.2.1 0))] []) := fun m l hh => rg_X10_anOmen_17 (br_t rfl (hF m l hh))
  refine s_newOne hE hx (Or.inl ⟨rfl, rfl, rfl⟩) hC hp hK (fun q => Bm_P P17 _ _ (h.1 q)) (fun q => nmW_mono (fun q2 h2 => ⟨fun q3 => Bm_P P17 _ _ (h2.1 q3), fun q3 m1 f1 hM1 => ?_⟩) (Bm_P P17) (h.2 q))
  have h3 := h2.2 q3
  have hC1 := CSm_M hC f1 hM1
  generalize ee : tkC c n (tkE c n x.1) = e at *
  have he : e < 32 ^ 8 := by rw [← ee]; exact tkC_lt _ _ _
  have hC2 : CSm c n m0 l0 x.2.1 (up1 x.2.2.1 (x.2.1 0) e) (x.2.1 0 + 1) x.2.2.2.1 (x.2.1 1) x.2.2.2.2 (tkE c n (tkE c n x.1)) m1 (am_sj ml 108 (56 + 0 + x.2.1 0) (lN (cvn 8 e))) := by
    obtain ⟨⟨a1, a2⟩, a3, ⟨a4, a5⟩, a6⟩ := hC1
    exact ⟨⟨a1, fun k j z => by rw [sj_f (by omega)]; exact a2 k j z⟩, a3, ⟨NMm_s (NMm_x a4 (Or.inr (by omega))) he (sj_t ⟨rfl, by omega⟩), NMm_x a5 (Or.inl (by omega))⟩, a6⟩
  generalize am_sj ml 108 (56 + 0 + x.2.1 0) (lN (cvn 8 e)) = ml1 at *
  apply rg_X10_anOmen_17
  refine br_f n10 ?_
  apply s_wantWord (d := d + 1) (w := 4) hE hC2.2.2.2.1 hM1 e2.2 hC2.2.2.2.2.2.1 (by omega)
  · intro q4 m2 f2 hM2
    have h4 := h3.1 q4
    have hC3 := CSm_M hC2 f2 hM2
    apply rg_X10_anOmen_28
    refine br_f n10 ?_
    rw [nI_add]
    apply s_number (d := d + 5) hC3.2.2.2.1 hM2 e3.2 hC3.2.2.2.2.2.1 (by omega) (by omega) (by omega)
    · intro q5 m3 f3 hM3
      have h5 := h4.1 q5
      have hC4 := CSm_M (CSm_set (k := 10 + x.2.1 0) (v := tkV c n (tkE c n (tkE c n (tkE c n x.1)))) hC3 (by omega) (by omega)) (by rw [show 1664 + (10 + x.2.1 0) = 1674 + x.2.1 0 by omega]; exact f3) hM3
      generalize tkV c n (tkE c n (tkE c n (tkE c n x.1))) = v at *
      generalize er : tkE c n (tkE c n (tkE c n (tkE c n x.1))) = r at *
      apply rg_X10_anOmen_42
      refine br_t n10 ?_
      have m6 : m3 107 1670 = nI (x.2.1 6) := by
        have := hC4.2.1.1 6 (by omega) (by omega)
        rw [up1_f (by omega)] at this; exact this
      rw [m6]
      have last : ∀ {m p}, CSm c n m0 l0 (up1 x.2.1 (10 + x.2.1 0) v) (up1 x.2.2.1 (x.2.1 0) e) (x.2.1 0 + 1) x.2.2.2.1 (x.2.1 1) x.2.2.2.2 p m ml1 → ∀ s, CSm c n m0 l0 (up1 (signA x.2.1 v) 6 s) (up1 x.2.2.1 (x.2.1 0) e) ((up1 (signA x.2.1 v) 6 s) 0) x.2.2.2.1 ((up1 (signA x.2.1 v) 6 s) 1) x.2.2.2.2 p (am_si (am_si m 107 1670 (nI s)) 107 1664 (am_si m 107 1670 (nI s) 107 1664 + nI 1)) ml1 := fun {m p} hh s => by
        have z0 : am_si m 107 1670 (nI s) 107 1664 = nI (x.2.1 0) := by
          rw [si_f (by omega)]
          have := hh.2.1.1 0 (by omega) (by omega)
          rw [up1_f (by omega)] at this; exact this
        rw [z0, nI_add]
        have := CSm_set (k := 0) (v := x.2.1 0 + 1) (CSm_set (k := 6) (v := s) hh (by omega) (by omega)) (by omega) (by omega)
        have z1 : up1 (signA x.2.1 v) 6 s 0 = x.2.1 0 + 1 := by rw [up1_f (by omega)]; exact up1_at
        have z2 : up1 (signA x.2.1 v) 6 s 1 = x.2.1 1 := by rw [up1_f (by omega)]; unfold signA; rw [up1_f (by omega), up1_f (by omega)]
        rw [z1, z2]
        refine CSm_ext this (fun k hk => ?_)
        unfold signA up1
        by_cases k6 : k = 6
        · rw [if_pos k6, if_neg (by omega), if_pos k6]
        · rw [if_neg k6]
          by_cases k0 : k = 0
          · rw [if_pos k0, if_pos k0]
          · rw [if_neg k0, if_neg k0, if_neg k6]
      have s6 : up1 (signA x.2.1 v) 6 (x.2.1 6) = signA x.2.1 v := up1_id (by unfold signA; rw [up1_f (by omega), up1_f (by omega)])
      apply s_isThere (d := d + 1) (w := 5) hE hC4.2.2.2.1 hM3 e4.2 (by omega)
      · intro q6 m4 f4 hM4
        apply rg_X10_anOmen_62
        rw [ms_or (by omega), ni_cl (by omega)]
        exact br_f n10 ⟨by rw [ni_in (by omega)]; omega, hS.2 _ _ _ _ _ _ _ e5.2 (last (CSm_M hC4 f4 hM4) _) (h5.1 q6)⟩
      · intro q6
        apply rg_X10_anOmen_62
        rw [ni_or, Nat.or_zero, ni_cl (by omega)]
        have hl := last hC4 (x.2.1 6)
        rw [s6] at hl
        exact br_t rfl ⟨by rw [ni_in (by omega)]; omega, hS.2 _ _ _ _ _ _ _ e4.2 hl (h5.2 q6)⟩
    · intro q5 m3 f3 hf
      apply rg_X10_anOmen_42
      exact br_f (fun z => z rfl) (hF _ _ (Bm_Y hC3 (h4.2 q5) f3 hf))
  · intro q4 m2 f2 hf
    apply rg_X10_anOmen_28
    exact br_t rfl (hF _ _ (Bm_Y hC2 (h3.2 q4) f2 hf))
