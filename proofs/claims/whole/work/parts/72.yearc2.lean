/-! The years' text, by the class: steps, ends, the text. -/
section
variable {E : am_E} {d : Nat} {K : am_K} {mi : Nat → Nat → Int32} {ml : Nat → Nat → Int64} {c : Nat → Nat} {n : Nat} {on : Nat → Nat} {no : Nat} {pn : Nat → Nat} {np p : Nat} {m0 : Nat → Nat → Int32} {l0 : Nat → Nat → Int64} {s e dep : Nat} {op : Nat → Nat} {pl : Nat → Nat → Nat}
def adY (mi : Nat → Nat → Int32) (e : Nat) (x : Int32) : Nat → Nat → Int32 := am_si (am_si (am_si (am_si (am_si (am_si (am_si mi 38 e x) 39 e nM) 40 e nM) 41 e nM) 42 e (nI 0)) 43 e nM) 37 2 (nI (e + 1))
theorem adY_f {x : Int32} {k j : Nat} (h : ¬ (38 ≤ k ∧ k ≤ 43 ∧ j = e)) (h2 : ¬ (k = 37 ∧ j = 2)) : adY mi e x k j = mi k j := by
  unfold adY
  rw [si_f (by omega), si_f (by omega), si_f (by omega), si_f (by omega), si_f (by omega), si_f (by omega), si_f (by omega)]
theorem adY_38 {x : Int32} : adY mi e x 38 e = x := by
  unfold adY
  rw [si_f (by omega), si_f (by omega), si_f (by omega), si_f (by omega), si_f (by omega), si_f (by omega), si_t ⟨rfl, rfl⟩]
theorem adY_37 {x : Int32} : adY mi e x 37 2 = nI (e + 1) := by
  unfold adY
  rw [si_t ⟨rfl, rfl⟩]
theorem s_addY {x : Int32} (h2 : mi 37 2 = nI e) (he : e < 60) (hk : K (some (.int (nI e))) (S0, adY mi e x, ml)) : cq E (d + 1) 101 [.ref 37, .int x] K mi ml := by
  apply en_X7_add yr_37
  simp (disch := omega) only [ni_lt, ni_le, ni_eq, ni_cl, ni_in, nI_add, ni_mul, ni_and, ni_or, ni_xor, ni_dif, ni_bit, ni_b0, ni_b1, ni_nM, nM_ni, nM_lt, lt_nM, nM_le, le_nM, ni_shl, Nat.not_lt_zero, Nat.zero_add, Nat.add_zero, si_t, si_f, not_true_eq_false, not_false_eq_true, true_implies, false_implies, true_and, and_true, forall_const, h2, he, ni_sub, Nat.add_sub_cancel]
  exact hk
theorem CRy_add {x : Int32} (hC : CRy c n m0 l0 s e e dep op pl mi ml) : CRy c n m0 l0 s e (e + 1) dep op pl (adY mi e x) ml := by
  obtain ⟨⟨a1, a2⟩, ⟨b1, b2, b3, b4, b5⟩, ⟨d1, d2⟩, e1, g1⟩ := hC
  refine ⟨⟨fun k j z1 z2 z3 z4 => by rw [adY_f (by omega) (by omega)]; exact a1 k j z1 z2 z3 z4, a2⟩, ⟨by rw [adY_f (by omega) (by omega)]; exact b1, by rw [adY_f (by omega) (by omega)]; exact b2, adY_37, by rw [adY_f (by omega) (by omega)]; exact b4, fun i hi => by rw [adY_f (by omega) (by omega)]; exact b5 i hi⟩, ⟨fun k hk => ?_, fun k hk hb ho => by rw [adY_f (by omega) (by omega)]; exact d2 k hk hb ho⟩, TX_fr2 e1 (fun k j z => adY_f (by omega) (by omega)) (fun _ => rfl), by rw [NF, adY_f (by omega) (by omega), adY_f (by omega) (by omega)]; exact g1⟩
  have := d1 k hk
  unfold RKd at *
  rw [adY_f (by omega) (by omega), adY_f (by omega) (by omega), adY_f (by omega) (by omega), adY_f (by omega) (by omega), adY_f (by omega) (by omega)]
  exact this
/-- cells that hold no row: kept -/
theorem CRy_cnt {mi' : Nat → Nat → Int32} {s' e' dep' : Nat} {op' : Nat → Nat} {e1 : Nat} (hC : CRy c n m0 l0 s e e1 dep op pl mi ml) (hf : ∀ k j, ¬ (k = 37 ∧ j ≠ 0) → ¬ (k = 49 ∧ j = 4) → k ≠ 50 → mi' k j = mi k j) (h1 : mi' 37 1 = nI s') (h2 : mi' 37 2 = nI e') (h4 : mi' 49 4 = nI dep') (h5 : ∀ i, i < dep' → mi' 50 i = nI (op' i)) (ho : ∀ k, k < e → ¬ opn dep' op' k → ¬ opn dep op k) : CRy c n m0 l0 s' e e' dep' op' pl mi' ml := by
  obtain ⟨⟨a1, a2⟩, ⟨b1, b2, b3, b4, b5⟩, ⟨d1, d2⟩, e1, g1⟩ := hC
  refine ⟨⟨fun k j z1 z2 z3 z4 => by rw [hf k j (by omega) z3 z4]; exact a1 k j z1 z2 z3 z4, a2⟩, ⟨by rw [hf 37 0 (by omega) (by omega) (by omega)]; exact b1, h1, h2, h4, h5⟩, ⟨fun k hk => ?_, fun k hk hb hn => by rw [hf 43 k (by omega) (by omega) (by omega)]; exact d2 k hk hb (ho k hk hn)⟩, TX_fr2 e1 (fun k j z => hf k j (by omega) (by omega) (by omega)) (fun _ => rfl), by rw [NF, hf 46 9 (by omega) (by omega) (by omega), hf 46 10 (by omega) (by omega) (by omega)]; exact g1⟩
  have := d1 k hk
  unfold RKd at *
  rw [hf _ k (by omega) (by omega) (by omega), hf _ k (by omega) (by omega) (by omega), hf _ k (by omega) (by omega) (by omega), hf _ k (by omega) (by omega) (by omega), hf _ k (by omega) (by omega) (by omega)]
  exact this
theorem s_clY (hC : CRy c n m0 l0 s e e (dep + 1) op pl mi ml) (he : e < 60) (hB : BN e (dep + 1) op pl) (hk : ∀ m, CRy c n m0 l0 s (e + 1) (e + 1) dep op (yclP pl e (op dep)) m ml → (∀ j, m 46 j = mi 46 j) → K (some (.int (nI 1))) (S0, m, ml)) : cq E (d + 2) 104 [.ref 49] K mi ml := by
  have hA := CRy_add (x := nI 20) hC
  obtain ⟨⟨a1, a2⟩, ⟨b1, b2, b3, b4, b5⟩, ⟨d1, d2⟩, e1, g1⟩ := id hA
  have hd3 := hB.1.1
  have h3 : dep < 3 := by omega
  have hop : op dep < e := (hB.1.2.1 dep (by omega)).1
  have ho60 : op dep < 60 := by omega
  have q50 := b5 dep (by omega)
  have q4 : mi 49 4 = nI (dep + 1) := hC.2.1.2.2.2.1
  apply en_X8_closeBlock
  rw [q4, ni_le (by omega) (by omega)]
  refine br_f (by omega) ?_
  apply s_addY hC.2.1.2.2.1 he
  apply rg_X8_closeBlock_16
  have q46 : ∀ j, adY mi e (nI 20) 46 j = mi 46 j := fun j => adY_f (by omega) (by omega)
  have q38 : adY mi e (nI 20) 38 e = nI 20 := adY_38
  generalize adY mi e (nI 20) = M at *
  simp (disch := omega) only [ni_lt, ni_le, ni_eq, ni_cl, ni_in, nI_add, ni_mul, ni_and, ni_or, ni_xor, ni_dif, ni_bit, ni_b0, ni_b1, ni_nM, nM_ni, nM_lt, lt_nM, nM_le, le_nM, ni_shl, Nat.not_lt_zero, Nat.zero_add, Nat.add_zero, si_t, si_f, not_true_eq_false, not_false_eq_true, true_implies, false_implies, true_and, and_true, forall_const, b4, q50, h3, he, ho60, ni_sub, Nat.add_sub_cancel]
  refine hk _ ⟨⟨fun k j z1 z2 z3 z4 => by rw [si_f (by omega), si_f (by omega), si_f (by omega)]; exact a1 k j z1 z2 z3 z4, a2⟩, ⟨by rw [si_f (by omega), si_f (by omega), si_f (by omega)]; exact b1, by rw [si_f (by omega), si_f (by omega), si_f (by omega)]; exact b2, by rw [si_f (by omega), si_f (by omega), si_f (by omega)]; exact b3, by rw [si_f (by omega), si_f (by omega), si_t ⟨rfl, rfl⟩], fun i hi => by rw [si_f (by omega), si_f (by omega), si_f (by omega)]; exact b5 i (by omega)⟩, ⟨fun k hk => ?_, fun k hk hb hn => ?_⟩, TX_fr2 e1 (fun k j z => by rw [si_f (by omega), si_f (by omega), si_f (by omega)]) (fun _ => rfl), by rw [NF, si_f (by omega), si_f (by omega), si_f (by omega), si_f (by omega), si_f (by omega), si_f (by omega)]; exact g1⟩ (fun j => by rw [si_f (by omega), si_f (by omega), si_f (by omega)]; exact q46 j)
  · by_cases ek : k = e
    · subst ek
      unfold RKd
      rw [yclP_e0, si_f (by omega), si_f (by omega), si_f (by omega)]
      exact ⟨q38, fun z => by omega, fun z => by omega, fun z => by omega, fun z => by omega⟩
    · have := d1 k (by omega)
      unfold RKd at *
      rw [yclP_i ek (by omega), yclP_i ek (by omega), yclP_i ek (by omega), yclP_i ek (by omega), yclP_i ek (by omega), si_f (by omega), si_f (by omega), si_f (by omega), si_f (by omega), si_f (by omega), si_f (by omega), si_f (by omega), si_f (by omega), si_f (by omega), si_f (by omega), si_f (by omega), si_f (by omega), si_f (by omega), si_f (by omega), si_f (by omega)]
      exact this
  · by_cases eo : k = op dep
    · subst eo
      rw [si_t ⟨rfl, rfl⟩, yclP_o (by omega)]
    · rw [si_f (by omega)]
      by_cases ek : k = e
      · subst ek
        rw [si_t ⟨rfl, rfl⟩, yclP_e5]
      · rw [si_f (by omega), si_f (by omega), yclP_5 ek eo]
        rw [yclP_0 ek] at hb
        refine d2 k (by omega) hb (fun z => ?_)
        obtain ⟨i, hi, z⟩ := z
        by_cases ei : i = dep
        · subst ei; exact eo z.symm
        · exact hn ⟨i, by omega, z⟩
theorem s_stY {w t : Nat} (hC : CRy c n m0 l0 s e e dep op pl mi ml) (hw : isSp w) (he : e + dep ≤ 2 * s) (hs : s ≤ 30) (hd : dep ≤ 3) (h4 : mi 46 4 = nI t) (h6 : s = 30 → Byc K m0 l0 6 t) (h7 : ¬ s = 30 → ((w = 17 ∨ w = 19) ∧ dep = 3) → Byc K m0 l0 7 t) (hk : ¬ s = 30 → ¬ ((w = 17 ∨ w = 19) ∧ dep = 3) → ∀ m, CRy c n m0 l0 (s + 1) e (e + 1) (depN w dep) (opN w dep e op) pl m ml → (∀ j, m 46 j = mi 46 j) → m 38 e = nI w → K (some (.int (nI 1))) (S0, m, ml)) : cq E (d + 2) 105 [.ref 49, .int (nI w)] K mi ml := by
  obtain ⟨w1, w2, w3, w4⟩ := hw
  have hA := CRy_add (x := nI w) hC
  obtain ⟨-, ⟨b1, b2, b3, b4, b5⟩, -⟩ := id hA
  apply en_X8_addStep
  rw [hC.2.1.2.1, ni_lt (by omega) (by omega), ni_eq (by omega) (by omega), ni_le (by omega) (by omega)]
  refine br_f (by omega) (br_f w3 ⟨fun q => Byc_in hC (h6 (by omega)) h4, fun q => ?_⟩)
  apply s_addY hC.2.1.2.2.1 (by omega)
  apply rg_X8_addStep_51
  have q46 : ∀ j, adY mi e (nI w) 46 j = mi 46 j := fun j => adY_f (by omega) (by omega)
  have q38 : adY mi e (nI w) 38 e = nI w := adY_38
  generalize adY mi e (nI w) = M at *
  have hM : CRy c n m0 l0 (s + 1) e (e + 1) dep op pl (am_si M 37 1 (nI (s + 1))) ml := CRy_cnt hA (fun k j z1 z2 z3 => si_f (by omega)) (si_t ⟨rfl, rfl⟩) (by rw [si_f (by omega)]; exact b3) (by rw [si_f (by omega)]; exact b4) (fun i hi => by rw [si_f (by omega)]; exact b5 i hi) (fun k _ z => z)
  have r2 : am_si M 37 1 (nI (s + 1)) 49 4 = nI dep := by rw [si_f (by omega)]; exact b4
  have r3 : am_si (am_si M 37 1 (nI (s + 1))) 50 dep (nI e) 49 4 = nI dep := by rw [si_f (by omega)]; exact r2
  have r4 : am_si M 37 1 (nI (s + 1)) 46 4 = nI t := by rw [si_f (by omega), q46]; exact h4
  have fin : (w = 17 ∨ w = 19) → dep < 3 → K (some (.int (nI 1))) (S0, am_si (am_si (am_si M 37 1 (nI (s + 1))) 50 dep (nI e)) 49 4 (nI (dep + 1)), ml) := fun ow h3 => by
    refine hk (by omega) (by omega) _ ?_ (fun j => by rw [si_f (by omega), si_f (by omega), si_f (by omega)]; exact q46 j) (by rw [si_f (by omega), si_f (by omega), si_f (by omega)]; exact q38)
    unfold depN opN
    rw [if_pos ow, if_pos ow]
    refine CRy_cnt hM (fun k j z1 z2 z3 => by rw [si_f (by omega), si_f (by omega)]) (by rw [si_f (by omega), si_f (by omega), si_t ⟨rfl, rfl⟩]) (by rw [si_f (by omega), si_f (by omega), si_f (by omega)]; exact b3) (si_t ⟨rfl, rfl⟩) (fun i hi => ?_) (fun k hk z y => z ((opn_up (by omega)).mpr y))
    rw [si_f (by omega)]
    by_cases ei : i = dep
    · rw [ei, si_t ⟨rfl, rfl⟩, up1_at]
    · rw [si_f (by omega), si_f (by omega), up1_f ei]; exact b5 i (by omega)
  have bad : (w = 17 ∨ w = 19) → ¬ dep < 3 → K (some (.int (nI 0))) (S0, am_si (am_si (am_si M 37 1 (nI (s + 1))) 46 9 (nI 7)) 46 10 ((am_si (am_si M 37 1 (nI (s + 1))) 46 9 (nI 7)) 46 4), ml) := fun ow h3 => Byc_in hM (h7 (by omega) ⟨ow, by omega⟩) r4
  rw [b2, nI_add, r2, ni_cl (by omega), ni_lt (by omega) (by omega), ni_eq (by omega) (by omega), ni_eq (by omega) (by omega), r3, nI_add, ni_nM (by omega)]
  have hin : ∀ h3 : dep < 3, vp_in (nI dep) 3 := fun h3 => by rw [ni_in (by omega)]; exact h3
  refine br_t (fun z => z) ⟨fun q1 => ⟨fun q3 => ⟨hin q3, fin (Or.inl q1) q3⟩, fun q3 => bad (Or.inl q1) q3⟩, fun q1 => ⟨fun q2 => ?_, fun q2 => ⟨fun q3 => ⟨hin q3, fin (Or.inr (Classical.byContradiction q2)) q3⟩, fun q3 => bad (Or.inr (Classical.byContradiction q2)) q3⟩⟩⟩
  have ow : ¬ (w = 17 ∨ w = 19) := by omega
  refine hk (by omega) (fun z => ow z.1) _ ?_ (fun j => by rw [si_f (by omega)]; exact q46 j) (by rw [si_f (by omega)]; exact q38)
  unfold depN opN
  rw [if_neg ow, if_neg ow]
  exact hM
theorem s_stB {t w : Nat} (hC : CRy c n m0 l0 s e e dep op pl mi ml) (hw : w ≤ 22) (hs : ¬ isSp (w - 1)) (h20 : ¬ w = 20 + 1) (h4 : mi 46 4 = nI t) (hb : Byc K m0 l0 2 t) : cq E (d + 2) 105 [.ref 49, .int (nP w)] K mi ml := by
  have hb := Byc_in hC hb h4
  apply en_X8_addStep
  match w, hw, hs, h20 with
  | 0, _, _, _ => exact br_t (by decide) hb
  | v + 1, hw, hs, h20 =>
    unfold isSp at hs
    rw [Nat.add_sub_cancel] at hs
    rw [nP_s, ni_lt (by omega) (by omega), ni_eq (by omega) (by omega)]
    exact ⟨fun _ => hb, fun q => ⟨fun _ => hb, fun q2 => absurd ⟨by omega, by omega, q2, by omega⟩ hs⟩⟩
/-- the row is read -/
theorem CRy_row {w t sg th v dep0 : Nat} {op0 : Nat → Nat} (hC : CRy c n m0 l0 s e (e + 1) (depN w dep0) (opN w dep0 e op0) pl mi ml) (hw : isSp w) (hr : RKr e w t sg th v mi) : CRy c n m0 l0 s (e + 1) (e + 1) (depN w dep0) (opN w dep0 e op0) (rowP pl e w t sg th v) mi ml := by
  obtain ⟨w1, w2, w3, w4⟩ := hw
  obtain ⟨a, b, ⟨d1, d2⟩, g⟩ := hC
  refine ⟨a, b, ⟨fun k hk => ?_, fun k hk hb hn => ?_⟩, g⟩
  · by_cases ek : k = e
    · subst ek
      unfold RKd
      rw [rowP_t, rowP_t, rowP_t, rowP_t, rowP_t]
      exact hr
    · have := d1 k (by omega)
      unfold RKd at *
      rw [rowP_f ek, rowP_f ek, rowP_f ek, rowP_f ek, rowP_f ek]
      exact this
  · by_cases ek : k = e
    · subst ek
      rw [rowP_t] at hb
      have ow : w = 17 ∨ w = 19 := by
        rcases hb with z | z | z
        · exact Or.inl z
        · exact Or.inr z
        · exact absurd z w4
      refine absurd ?_ hn
      unfold depN opN
      rw [if_pos ow, if_pos ow]
      exact ⟨dep0, by omega, up1_at⟩
    · rw [rowP_f ek] at hb
      rw [rowP_f ek]
      exact d2 k (by omega) hb hn
def Gye (c : Nat → Nat) (n : Nat) (K : am_K) (m0 : Nat → Nat → Int32) (l0 : Nat → Nat → Int64) (x : YSt) : Prop := ∀ m l, CRy c n m0 l0 x.2.1 x.2.2.1 x.2.2.1 x.2.2.2.1 x.2.2.2.2.1 x.2.2.2.2.2 m l → K (some (.int (nI 1))) (S0, m, l)
theorem s_readTextY (hn : n ≤ 900) (hc : ∀ i, i < n → c i < 256 ∧ mi 1 i = nI (c i)) (hw : R_cst ml) (hN : NMc on no pn np (am_si mi 46 2 (nI n)) ml) (h : ytxW c n on no pn np (Gye c n K (am_si mi 46 2 (nI n)) ml) (Byc K (am_si mi 46 2 (nI n)) ml) (n + 1) y00) : cq E (d + 7) 103 [.ref 49, .int (nI n)] K mi ml := by
  have key : ∀ f i, i + f = n + 1 → ∀ (x : YSt) m l, WFy no np x → x.1 ≤ n → i ≤ x.1 → CRy c n (am_si mi 46 2 (nI n)) ml x.2.1 x.2.2.1 x.2.2.1 x.2.2.2.1 x.2.2.2.2.1 x.2.2.2.2.2 m l → m 46 3 = nI x.1 → ytxW c n on no pn np (Gye c n K (am_si mi 46 2 (nI n)) ml) (Byc K (am_si mi 46 2 (nI n)) ml) f x → rn E (d + 6) 103 K 30 [.ref 49, .int (nI n), .int (nI i), am_mk, am_mk, am_mk] [] m l := by
    intro f
    induction f with
    | zero => intro i hi x m l _ h1 h2; omega
    | succ f ih =>
      intro i hi x m l hx hp hip hC h3 h
      have e1 := tkE_ge (c := c) hp
      have h22 := tkW_le c n x.1
      obtain ⟨x1, x2, x3, x4⟩ := id hx
      have hd3 := x3.1.1
      apply rg_X8_readText_30
      rw [ni_lt (by omega) (by omega)]
      refine br_f (by omega) ?_
      apply s_advance (d := d + 3) hC.2.2.2.1 hp h3
      intro m1 l1 f1 f2 hA
      apply rg_X8_readText_42
      rw [ni_b0, decide_eq_false_iff_not]
      by_cases k4 : tkK c n x.1 = 4
      · have w0 : tkW c n x.1 = 0 := by unfold tkW; rw [if_neg (by omega)]
        have hb := ((h.2 (by omega)).2 (tkW_bad k4)).2 (fun z => by have := z.1; rw [w0] at this; omega)
        rw [badK_4 k4] at hb
        exact br_f (fun z => z (fun y => y k4)) (Byc_go hC hb f1 f2 (hA.1 k4))
      obtain ⟨hT, hs⟩ := hA.2 k4
      have hC1 := CRy_tok hC f1 f2 hs
      have hk4 := tkK_le c n x.1
      refine br_t (fun z => z k4) ?_
      have h20 := kw_in (w := 20) (by omega) hT
      rw [h20, hC1.2.1.2.2.2.1, ni_eq (by omega) (by omega), hT.2.2.1, ni_eq (by omega) (by omega), hC1.2.1.2.2.1, hT.2.2.2.1]
      refine ⟨fun q => ?_, fun q => ?_⟩
      · -- what comes behind a step or an end
        have h2 : yeaW c n on no pn np x (fun y => ∀ m l, CRy c n (am_si mi 46 2 (nI n)) ml y.2.1 y.2.2.1 y.2.2.1 y.2.2.2.1 y.2.2.2.2.1 y.2.2.2.2.2 m l → m 46 3 = nI y.1 → rn E (d + 6) 103 K 30 [.ref 49, .int (nI n), .int (nI (i + 1)), am_mk, am_mk, am_mk] [] m l) (Byc K (am_si mi 46 2 (nI n)) ml) :=
          yeaW_mono hx hp (fun _ _ hb => hb) (fun y hy hg m l hC3 h33 => ih (i + 1) (by omega) y m l hy.2.2 hy.2.1 (by have := hy.1; omega) hC3 h33 hg) (h.2 q)
        have stp : ∀ {p s' e' dep' op' pl' m l}, p ≤ n → CRy c n (am_si mi 46 2 (nI n)) ml s' e' e' dep' op' pl' m l → m 46 3 = nI p → stopW c n p (∀ m l, CRy c n (am_si mi 46 2 (nI n)) ml s' e' e' dep' op' pl' m l → m 46 3 = nI (tkE c n p) → rn E (d + 6) 103 K 30 [.ref 49, .int (nI n), .int (nI (i + 1)), am_mk, am_mk, am_mk] [] m l) (Byc K (am_si mi 46 2 (nI n)) ml) → cq E (d + 6) 85 [.ref 46] (kc E (d + 6) 103 K 159 [.ref 49, .int (nI n), .int (nI i), am_mk, am_mk, am_mk] []) m l := fun {p s' e' dep' op' pl' m l} hp' hC' h3' hst => by
          apply s_wantStop (d := d + 2) hC'.2.2.2.1 hp' h3'
          · intro q m2 l2 g1 g2 hT2 hs2
            apply rg_X8_readText_159
            rw [nI_add]
            exact br_t n10 (hst.1 q m2 l2 (CRy_tok hC' g1 g2 hs2) hT2.1)
          · intro q m2 l2 g1 g2 hf
            apply rg_X8_readText_159
            exact br_f (fun z => z rfl) (Byc_go hC' (hst.2 q) g1 g2 hf)
        refine ⟨fun q2 => ?_, fun q2 => ?_⟩
        · have h3' := h2.2 q2
          by_cases sp : isSp (tkW c n x.1 - 1)
          · have h5 := h3'.1 sp
            obtain ⟨w1, w2, w3, w4⟩ := id sp
            obtain ⟨w, hw⟩ : ∃ w, tkW c n x.1 = w + 1 := ⟨tkW c n x.1 - 1, by omega⟩
            rw [hw, Nat.add_sub_cancel] at sp h5
            rw [hw, nP_s]
            rw [hw, Nat.add_sub_cancel] at w1 w2 w3 w4
            have PF116 : ∀ m l, K (some (.int (nI 0))) (S0, m, l) → kc E (d + 6) 103 K 116 [.ref 49, .int (nI n), .int (nI i), .int (nI w), .int (nI x.2.2.1), am_mk] [] (some (.int (nI 0))) (S0, m, l) := fun m l hh => rg_X8_readText_116 (br_t rfl (br_t rfl hh))
            refine s_stY (d := d + 4) hC1 sp x2 x1 hd3 hT.2.1 (fun z => Byc_P PF116 _ _ (h5.1 z)) (fun z z2 => Byc_P PF116 _ _ ((h5.2 z).1 z2)) (fun z z2 m2 hC2 g46 g38 => ?_)
            have h6 := (h5.2 z).2 z2
            have g3 : m2 46 3 = nI (tkE c n x.1) := by rw [g46]; exact hT.1
            have he60 : x.2.2.1 < 60 := by omega
            apply rg_X8_readText_116
            rw [show (nI w = nI 17) ↔ w = 17 from ni_eq (by omega) (by omega)]
            refine br_f n10 ⟨fun q17 => ?_, fun q17 => ?_⟩
            · have P145 : PF K (kc E (d + 6) 103 K 145 [.ref 49, .int (nI n), .int (nI i), am_mk, am_mk, am_mk] []) := fun m l hh => rg_X8_readText_145 (br_t rfl hh)
              refine s_deY hN hC2 e1.2 g3 he60 (by omega) q17 g38 (detW_mono sp e1.2 (Byc_P P145) (fun p' t sg th v p1 p2 hP hst m3 l3 hC3 h33 hr => ?_) h6)
              apply rg_X8_readText_145
              exact br_f n10 (stp p2 (CRy_row hC3 sp hr) h33 hst)
            · have e17 : w = 17 := Classical.byContradiction q17
              subst e17
              have P135 : PF K (kc E (d + 6) 103 K 135 [.ref 49, .int (nI n), .int (nI i), am_mk, am_mk, am_mk] []) := fun m l hh => rg_X8_readText_135 (br_t rfl hh)
              refine s_tsY hN hC2 e1.2 g3 he60 g38 (tstW_mono e1.2 (Byc_P P135) (fun p' t sg th v p1 p2 hP hst m3 l3 hC3 h33 hr => ?_) (((((h6.2 (by omega)).2 (by omega)).2 (by omega)).2 (by omega)).1 rfl))
              apply rg_X8_readText_135
              exact br_f n10 (stp p2 (CRy_row hC3 sp hr) h33 hst)
          · have hb := h3'.2 sp
            rw [badK_n k4] at hb
            exact s_stB (d := d + 4) hC1 h22 sp q2 hT.2.1 (Byc_P (fun m l hh => rg_X8_readText_116 (br_t rfl (br_t rfl hh))) _ _ hb)
        · have hw : tkW c n x.1 = 20 + 1 := Classical.byContradiction q2
          have h3' := h2.1 hw
          rw [hw, nP_s]
          by_cases d0 : x.2.2.2.1 = 0
          · have hb := Byc_in hC1 (h3'.1 d0) hT.2.1
            apply en_X8_closeBlock (d := d + 4)
            rw [hC1.2.1.2.2.2.1, ni_le (by omega) (by omega)]
            exact br_t (by omega) (rg_X8_readText_108 (br_t rfl (br_t rfl hb)))
          · have h4' := h3'.2 d0
            obtain ⟨dd, hdd⟩ : ∃ dd, x.2.2.2.1 = dd + 1 := ⟨x.2.2.2.1 - 1, by omega⟩
            rw [hdd, Nat.add_sub_cancel] at h4'
            rw [hdd] at hC1 x3 x2
            refine s_clY (d := d + 4) hC1 (by omega) x3 (fun m2 hC2 g46 => ?_)
            have g3 : m2 46 3 = nI (tkE c n x.1) := by rw [g46]; exact hT.1
            apply rg_X8_readText_108
            refine br_f n10 (br_t (by decide) ?_)
            apply en_X8_readDetails (d := d)
            rw [ni_eq (by omega) (by omega), ni_eq (by omega) (by omega), ni_eq (by omega) (by omega), ni_eq (by omega) (by omega), ni_eq (by omega) (by omega)]
            refine ⟨fun z => by omega, fun z => by omega, fun z => by omega, fun z => by omega, fun z => by omega, fun _ _ _ _ _ => ?_⟩
            apply rg_X8_readText_145
            exact br_f n10 (stp e1.2 hC2 g3 h4')
      · have q' : tkK c n x.1 = 3 := Classical.byContradiction q
        have h2 := h.1 q'
        exact ⟨fun z => h2.1 z m1 l1 hC1, fun z => Byc_in hC1 (h2.2 z) hT.2.1⟩
  apply en_X8_readText
  apply en_X5_begin
  apply rg_X8_readText_8
  apply en_X7_forget yr_37
  apply rg_X8_readText_15
  refine key (n + 1) 0 (by omega) y00 _ _ (WFy_00 no np) (Nat.zero_le _) (Nat.zero_le _) ⟨⟨fun k j z1 z2 z3 z4 => ?_, fun _ _ _ => rfl⟩, ⟨?_, ?_, ?_, ?_, fun i hi => absurd hi (Nat.not_lt_zero _)⟩, ⟨fun k hk => absurd hk (Nat.not_lt_zero _), fun k hk => absurd hk (Nat.not_lt_zero _)⟩, ⟨hn, ?_, fun i hi => ⟨(hc i hi).1, ?_⟩, hw⟩, ?_, ?_⟩ ?_ h
  · rw [si_f z3, si_f (by omega), si_f (by omega), si_f (by omega), si_f (by omega), si_f (by omega), si_f (by omega), si_f (by omega)]
  · rw [si_f (by omega), si_t ⟨rfl, rfl⟩]
  · rw [si_f (by omega), si_f (by omega), si_f (by omega), si_t ⟨rfl, rfl⟩]; rfl
  · rw [si_f (by omega), si_f (by omega), si_t ⟨rfl, rfl⟩]; rfl
  · rw [si_t ⟨rfl, rfl⟩]; rfl
  · rw [si_f (by omega), si_f (by omega), si_f (by omega), si_f (by omega), si_f (by omega), si_f (by omega), si_f (by omega), si_f (by omega), si_t ⟨rfl, rfl⟩]
  · rw [si_f (by omega), si_f (by omega), si_f (by omega), si_f (by omega), si_f (by omega), si_f (by omega), si_f (by omega), si_f (by omega), si_f (by omega)]
    exact (hc i hi).2
  · rw [si_f (by omega), si_f (by omega), si_f (by omega), si_f (by omega), si_f (by omega), si_f (by omega), si_t ⟨rfl, rfl⟩]
  · rw [si_f (by omega), si_f (by omega), si_f (by omega), si_f (by omega), si_f (by omega), si_t ⟨rfl, rfl⟩]
  · rw [si_f (by omega), si_f (by omega), si_f (by omega), si_f (by omega), si_f (by omega), si_f (by omega), si_f (by omega), si_t ⟨rfl, rfl⟩]; rfl
end
