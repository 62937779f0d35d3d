/-! The years' text, by the reference: a step, the text. -/
theorem iot_sp {w : Nat} (h : isSp w) : 11 ≤ iot w ∧ iot w ≤ 20 ∧ iot w ≠ 19 ∧ (iot w = 17 ↔ w = 17) ∧ (iot w = 18 ↔ w = 19) := by
  obtain ⟨w1, w2, w3, w4⟩ := h
  have hcs : w = 11 ∨ w = 12 ∨ w = 13 ∨ w = 14 ∨ w = 15 ∨ w = 16 ∨ w = 17 ∨ w = 19 ∨ w = 21 := by omega
  rcases hcs with rfl | rfl | rfl | rfl | rfl | rfl | rfl | rfl | rfl <;> decide
theorem iot_bad : ∀ v, v < 22 → (v < 11 ∨ v = 18) → iot v < 11 ∨ iot v = 21 := by decide +kernel
def Gym (c : Nat → Nat) (n : Nat) (K : am_K) (m0 : Nat → Nat → Int32) (ml : Nat → Nat → Int64) (x : YSt) : Prop := ∀ m, CSn c n m0 x.2.1 x.2.2.1 x.2.2.1 x.2.2.2.1 x.2.2.2.2.1 x.2.2.2.2.2 x.1 m → K (some (.int (nI 1))) (S0, m, ml)
section
variable {E : am_E} {d : Nat} {K : am_K} {mi : Nat → Nat → Int32} {ml : Nat → Nat → Int64} {c : Nat → Nat} {n : Nat} {on : Nat → Nat} {no : Nat} {pn : Nat → Nat} {np p : Nat} {m0 : Nat → Nat → Int32} {s e e' dep : Nat} {op : Nat → Nat} {pl : Nat → Nat → Nat}
theorem s_ys137 {o k : Nat} (hC : CSn c n m0 s e e dep op pl p mi) (hp : p ≤ n) (he : e < 60) (hk : ∀ m, CSn c n m0 s e (e + 1) dep op pl (tkE c n p) m → m 107 (1712 + 6 * e) = nI k → rn E (d + 11) 233 K 186 [.ref 106, .int (nI k), .int (nI e), .int (nI (1712 + 6 * e)), .int (nI o), am_mk] [] m ml) : rn E (d + 11) 233 K 137 [.ref 106, .int (nI k), .int (nI e), .int (nI (1712 + 6 * e)), .int (nI o), am_mk] [] mi ml := by
  have key : ∀ i, i ≤ 6 → 1 ≤ i → ∀ m, CSn c n m0 s e e dep op pl p m → m 107 (1712 + 6 * e) = nI k → rn E (d + 11) 233 K 147 [.ref 106, .int (nI k), .int (nI e), .int (nI (1712 + 6 * e)), .int (nI o), .int (nI i)] [] m ml := by
    refine dn_ind 6 (fun i hi ih h1 m hCm hm => ?_)
    apply rg_X10_yearStep_147
    rw [ni_le (by omega) (by omega), hCm.2.1.1, nI_add, nI_add, nI_add, ni_cl (by omega)]
    refine ⟨fun q => ?_, fun q => ⟨by rw [ni_in (by omega)]; omega, ih (by omega) (by omega) _ (CSn_set hCm (by omega)) (by rw [si_f (by omega)]; exact hm)⟩⟩
    have hC1 : CSn c n m0 s e (e + 1) dep op pl p (am_si m 107 1672 (nI (e + 1))) := CSn_up hCm (fun k j z1 z2 z3 => si_f (by omega)) (si_t ⟨rfl, rfl⟩) (by rw [si_f (by omega)]; exact hCm.2.1.2.1) (by rw [si_f (by omega)]; exact hCm.2.1.2.2.1) (fun i hi => by rw [si_f (by omega)]; exact hCm.2.1.2.2.2 i hi) (fun k _ z => z) (TM_fr hCm.2.2.2.2.1 (fun j z z => si_f (by omega)))
    apply s_next (d := d + 9) hC1.2.2.2.1 hC1.2.2.2.2.1 hp
    intro m2 f hM
    exact hk m2 (CSn_M hC1 f hM) (by rw [f 107 _ (by omega), si_f (by omega)]; exact hm)
  apply rg_X10_yearStep_137
  rw [ni_cl (by omega)]
  exact ⟨by rw [ni_in (by omega)]; omega, key 1 (by omega) (by omega) _ (CSn_set hC (Nat.le_refl _)) (si_t ⟨rfl, rfl⟩)⟩
theorem s_ys279 (hC : CSn c n m0 s e e dep op pl p mi) (hp : p ≤ n) (h : stopW c n p (Gym c n K m0 ml (tkE c n p, s, e, dep, op, pl)) (Bym K m0 ml)) : rn E (d + 11) 233 K 279 [.ref 106, am_mk, am_mk, am_mk, am_mk, am_mk] [] mi ml := by
  apply rg_X10_yearStep_279
  apply s_wantSt (d := d + 8) hC.2.2.2.1 hC.2.2.2.2.1 hp hC.2.2.2.2.2.1
  · intro q m f hM
    exact rg_X10_yearStep_285 ⟨Or.inr rfl, h.1 q m (CSn_M hC f hM)⟩
  · intro q m f hf
    exact rg_X10_yearStep_285 ⟨Or.inl rfl, Bym_Y hC (h.2 q) f hf⟩
theorem CSn_row {w t sg th v dep0 : Nat} {op0 : Nat → Nat} (hC : CSn c n m0 s e (e + 1) (depN w dep0) (opN w dep0 e op0) pl p mi) (hw : isSp w) (hr : RKs e w t sg th v mi) : CSn c n m0 s (e + 1) (e + 1) (depN w dep0) (opN w dep0 e op0) (rowP pl e w t sg th v) p mi := by
  obtain ⟨w1, w2, w3, w4⟩ := hw
  obtain ⟨a, b, ⟨d1, d2⟩, g⟩ := hC
  refine ⟨a, b, ⟨fun k hk => ?_, fun k hk hb hn => ?_⟩, g⟩
  · by_cases ek : k = e
    · subst ek
      have e0 : wm (rowP pl k w t sg th v) k = wmr w t := by
        unfold wm wmr
        rw [rowP_t, rowP_t]
        rfl
      unfold RKe
      rw [rowP_t, rowP_t, rowP_t, rowP_t, rowP_t, e0]
      exact ⟨by rw [show 1664 + (48 + 6 * k) = 1712 + 6 * k by omega]; exact hr.1, by rw [show 1664 + (48 + 6 * k + 1) = 1712 + 6 * k + 1 by omega]; exact hr.2.1, by rw [show 1664 + (48 + 6 * k + 1) = 1712 + 6 * k + 1 by omega]; exact hr.2.2.1, by rw [show 1664 + (48 + 6 * k + 2) = 1712 + 6 * k + 2 by omega]; exact hr.2.2.2.1, by rw [show 1664 + (48 + 6 * k + 5) = 1712 + 6 * k + 5 by omega]; exact hr.2.2.2.2⟩
    · have := d1 k (by omega)
      have e0 : wm (rowP pl e w t sg th v) k = wm pl k := by
        unfold wm
        rw [rowP_f ek, rowP_f ek]
      unfold RKe at *
      rw [rowP_f ek, rowP_f ek, rowP_f ek, rowP_f ek, rowP_f ek, e0]
      exact this
  · by_cases ek : k = e
    · subst ek
      rw [rowP_t] at hb
      have ow : w = 17 ∨ w = 19 := by
        rcases hb with z | z | z
        · exact Or.inl z
        · exact Or.inr z
        · exact absurd z w4
      refine absurd ?_ hn
      unfold depN opN
      rw [if_pos ow, if_pos ow]
      exact ⟨dep0, by omega, up1_at⟩
    · rw [rowP_f ek] at hb
      rw [rowP_f ek]
      exact d2 k (by omega) hb hn
/-- a block is closed -/
theorem CSn_cl (hC : CSn c n m0 s e (e + 1) (dep + 1) op pl p mi) (h0 : mi 107 (1712 + 6 * e) = nI 19) (hop : op dep < e) : CSn c n m0 s (e + 1) (e + 1) dep op (yclP pl e (op dep)) p (am_si (am_si (am_si mi 106 22 (nI dep)) 107 (1712 + 6 * e + 4) (nI (op dep))) 107 (1712 + 6 * op dep + 4) (nI e)) := by
  obtain ⟨a1, ⟨b1, b2, b3, b4⟩, ⟨d1, d2⟩, g1, g2, g3, g4⟩ := hC
  refine ⟨fun k j z1 z2 z3 => by rw [si_f (by omega), si_f (by omega), si_f (by omega)]; exact a1 k j z1 z2 z3, ⟨by rw [si_f (by omega), si_f (by omega), si_f (by omega)]; exact b1, by rw [si_f (by omega), si_f (by omega), si_t ⟨rfl, rfl⟩], by rw [si_f (by omega), si_f (by omega), si_f (by omega)]; exact b3, fun i hi => by rw [si_f (by omega), si_f (by omega), si_f (by omega)]; exact b4 i (by omega)⟩, ⟨fun k hk => ?_, fun k hk hb hn => ?_⟩, TXm_fr g1 (fun k j z => by rw [si_f (by omega), si_f (by omega), si_f (by omega)]), TM_fr g2 (fun j z z => by rw [si_f (by omega), si_f (by omega), si_f (by omega)]), by rw [si_f (by omega), si_f (by omega), si_f (by omega)]; exact g3, by rw [si_f (by omega), si_f (by omega), si_f (by omega)]; exact g4⟩
  · by_cases ek : k = e
    · subst ek
      have e0 : wm (yclP pl k (op dep)) k = 19 := by
        unfold wm
        rw [yclP_e0]
        rfl
      unfold RKe
      rw [yclP_e0, e0]
      exact ⟨by rw [si_f (by omega), si_f (by omega), si_f (by omega), show 1664 + (48 + 6 * k) = 1712 + 6 * k by omega]; exact h0, fun z => by omega, fun z => by omega, fun z => by omega, fun z => by omega⟩
    · have := d1 k (by omega)
      have e0 : wm (yclP pl e (op dep)) k = wm pl k := by
        unfold wm
        rw [yclP_i ek (by omega), yclP_i ek (by omega)]
      unfold RKe at *
      rw [yclP_i ek (by omega), yclP_i ek (by omega), yclP_i ek (by omega), yclP_i ek (by omega), yclP_i ek (by omega), e0, si_f (by omega), si_f (by omega), si_f (by omega), si_f (by omega), si_f (by omega), si_f (by omega), si_f (by omega), si_f (by omega), si_f (by omega), si_f (by omega), si_f (by omega), si_f (by omega)]
      exact this
  · by_cases eo : k = op dep
    · subst eo
      rw [si_t ⟨rfl, by omega⟩, yclP_o (by omega)]
    · rw [si_f (by omega)]
      by_cases ek : k = e
      · subst ek
        rw [si_t ⟨rfl, by omega⟩, yclP_e5]
      · rw [si_f (by omega), si_f (by omega), yclP_5 ek eo]
        rw [yclP_0 ek] at hb
        refine d2 k (by omega) hb (fun z => ?_)
        obtain ⟨i, hi, z⟩ := z
        by_cases ei : i = dep
        · subst ei; exact eo z.symm
        · exact hn ⟨i, by omega, z⟩
theorem s_yearStep {x : YSt} (hE : EK E) (hN : NMr on no pn np m0 ml) (hx : WFy no np x) (hC : CSn c n m0 x.2.1 x.2.2.1 x.2.2.1 x.2.2.2.1 x.2.2.2.2.1 x.2.2.2.2.2 x.1 mi) (hp : x.1 ≤ n) (h : yeaW c n on no pn np x (Gym c n K m0 ml) (Bym K m0 ml)) : cq E (d + 12) 233 [.ref 106] K mi ml := by
  have e1 := tkE_ge (c := c) hp
  have h22 := tkW_le c n x.1
  obtain ⟨x1, x2, x3, x4⟩ := id hx
  have hd3 := x3.1.1
  obtain ⟨c1, c2, c3, c4⟩ := id hC.2.1
  have hdq : (nI x.2.2.2.1 = nI 0) ↔ x.2.2.2.1 = 0 := ni_eq (by omega) (by omega)
  apply en_X10_yearStep
  apply s_inWords (d := d + 5) hE hC.2.2.2.1 hC.2.2.2.2.1 hp
  apply rg_X10_yearStep_6
  rw [c1, ni_mul, nI_add]
  by_cases w20 : tkW c n x.1 = 20 + 1
  · have er : nP (toM (tkW c n x.1)) = nI 19 := by rw [w20]; rfl
    have h2 := h.1 w20
    rw [er]
    refine br_f (by decide) (br_t (by decide) ?_)
    apply rg_X10_yearStep_44
    rw [c2, hdq]
    refine br_f (by decide) (br_f (by decide) (br_f (fun z => z rfl) ⟨fun q => ?_, fun q => ?_⟩))
    · have h3 := h2.2 q
      obtain ⟨dd, hdd⟩ : ∃ dd, x.2.2.2.1 = dd + 1 := ⟨x.2.2.2.1 - 1, by omega⟩
      rw [hdd, Nat.add_sub_cancel] at h3
      rw [hdd] at x2 x3 hd3 hC
      have he60 : x.2.2.1 < 60 := by omega
      have hop : x.2.2.2.2.1 dd < x.2.2.1 := (x3.1.2.1 dd (by omega)).1
      apply rg_X10_yearStep_75
      refine br_t rfl ?_
      apply rg_X10_yearStep_97
      refine br_t rfl ?_
      apply rg_X10_yearStep_117
      rw [c3, nI_add, nI_add]
      refine br_f (fun z => z rfl) ?_
      have hC1 : CSn c n m0 (x.2.1 + 0) x.2.2.1 x.2.2.1 (dd + 1) x.2.2.2.2.1 x.2.2.2.2.2 x.1 (am_si mi 106 23 (nI (x.2.1 + 0))) := CSn_up hC (fun k j z1 z2 z3 => si_f (by omega)) (by rw [si_f (by omega)]; exact c1) (by rw [si_f (by omega)]; exact hC.2.1.2.1) (si_t ⟨rfl, rfl⟩) (fun i hi => by rw [si_f (by omega)]; exact hC.2.1.2.2.2 i hi) (fun k _ z => z) (TM_fr hC.2.2.2.2.1 (fun j z z => si_f (by omega)))
      refine s_ys137 hC1 hp he60 (fun m hC2 h0 => ?_)
      rw [Nat.add_zero] at hC2
      apply rg_X10_yearStep_186
      apply en_X10_yearOrder
      refine ⟨fun z => absurd z (by decide), fun z => absurd z (by decide), fun z => absurd z (by decide), fun z => absurd z (by decide), fun z => absurd z (by decide), fun z => absurd z (by decide), fun _ _ _ _ _ _ => ?_⟩
      apply rg_X10_yearStep_192
      refine br_t n10 (br_t rfl ?_)
      apply rg_X10_yearStep_222
      refine br_f (fun z => z rfl) ?_
      have g2 : m 106 22 = nI (dd + 1) := hC2.2.1.2.1
      have g4 : m 114 dd = nI (x.2.2.2.2.1 dd) := hC2.2.1.2.2.2 dd (by omega)
      have h3d : dd < 3 := by omega
      have i1 : 1712 + 6 * x.2.2.1 + 4 < 2592 := by omega
      have i2 : 1712 + 6 * x.2.2.2.2.1 dd + 4 < 2592 := by omega
      simp (disch := omega) only [ni_lt, ni_le, ni_eq, ni_cl, ni_in, nI_add, ni_mul, ni_and, ni_or, ni_xor, ni_dif, ni_bit, ni_b0, ni_b1, ni_nM, nM_ni, nM_lt, lt_nM, nM_le, le_nM, ni_shl, Nat.not_lt_zero, Nat.zero_add, Nat.add_zero, si_t, si_f, not_true_eq_false, not_false_eq_true, true_implies, false_implies, true_and, and_true, forall_const, g2, g4, h3d, i1, i2, ni_sub, Nat.add_sub_cancel]
      exact s_ys279 (CSn_cl hC2 h0 hop) e1.2 h3
    · apply rg_X10_yearStep_69
      exact s_flM (d := d + 10) (K := K) hC (fun m l hh => rg_X10_yearStep_74 ⟨Or.inl rfl, hh⟩) (by rw [badK_n (by rw [kw_K w20]; omega)]; exact h2.1 (Classical.byContradiction q))
  have h2 := h.2 w20
  by_cases sp : isSp (tkW c n x.1 - 1)
  · have h5 := h2.1 sp
    obtain ⟨w1, w2, w3, w4⟩ := id sp
    obtain ⟨w, hw⟩ : ∃ w, tkW c n x.1 = w + 1 := ⟨tkW c n x.1 - 1, by omega⟩
    have kW := kw_K hw
    rw [hw, Nat.add_sub_cancel] at sp h5
    have er : nP (toM (tkW c n x.1)) = nI (iot w) := by rw [hw]; rfl
    obtain ⟨i1, i2, i3, i4, i5⟩ := iot_sp sp
    rw [er]
    have go : ∀ o, o ≤ 1 → (o = 1 ↔ (w = 17 ∨ w = 19)) → rn E (d + 11) 233 K 44 [.ref 106, .int (nI (iot w)), .int (nI x.2.2.1), .int (nI (1712 + 6 * x.2.2.1)), .int (nI o), am_mk] [] mi ml := fun o ho1 ho => by
      apply rg_X10_yearStep_44
      rw [ni_lt (by omega) (by omega), ni_lt (by omega) (by omega), show (nI (iot w) = nI 19) ↔ iot w = 19 from ni_eq (by omega) (by omega)]
      refine br_f (by omega) (br_f (by omega) (br_t i3 ?_))
      apply rg_X10_yearStep_75
      rw [c3, show (nI (iot w) = nI 19) ↔ iot w = 19 from ni_eq (by omega) (by omega), show (nI x.2.1 = nI 30) ↔ x.2.1 = 30 from ni_eq (by omega) (by omega)]
      refine br_f i3 ⟨fun q30 => ?_, fun q30 => s_flM (d := d + 10) (K := K) hC (fun m l hh => rg_X10_yearStep_96 ⟨Or.inl rfl, hh⟩) (by rw [badK_n (by omega)]; exact h5.1 (Classical.byContradiction q30))⟩
      have he60 : x.2.2.1 < 60 := by omega
      have rest : ¬ ((w = 17 ∨ w = 19) ∧ x.2.2.2.1 = 3) → rn E (d + 11) 233 K 117 [.ref 106, .int (nI (iot w)), .int (nI x.2.2.1), .int (nI (1712 + 6 * x.2.2.1)), .int (nI o), am_mk] [] mi ml := fun z2 => by
        have h6 := (h5.2 q30).2 z2
        apply rg_X10_yearStep_117
        rw [c3, nI_add, show (nI (iot w) = nI 19) ↔ iot w = 19 from ni_eq (by omega) (by omega)]
        refine br_t i3 ?_
        have hC1 : CSn c n m0 (x.2.1 + 1) x.2.2.1 x.2.2.1 x.2.2.2.1 x.2.2.2.2.1 x.2.2.2.2.2 x.1 (am_si mi 106 23 (nI (x.2.1 + 1))) := CSn_up hC (fun k j z1 z2 z3 => si_f (by omega)) (by rw [si_f (by omega)]; exact c1) (by rw [si_f (by omega)]; exact c2) (si_t ⟨rfl, rfl⟩) (fun i hi => by rw [si_f (by omega)]; exact c4 i hi) (fun k _ z => z) (TM_fr hC.2.2.2.2.1 (fun j z z => si_f (by omega)))
        refine s_ys137 hC1 hp he60 (fun m hC2 h0 => ?_)
        apply rg_X10_yearStep_186
        refine s_orM hE hN hC2 e1.2 he60 sp h0 (detW_mono sp e1.2 (Bym_P (fun m l hh => rg_X10_yearStep_192 (br_f (fun z => z rfl) hh))) (fun p' t sg th v p1 p2 hP hst m2 hC3 hr => ?_) h6)
        apply rg_X10_yearStep_192
        rw [show (nI o = nI 0) ↔ o = 0 from ni_eq (by omega) (by omega)]
        refine br_t n10 ⟨fun q0 => ?_, fun q0 => ?_⟩
        · have ow : ¬ (w = 17 ∨ w = 19) := fun z => by have := ho.mpr z; omega
          apply rg_X10_yearStep_222
          rw [show (nI (iot w) = nI 19) ↔ iot w = 19 from ni_eq (by omega) (by omega)]
          refine br_t i3 ?_
          have hC4 : CSn c n m0 (x.2.1 + 1) x.2.2.1 (x.2.2.1 + 1) (depN w x.2.2.2.1) (opN w x.2.2.2.1 x.2.2.1 x.2.2.2.2.1) x.2.2.2.2.2 p' m2 := by
            unfold depN opN
            rw [if_neg ow, if_neg ow]
            exact hC3
          exact s_ys279 (CSn_row hC4 sp hr) p2 hst
        · have ow : w = 17 ∨ w = 19 := ho.mp (by omega)
          have h3d : x.2.2.2.1 < 3 := by omega
          have g2 : m2 106 22 = nI x.2.2.2.1 := hC3.2.1.2.1
          have g3 : am_si m2 114 x.2.2.2.1 (nI x.2.2.1) 106 22 = nI x.2.2.2.1 := by rw [si_f (by omega)]; exact g2
          rw [g2, ni_cl (by omega), g3, nI_add]
          refine ⟨by rw [ni_in (by omega)]; omega, ?_⟩
          apply rg_X10_yearStep_222
          rw [show (nI (iot w) = nI 19) ↔ iot w = 19 from ni_eq (by omega) (by omega)]
          refine br_t i3 ?_
          have hC4 : CSn c n m0 (x.2.1 + 1) x.2.2.1 (x.2.2.1 + 1) (depN w x.2.2.2.1) (opN w x.2.2.2.1 x.2.2.1 x.2.2.2.2.1) x.2.2.2.2.2 p' (am_si (am_si m2 114 x.2.2.2.1 (nI x.2.2.1)) 106 22 (nI (x.2.2.2.1 + 1))) := by
            unfold depN opN
            rw [if_pos ow, if_pos ow]
            refine CSn_up hC3 (fun k j z1 z2 z3 => by rw [si_f (by omega), si_f (by omega)]) (by rw [si_f (by omega), si_f (by omega)]; exact hC3.2.1.1) (si_t ⟨rfl, rfl⟩) (by rw [si_f (by omega), si_f (by omega)]; exact hC3.2.1.2.2.1) (fun i hi => ?_) (fun k hk z y => z ((opn_up (by omega)).mpr y)) (TM_fr hC3.2.2.2.2.1 (fun j z z => by rw [si_f (by omega), si_f (by omega)]))
            rw [si_f (by omega)]
            by_cases ei : i = x.2.2.2.1
            · rw [ei, si_t ⟨rfl, rfl⟩, up1_at]
            · rw [si_f (by omega), up1_f ei]; exact hC3.2.1.2.2.2 i (by omega)
          refine s_ys279 (CSn_row hC4 sp ?_) p2 hst
          unfold RKs at *
          rw [si_f (by omega), si_f (by omega), si_f (by omega), si_f (by omega), si_f (by omega), si_f (by omega), si_f (by omega), si_f (by omega)]
          exact hr
      apply rg_X10_yearStep_97
      rw [c2, show (nI o = nI 0) ↔ o = 0 from ni_eq (by omega) (by omega), show (nI x.2.2.2.1 = nI 3) ↔ x.2.2.2.1 = 3 from ni_eq (by omega) (by omega)]
      refine ⟨fun q0 => rest (fun z => by have := ho.mpr z.1; omega), fun q0 => ⟨fun q3 => rest (fun z => q3 z.2), fun q3 => s_flM (d := d + 10) (K := K) hC (fun m l hh => rg_X10_yearStep_116 ⟨Or.inl rfl, hh⟩) (by rw [badK_n (by omega)]; exact (h5.2 q30).1 ⟨ho.mp (by omega), Classical.byContradiction q3⟩)⟩⟩
    rw [show (nI (iot w) = nI 17) ↔ iot w = 17 from ni_eq (by omega) (by omega), show (nI (iot w) = nI 18) ↔ iot w = 18 from ni_eq (by omega) (by omega), i4, i5]
    refine ⟨fun q => go 1 (by omega) (by omega), fun q => ⟨fun q2 => go 0 (by omega) (by omega), fun q2 => go 1 (by omega) (by omega)⟩⟩
  · have hb : cq E (d + 11) 208 [.ref 106, .int (nI 2)] (kc E (d + 11) 233 K 74 [am_mk, am_mk, am_mk, am_mk, am_mk, am_mk] []) mi ml := s_flM (d := d + 10) (K := K) hC (fun m l hh => rg_X10_yearStep_74 ⟨Or.inl rfl, hh⟩) (h2.2 sp)
    have hr : nP (toM (tkW c n x.1)) = nM ∨ ∃ k, nP (toM (tkW c n x.1)) = nI k ∧ (k < 11 ∨ k = 21) := by
      match ew : tkW c n x.1 with
      | 0 => exact Or.inl rfl
      | v + 1 =>
        rw [ew] at sp w20
        have sp' : ¬ isSp v := sp
        unfold isSp at sp'
        exact Or.inr ⟨iot v, rfl, iot_bad v (by omega) (by omega)⟩
    rcases hr with hr | ⟨k, hr, hk⟩
    · rw [hr]
      refine br_f (by decide) (br_t (by decide) ?_)
      apply rg_X10_yearStep_44
      refine br_t (by decide) ?_
      exact rg_X10_yearStep_69 hb
    · rw [hr, show (nI k = nI 17) ↔ k = 17 from ni_eq (by omega) (by omega), show (nI k = nI 18) ↔ k = 18 from ni_eq (by omega) (by omega)]
      refine br_f (by omega) (br_t (by omega) ?_)
      apply rg_X10_yearStep_44
      rw [ni_lt (by omega) (by omega), ni_lt (by omega) (by omega)]
      exact ⟨fun _ => rg_X10_yearStep_69 hb, fun q => ⟨fun _ => rg_X10_yearStep_69 hb, fun q2 => by omega⟩⟩
end
