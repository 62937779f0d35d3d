theorem op_roundOf {E : am_E} {K : am_K} {mi : Nat → Nat → Int32} {ml : Nat → Nat → Int64} (hI : INV mi ml) {u v : Int32} (hk : PR 272 [.ref 106, .int u, .int v] E K) : cq E 14 143 [.ref 0, .int u, .int v] K mi ml := by
  obtain ⟨i1, i2, i3, i4, i5, ⟨a, hB⟩, i7, i8, i9⟩ := id hI
  have hW : WA a := hB.1.1
  have hC : CB 12 a mi := hB.2.1
  have hM : MA a mi := MS_0.mp hB.2.2.1
  have hMi := hM
  unfold MA at hMi
  obtain ⟨⟨x0, x1, x2, x3, x4, x5, x6, x7, x8⟩, y, z⟩ := id hW
  have w := WA_p2 hW
  have hp0 := p2_pos (a 0)
  have hp1 := p2_pos (a 1)
  obtain ⟨⟨c0, c1, c2, c3, c4, c5, c6, c7⟩, cp, ch, ct, cx, cs⟩ := CB12 hC
  have e0 : nI 1 <<< ms (nI (a 0)) = nI (2 ^ a 0) := by rw [ni_shl (by omega), Nat.one_shiftLeft]
  have e1 : nI 1 <<< ms (nI (a 1)) = nI (2 ^ a 1) := by rw [ni_shl (by omega), Nat.one_shiftLeft]
  have f0 : nI (2 ^ a 0) - nI 1 = nI (2 ^ a 0 - 1) := ni_sub hp0
  have f1 : nI (2 ^ a 1) - nI 1 = nI (2 ^ a 1 - 1) := ni_sub hp1
  have m0 : mi 107 0 = nI (a 0) := hM 0 (by omega) (by omega)
  have m1 : mi 107 1 = nI (a 1) := hM 1 (by omega) (by omega)
  have m6 : mi 107 6 = nI (a 6) := hM 6 (by omega) (by omega)
  have m7 : mi 107 7 = nI (a 7) := hM 7 (by omega) (by omega)
  apply en_X9_roundOf (d := 10)
  simp only [lgc_lt, lgc_ge, lgc_gt, lgc_le, l64_0, l64_1, l64_3, l64_5, l64_9, l64_12, l64_16, l64_20, l64_60, l64_9999, w64_lt, w64_le, s107, s106, s110, s109, e0, e1, f0, f1, c0, c1, c2, c3, c4, c5, c6, c7, m0, m1, m6, m7]
  by_cases hu : ∃ p, p < a 1 ∧ u = nI p
  · obtain ⟨p, hp, rfl⟩ := hu
    refine rng_ok (by omega) hp ?_
    by_cases hv : ∃ s, s < 2 ^ a 0 ∧ v = nI s
    · obtain ⟨s, hs, rfl⟩ := hv
      refine rng_ok (by omega) hs ?_
      have hab : (aboA a).testBit p = !(a 7).testBit p := by rw [tb_abo]; simp [hp]
      rw [ni_bit (by have := abo_lt hW; omega) (by omega), ni_b0, hab]
      refine ⟨fun q => ?_, fun q => ?_⟩
      · have q7 : (a 7).testBit p = true := by simpa using q
        refine hk _ _ _ (fun Km hm => ?_)
        apply en_X10_roundOf (d := 7)
        simp only [lgc_lt, lgc_ge, lgc_gt, lgc_le, l64_0, l64_1, l64_3, l64_5, l64_9, l64_12, l64_16, l64_20, l64_60, l64_9999, w64_lt, w64_le, s107, s106, s110, s109, e0, e1, f0, f1, c0, c1, c2, c3, c4, c5, c6, c7, m0, m1, m6, m7]
        refine rng_ok (by omega) hp (rng_ok2 (by omega) hs ?_)
        rw [ni_bit (by omega) (by omega), ni_b1, q7]
        exact br_f (fun z => z rfl) (hm _ _ (INV_cm hI fr0_rfl fr0_rfl))
      · have q7 : (a 7).testBit p = false := by simpa using q
        apply s_roundOfRising hC hW hp (by omega)
        intro mm hf hC'
        apply rg_X9_roundOf_26
        have hro : roseF (riseA a s (aboA a)) 0 (a 1) p ≤ 9 := by
          have : ∀ r, roseF (riseA a s (aboA a)) 0 r p ≤ r := by
            intro r
            induction r with
            | zero => exact Nat.le_refl _
            | succ r ih =>
              unfold roseF
              split <;> omega
          have := this (a 1)
          omega
        have go : ∀ v w, (v = if roseF (riseA a s (aboA a)) 0 (a 1) p = 0 then nM else nI (roseF (riseA a s (aboA a)) 0 (a 1) p)) → (w = nI (if roseF (riseA a s (aboA a)) 0 (a 1) p = 0 then 6 else 0)) → K (some (.int v)) (S0, am_si mm 0 0 w, ml) := by
          intro v w hv hw
          refine hk _ _ _ (fun Km hm => ?_)
          have hM1 := MA_f0 hM (fr0_1 hf)
          have n0 : mm 107 0 = nI (a 0) := hM1 0 (by omega) (by omega)
          have n1 : mm 107 1 = nI (a 1) := hM1 1 (by omega) (by omega)
          have n6 : mm 107 6 = nI (a 6) := hM1 6 (by omega) (by omega)
          have n7 : mm 107 7 = nI (a 7) := hM1 7 (by omega) (by omega)
          apply en_X10_roundOf (d := 7)
          simp only [lgc_lt, lgc_ge, lgc_gt, lgc_le, l64_0, l64_1, l64_3, l64_5, l64_9, l64_12, l64_16, l64_20, l64_60, l64_9999, w64_lt, w64_le, s107, s106, s110, s109, e0, e1, f0, f1, c0, c1, c2, c3, c4, c5, c6, c7, m0, m1, m6, m7, n0, n1, n7]
          refine rng_ok (by omega) hp (rng_ok2 (by omega) hs ?_)
          rw [ni_bit (by omega) (by omega), ni_b1, q7]
          refine br_t (by decide) ?_
          apply s_restOf (MA_0 hM (fr0_1 hf)) hW (by omega)
          intro m2 hf2 h115 _
          apply rg_X10_roundOf_43
          rw [ni_cl (by omega), h115 p (by omega), rose9 hW s (aboA a) (by omega)]
          refine ⟨by rw [ni_in (by omega)]; omega, ?_⟩
          by_cases e : roseF (riseA a s (aboA a)) 0 (a 1) p = 0
          · rw [if_pos e] at hv hw
            subst hv hw
            rw [e]
            exact br_f (fun q => q rfl) (hm _ _ (INV_cm hI (fr0_1 hf) (fr0_R hf2)))
          · rw [if_neg e] at hv hw
            subst hv hw
            exact br_t (fun q => e ((ni_eq (by omega) (by omega)).mp q)) ⟨by rw [ni_in (by omega)]; omega, hm _ _ (INV_cm hI (fr0_1 hf) (fr0_R hf2))⟩
        by_cases e : roseF (riseA a s (aboA a)) 0 (a 1) p = 0
        · rw [if_pos e]
          exact br_f (fun q => q rfl) (go _ _ (by rw [if_pos e]) (by rw [if_pos e]))
        · rw [if_neg e]
          exact br_t (fun q => (ni_nM (by omega)).mp q) (go _ _ (by rw [if_neg e]) (by rw [if_neg e]))
    · refine rng_bad (by omega) hv ?_
      refine hk _ _ _ (fun Km hm => ?_)
      apply en_X10_roundOf (d := 7)
      simp only [lgc_lt, lgc_ge, lgc_gt, lgc_le, l64_0, l64_1, l64_3, l64_5, l64_9, l64_12, l64_16, l64_20, l64_60, l64_9999, w64_lt, w64_le, s107, s106, s110, s109, e0, e1, f0, f1, c0, c1, c2, c3, c4, c5, c6, c7, m0, m1, m6, m7]
      exact rng_ok (by omega) hp (rng_bd2 (by omega) (by omega) hv (hm _ _ (INV_cm hI fr0_rfl fr0_rfl)))
  · refine rng_bad (by omega) hu ?_
    refine hk _ _ _ (fun Km hm => ?_)
    apply en_X10_roundOf (d := 7)
    simp only [lgc_lt, lgc_ge, lgc_gt, lgc_le, l64_0, l64_1, l64_3, l64_5, l64_9, l64_12, l64_16, l64_20, l64_60, l64_9999, w64_lt, w64_le, s107, s106, s110, s109, e0, e1, f0, f1, c0, c1, c2, c3, c4, c5, c6, c7, m0, m1, m6, m7]
    exact rng_bad (by omega) hu (hm _ _ (INV_cm hI fr0_rfl fr0_rfl))
theorem op_weight {E : am_E} {K : am_K} {mi : Nat → Nat → Int32} {ml : Nat → Nat → Int64} (hI : INV mi ml) {u v : Int32} (hk : PR 284 [.ref 106, .int u, .int v] E K) : cq E 14 152 [.ref 0, .int u, .int v] K mi ml := by
  obtain ⟨i1, i2, i3, i4, i5, ⟨a, hB⟩, i7, i8, i9⟩ := id hI
  have hW : WA a := hB.1.1
  have hC : CB 12 a mi := hB.2.1
  have hM : MA a mi := MS_0.mp hB.2.2.1
  have hMi := hM
  unfold MA at hMi
  obtain ⟨⟨x0, x1, x2, x3, x4, x5, x6, x7, x8⟩, y, z⟩ := id hW
  have w := WA_p2 hW
  have hp0 := p2_pos (a 0)
  have hp1 := p2_pos (a 1)
  obtain ⟨⟨c0, c1, c2, c3, c4, c5, c6, c7⟩, cp, ch, ct, cx, cs⟩ := CB12 hC
  have e0 : nI 1 <<< ms (nI (a 0)) = nI (2 ^ a 0) := by rw [ni_shl (by omega), Nat.one_shiftLeft]
  have e1 : nI 1 <<< ms (nI (a 1)) = nI (2 ^ a 1) := by rw [ni_shl (by omega), Nat.one_shiftLeft]
  have f0 : nI (2 ^ a 0) - nI 1 = nI (2 ^ a 0 - 1) := ni_sub hp0
  have f1 : nI (2 ^ a 1) - nI 1 = nI (2 ^ a 1 - 1) := ni_sub hp1
  have m0 : mi 107 0 = nI (a 0) := hM 0 (by omega) (by omega)
  have m1 : mi 107 1 = nI (a 1) := hM 1 (by omega) (by omega)
  have m6 : mi 107 6 = nI (a 6) := hM 6 (by omega) (by omega)
  have m7 : mi 107 7 = nI (a 7) := hM 7 (by omega) (by omega)
  apply en_X9_weight (d := 8)
  simp only [lgc_lt, lgc_ge, lgc_gt, lgc_le, l64_0, l64_1, l64_3, l64_5, l64_9, l64_12, l64_16, l64_20, l64_60, l64_9999, w64_lt, w64_le, s107, s106, s110, s109, e0, e1, f0, f1, c0, c1, c2, c3, c4, c5, c6, c7, m0, m1, m6, m7]
  by_cases hu : ∃ p, p < a 1 ∧ u = nI p
  · obtain ⟨p, hp, rfl⟩ := hu
    refine rng_ok (by omega) hp ?_
    by_cases hv : ∃ s, s < 2 ^ a 0 ∧ v = nI s
    · obtain ⟨s, hs, rfl⟩ := hv
      refine rng_ok (by omega) hs ?_
      have hab : (aboA a).testBit p = !(a 7).testBit p := by rw [tb_abo]; simp [hp]
      rw [ni_bit (by have := abo_lt hW; omega) (by omega), ni_b0, hab]
      refine ⟨fun q => ?_, fun q => ?_⟩
      · have q7 : (a 7).testBit p = true := by simpa using q
        refine hk _ _ _ (fun Km hm => ?_)
        apply en_X10_weight (d := 6)
        simp only [lgc_lt, lgc_ge, lgc_gt, lgc_le, l64_0, l64_1, l64_3, l64_5, l64_9, l64_12, l64_16, l64_20, l64_60, l64_9999, w64_lt, w64_le, s107, s106, s110, s109, e0, e1, f0, f1, c0, c1, c2, c3, c4, c5, c6, c7, m0, m1, m6, m7]
        refine rng_ok (by omega) hp (rng_ok2 (by omega) hs ?_)
        rw [ni_bit (by omega) (by omega), ni_b1, q7]
        exact br_f (fun z => z rfl) (hm _ _ (INV_cm hI fr0_rfl fr0_rfl))
      · have q7 : (a 7).testBit p = false := by simpa using q
        apply s_weightOf hC hW hp (by omega)
        intro mm hf hC'
        apply rg_X9_weight_27
        refine hk _ _ _ (fun Km hm => ?_)
        have hM1 := MA_f0 hM (fr0_1 hf)
        have n0 : mm 107 0 = nI (a 0) := hM1 0 (by omega) (by omega)
        have n1 : mm 107 1 = nI (a 1) := hM1 1 (by omega) (by omega)
        have n6 : mm 107 6 = nI (a 6) := hM1 6 (by omega) (by omega)
        have n7 : mm 107 7 = nI (a 7) := hM1 7 (by omega) (by omega)
        apply en_X10_weight (d := 6)
        simp only [lgc_lt, lgc_ge, lgc_gt, lgc_le, l64_0, l64_1, l64_3, l64_5, l64_9, l64_12, l64_16, l64_20, l64_60, l64_9999, w64_lt, w64_le, s107, s106, s110, s109, e0, e1, f0, f1, c0, c1, c2, c3, c4, c5, c6, c7, m0, m1, m6, m7, n0, n1, n7]
        refine rng_ok (by omega) hp (rng_ok2 (by omega) hs ?_)
        rw [ni_bit (by omega) (by omega), ni_b1, q7]
        refine br_t (by decide) ?_
        apply s_weightOfM (MA_0 hM (fr0_1 hf)) hW hp (by omega)
        intro m2 hf2
        apply rg_X10_weight_47
        exact hm _ _ (INV_cm hI (fr0_1 hf) (fr0_R hf2))
    · refine rng_bad (by omega) hv ?_
      refine hk _ _ _ (fun Km hm => ?_)
      apply en_X10_weight (d := 6)
      simp only [lgc_lt, lgc_ge, lgc_gt, lgc_le, l64_0, l64_1, l64_3, l64_5, l64_9, l64_12, l64_16, l64_20, l64_60, l64_9999, w64_lt, w64_le, s107, s106, s110, s109, e0, e1, f0, f1, c0, c1, c2, c3, c4, c5, c6, c7, m0, m1, m6, m7]
      exact rng_ok (by omega) hp (rng_bd2 (by omega) (by omega) hv (hm _ _ (INV_cm hI fr0_rfl fr0_rfl)))
  · refine rng_bad (by omega) hu ?_
    refine hk _ _ _ (fun Km hm => ?_)
    apply en_X10_weight (d := 6)
    simp only [lgc_lt, lgc_ge, lgc_gt, lgc_le, l64_0, l64_1, l64_3, l64_5, l64_9, l64_12, l64_16, l64_20, l64_60, l64_9999, w64_lt, w64_le, s107, s106, s110, s109, e0, e1, f0, f1, c0, c1, c2, c3, c4, c5, c6, c7, m0, m1, m6, m7]
    exact rng_bad (by omega) hu (hm _ _ (INV_cm hI fr0_rfl fr0_rfl))
theorem op_atRest {E : am_E} {K : am_K} {mi : Nat → Nat → Int32} {ml : Nat → Nat → Int64} (hI : INV mi ml) {u v : Int32} (hk : PR 277 [.ref 106, .int u, .int v] E K) : cq E 14 147 [.ref 0, .int u, .int v] K mi ml := by
  obtain ⟨i1, i2, i3, i4, i5, ⟨a, hB⟩, i7, i8, i9⟩ := id hI
  have hW : WA a := hB.1.1
  have hC : CB 12 a mi := hB.2.1
  have hM : MA a mi := MS_0.mp hB.2.2.1
  have hMi := hM
  unfold MA at hMi
  obtain ⟨⟨x0, x1, x2, x3, x4, x5, x6, x7, x8⟩, y, z⟩ := id hW
  have w := WA_p2 hW
  have hp0 := p2_pos (a 0)
  have hp1 := p2_pos (a 1)
  obtain ⟨⟨c0, c1, c2, c3, c4, c5, c6, c7⟩, cp, ch, ct, cx, cs⟩ := CB12 hC
  have e0 : nI 1 <<< ms (nI (a 0)) = nI (2 ^ a 0) := by rw [ni_shl (by omega), Nat.one_shiftLeft]
  have e1 : nI 1 <<< ms (nI (a 1)) = nI (2 ^ a 1) := by rw [ni_shl (by omega), Nat.one_shiftLeft]
  have f0 : nI (2 ^ a 0) - nI 1 = nI (2 ^ a 0 - 1) := ni_sub hp0
  have f1 : nI (2 ^ a 1) - nI 1 = nI (2 ^ a 1 - 1) := ni_sub hp1
  have m0 : mi 107 0 = nI (a 0) := hM 0 (by omega) (by omega)
  have m1 : mi 107 1 = nI (a 1) := hM 1 (by omega) (by omega)
  have m6 : mi 107 6 = nI (a 6) := hM 6 (by omega) (by omega)
  have m7 : mi 107 7 = nI (a 7) := hM 7 (by omega) (by omega)
  apply en_X9_atRest (d := 10)
  simp only [lgc_lt, lgc_ge, lgc_gt, lgc_le, l64_0, l64_1, l64_3, l64_5, l64_9, l64_12, l64_16, l64_20, l64_60, l64_9999, w64_lt, w64_le, s107, s106, s110, s109, e0, e1, f0, f1, c0, c1, c2, c3, c4, c5, c6, c7, m0, m1, m6, m7]
  by_cases hu : ∃ p, p < 2 ^ a 1 ∧ u = nI p
  · obtain ⟨p, hp, rfl⟩ := hu
    refine rng_ok (by omega) hp ?_
    by_cases hv : ∃ s, s < 2 ^ a 0 ∧ v = nI s
    · obtain ⟨s, hs, rfl⟩ := hv
      refine rng_ok (by omega) hs ?_
      rw [ni_dif, dif_abo hp]
      have hl := and_lt (y := a 7) (show p < 2147483648 by omega)
      rw [ni_eq hl (by omega)]
      refine ⟨fun q => ?_, fun q => ?_⟩
      · apply s_isRest hC hW (by omega) (by omega)
        intro mm hf hC'
        apply rg_X9_atRest_61
        have go : K (some (.int (nI (b01 (decide (contA a s (aboA a) p = p)))))) (S0, am_si mm 0 0 (nI 0), ml) := by
          refine hk _ _ _ (fun Km hm => ?_)
          have hM1 := MA_f0 hM (fr0_1 hf)
          have n0 : mm 107 0 = nI (a 0) := hM1 0 (by omega) (by omega)
          have n1 : mm 107 1 = nI (a 1) := hM1 1 (by omega) (by omega)
          have n6 : mm 107 6 = nI (a 6) := hM1 6 (by omega) (by omega)
          have n7 : mm 107 7 = nI (a 7) := hM1 7 (by omega) (by omega)
          apply en_X10_atRest (d := 8)
          simp only [lgc_lt, lgc_ge, lgc_gt, lgc_le, l64_0, l64_1, l64_3, l64_5, l64_9, l64_12, l64_16, l64_20, l64_60, l64_9999, w64_lt, w64_le, s107, s106, s110, s109, e0, e1, f0, f1, c0, c1, c2, c3, c4, c5, c6, c7, m0, m1, m6, m7, n0, n1, n7]
          refine rng_ok2 (by omega) hp (rng_ok2 (by omega) hs ?_)
          rw [ni_and, ni_eq hl (by omega)]
          refine br_t q ?_
          apply s_isRestM (MA_0 hM (fr0_1 hf)) hW (by omega) hp q
          apply rg_X10_atRest_50
          rw [ni_b0]
          revert hm
          cases decide (contA a s (aboA a) p = p)
          · exact fun hm => br_t rfl (hm _ _ (INV_cm hI (fr0_1 hf) fr0_rfl))
          · exact fun hm => br_f (by decide) (hm _ _ (INV_cm hI (fr0_1 hf) fr0_rfl))
        rw [ni_b0]
        revert go
        cases decide (contA a s (aboA a) p = p)
        · exact fun go => br_t rfl go
        · exact fun go => br_f (by decide) go
      · refine hk _ _ _ (fun Km hm => ?_)
        apply en_X10_atRest (d := 8)
        simp only [lgc_lt, lgc_ge, lgc_gt, lgc_le, l64_0, l64_1, l64_3, l64_5, l64_9, l64_12, l64_16, l64_20, l64_60, l64_9999, w64_lt, w64_le, s107, s106, s110, s109, e0, e1, f0, f1, c0, c1, c2, c3, c4, c5, c6, c7, m0, m1, m6, m7]
        refine rng_ok2 (by omega) hp (rng_ok2 (by omega) hs ?_)
        rw [ni_and, ni_eq hl (by omega)]
        exact br_f q (hm _ _ (INV_cm hI fr0_rfl fr0_rfl))
    · refine rng_bad (by omega) hv ?_
      refine hk _ _ _ (fun Km hm => ?_)
      apply en_X10_atRest (d := 8)
      simp only [lgc_lt, lgc_ge, lgc_gt, lgc_le, l64_0, l64_1, l64_3, l64_5, l64_9, l64_12, l64_16, l64_20, l64_60, l64_9999, w64_lt, w64_le, s107, s106, s110, s109, e0, e1, f0, f1, c0, c1, c2, c3, c4, c5, c6, c7, m0, m1, m6, m7]
      exact rng_ok2 (by omega) hp (rng_bd2 (by omega) (by omega) hv (hm _ _ (INV_cm hI fr0_rfl fr0_rfl)))
  · refine rng_bad (by omega) hu ?_
    refine hk _ _ _ (fun Km hm => ?_)
    apply en_X10_atRest (d := 8)
    simp only [lgc_lt, lgc_ge, lgc_gt, lgc_le, l64_0, l64_1, l64_3, l64_5, l64_9, l64_12, l64_16, l64_20, l64_60, l64_9999, w64_lt, w64_le, s107, s106, s110, s109, e0, e1, f0, f1, c0, c1, c2, c3, c4, c5, c6, c7, m0, m1, m6, m7]
    exact rng_bd2 (by omega) (by omega) hu (hm _ _ (INV_cm hI fr0_rfl fr0_rfl))
theorem op_lures {E : am_E} {K : am_K} {mi : Nat → Nat → Int32} {ml : Nat → Nat → Int64} (hI : INV mi ml) {u : Int32} (hk : PR 287 [.ref 106, .int u] E K) : cq E 14 154 [.ref 0, .int u] K mi ml := by
  obtain ⟨i1, i2, i3, i4, i5, ⟨a, hB⟩, i7, i8, i9⟩ := id hI
  have hW : WA a := hB.1.1
  have hC : CB 12 a mi := hB.2.1
  have hM : MA a mi := MS_0.mp hB.2.2.1
  have hMi := hM
  unfold MA at hMi
  obtain ⟨⟨x0, x1, x2, x3, x4, x5, x6, x7, x8⟩, y, z⟩ := id hW
  have w := WA_p2 hW
  have hp0 := p2_pos (a 0)
  have hp1 := p2_pos (a 1)
  obtain ⟨⟨c0, c1, c2, c3, c4, c5, c6, c7⟩, cp, ch, ct, cx, cs⟩ := CB12 hC
  have e0 : nI 1 <<< ms (nI (a 0)) = nI (2 ^ a 0) := by rw [ni_shl (by omega), Nat.one_shiftLeft]
  have e1 : nI 1 <<< ms (nI (a 1)) = nI (2 ^ a 1) := by rw [ni_shl (by omega), Nat.one_shiftLeft]
  have f0 : nI (2 ^ a 0) - nI 1 = nI (2 ^ a 0 - 1) := ni_sub hp0
  have f1 : nI (2 ^ a 1) - nI 1 = nI (2 ^ a 1 - 1) := ni_sub hp1
  have m0 : mi 107 0 = nI (a 0) := hM 0 (by omega) (by omega)
  have m1 : mi 107 1 = nI (a 1) := hM 1 (by omega) (by omega)
  have m6 : mi 107 6 = nI (a 6) := hM 6 (by omega) (by omega)
  have m7 : mi 107 7 = nI (a 7) := hM 7 (by omega) (by omega)
  apply en_X9_lures (d := 8)
  simp only [lgc_lt, lgc_ge, lgc_gt, lgc_le, l64_0, l64_1, l64_3, l64_5, l64_9, l64_12, l64_16, l64_20, l64_60, l64_9999, w64_lt, w64_le, s107, s106, s110, s109, e0, e1, f0, f1, c0, c1, c2, c3, c4, c5, c6, c7, m0, m1, m6, m7]
  by_cases hu : ∃ p, p < a 1 ∧ u = nI p
  · obtain ⟨p, hp, rfl⟩ := hu
    refine rng_ok (by omega) hp (rng_ok (by omega) (by omega) ?_)
    have hab : (aboA a).testBit p = !(a 7).testBit p := by rw [tb_abo]; simp [hp]
    rw [ni_bit (by have := abo_lt hW; omega) (by omega), ni_b0, hab]
    refine ⟨fun q => ?_, fun q => ?_⟩
    · have q7 : (a 7).testBit p = true := by simpa using q
      refine hk _ _ _ (fun Km hm => ?_)
      apply en_X10_lures (d := 6)
      simp only [lgc_lt, lgc_ge, lgc_gt, lgc_le, l64_0, l64_1, l64_3, l64_5, l64_9, l64_12, l64_16, l64_20, l64_60, l64_9999, w64_lt, w64_le, s107, s106, s110, s109, e0, e1, f0, f1, c0, c1, c2, c3, c4, c5, c6, c7, m0, m1, m6, m7]
      refine rng_ok (by omega) hp ?_
      rw [ni_bit (by omega) (by omega), ni_b1, q7]
      exact br_f (fun z => z rfl) (hm _ _ (INV_cm hI fr0_rfl fr0_rfl))
    · have q7 : (a 7).testBit p = false := by simpa using q
      have hxi : foldN (lureS a p) (2 ^ a 0) 0 ≤ 2 ^ a 0 := foldN_le (fun u x hx => by unfold lureS; split <;> omega) (2 ^ a 0)
      apply s_fewestLures hC hW hp
      intro mm hf hC'
      apply rg_X9_lures_25
      have go : ∀ v w, (v = (if foldN (lureS a p) (2 ^ a 0) 0 = 0 then nM else nI (pc (foldN (lureS a p) (2 ^ a 0) 0 - 1)))) → (w = nI (if foldN (lureS a p) (2 ^ a 0) 0 = 0 then 6 else 0)) → K (some (.int v)) (S0, am_si mm 0 0 w, ml) := by
        intro v w hv hw
        refine hk _ _ _ (fun Km hm => ?_)
        have hM1 := MA_f0 hM (fr0_1 hf)
        have n0 : mm 107 0 = nI (a 0) := hM1 0 (by omega) (by omega)
        have n1 : mm 107 1 = nI (a 1) := hM1 1 (by omega) (by omega)
        have n6 : mm 107 6 = nI (a 6) := hM1 6 (by omega) (by omega)
        have n7 : mm 107 7 = nI (a 7) := hM1 7 (by omega) (by omega)
        apply en_X10_lures (d := 6)
        simp only [lgc_lt, lgc_ge, lgc_gt, lgc_le, l64_0, l64_1, l64_3, l64_5, l64_9, l64_12, l64_16, l64_20, l64_60, l64_9999, w64_lt, w64_le, s107, s106, s110, s109, e0, e1, f0, f1, c0, c1, c2, c3, c4, c5, c6, c7, m0, m1, m6, m7, n0, n1, n7]
        refine rng_ok (by omega) hp ?_
        rw [ni_bit (by omega) (by omega), ni_b1, q7]
        refine br_t (by decide) ?_
        apply s_luring (MA_0 hM (fr0_1 hf)) hW hp
        intro m2 hf2
        apply rg_X10_lures_34
        generalize foldN (lureS a p) (2 ^ a 0) 0 = x at *
        match x, hxi, hv, hw with
        | 0, _, hv, hw =>
          rw [if_pos rfl] at hv hw
          subst hv hw
          exact br_f (fun q => q rfl) (hm _ _ (INV_cm hI (fr0_1 hf) (fr0_R hf2)))
        | k + 1, hxi, hv, hw =>
          rw [if_neg (by omega), Nat.add_sub_cancel] at hv
          rw [if_neg (by omega)] at hw
          subst hv hw
          rw [nP_s]
          refine br_t (fun q => (ni_nM (by omega)).mp q) ?_
          apply s_bits (by omega)
          apply rg_X10_lures_54
          exact hm _ _ (INV_cm hI (fr0_1 hf) (fr0_R hf2))
      generalize foldN (lureS a p) (2 ^ a 0) 0 = x at *
      match x, hxi, go with
      | 0, _, go => exact br_f (fun q => q rfl) (go _ _ rfl rfl)
      | k + 1, hxi, go =>
        rw [nP_s]
        refine br_t (fun q => (ni_nM (by omega)).mp q) ?_
        rw [bc_pc (by omega)]
        exact go _ _ (by rw [if_neg (by omega)]; rfl) (by rw [if_neg (by omega)])
  · refine rng_bad (by omega) hu ?_
    refine hk _ _ _ (fun Km hm => ?_)
    apply en_X10_lures (d := 6)
    simp only [lgc_lt, lgc_ge, lgc_gt, lgc_le, l64_0, l64_1, l64_3, l64_5, l64_9, l64_12, l64_16, l64_20, l64_60, l64_9999, w64_lt, w64_le, s107, s106, s110, s109, e0, e1, f0, f1, c0, c1, c2, c3, c4, c5, c6, c7, m0, m1, m6, m7]
    exact rng_bad (by omega) hu (hm _ _ (INV_cm hI fr0_rfl fr0_rfl))
theorem op_lureSet {E : am_E} {K : am_K} {mi : Nat → Nat → Int32} {ml : Nat → Nat → Int64} (hI : INV mi ml) {u : Int32} (hk : PR 288 [.ref 106, .int u] E K) : cq E 14 155 [.ref 0, .int u] K mi ml := by
  obtain ⟨i1, i2, i3, i4, i5, ⟨a, hB⟩, i7, i8, i9⟩ := id hI
  have hW : WA a := hB.1.1
  have hC : CB 12 a mi := hB.2.1
  have hM : MA a mi := MS_0.mp hB.2.2.1
  have hMi := hM
  unfold MA at hMi
  obtain ⟨⟨x0, x1, x2, x3, x4, x5, x6, x7, x8⟩, y, z⟩ := id hW
  have w := WA_p2 hW
  have hp0 := p2_pos (a 0)
  have hp1 := p2_pos (a 1)
  obtain ⟨⟨c0, c1, c2, c3, c4, c5, c6, c7⟩, cp, ch, ct, cx, cs⟩ := CB12 hC
  have e0 : nI 1 <<< ms (nI (a 0)) = nI (2 ^ a 0) := by rw [ni_shl (by omega), Nat.one_shiftLeft]
  have e1 : nI 1 <<< ms (nI (a 1)) = nI (2 ^ a 1) := by rw [ni_shl (by omega), Nat.one_shiftLeft]
  have f0 : nI (2 ^ a 0) - nI 1 = nI (2 ^ a 0 - 1) := ni_sub hp0
  have f1 : nI (2 ^ a 1) - nI 1 = nI (2 ^ a 1 - 1) := ni_sub hp1
  have m0 : mi 107 0 = nI (a 0) := hM 0 (by omega) (by omega)
  have m1 : mi 107 1 = nI (a 1) := hM 1 (by omega) (by omega)
  have m6 : mi 107 6 = nI (a 6) := hM 6 (by omega) (by omega)
  have m7 : mi 107 7 = nI (a 7) := hM 7 (by omega) (by omega)
  apply en_X9_lureSet (d := 8)
  simp only [lgc_lt, lgc_ge, lgc_gt, lgc_le, l64_0, l64_1, l64_3, l64_5, l64_9, l64_12, l64_16, l64_20, l64_60, l64_9999, w64_lt, w64_le, s107, s106, s110, s109, e0, e1, f0, f1, c0, c1, c2, c3, c4, c5, c6, c7, m0, m1, m6, m7]
  by_cases hu : ∃ p, p < a 1 ∧ u = nI p
  · obtain ⟨p, hp, rfl⟩ := hu
    refine rng_ok (by omega) hp (rng_ok (by omega) (by omega) ?_)
    have hab : (aboA a).testBit p = !(a 7).testBit p := by rw [tb_abo]; simp [hp]
    rw [ni_bit (by have := abo_lt hW; omega) (by omega), ni_b0, hab]
    refine ⟨fun q => ?_, fun q => ?_⟩
    · have q7 : (a 7).testBit p = true := by simpa using q
      refine hk _ _ _ (fun Km hm => ?_)
      apply en_X10_lureSet (d := 6)
      simp only [lgc_lt, lgc_ge, lgc_gt, lgc_le, l64_0, l64_1, l64_3, l64_5, l64_9, l64_12, l64_16, l64_20, l64_60, l64_9999, w64_lt, w64_le, s107, s106, s110, s109, e0, e1, f0, f1, c0, c1, c2, c3, c4, c5, c6, c7, m0, m1, m6, m7]
      refine rng_ok (by omega) hp ?_
      rw [ni_bit (by omega) (by omega), ni_b1, q7]
      exact br_f (fun z => z rfl) (hm _ _ (INV_cm hI fr0_rfl fr0_rfl))
    · have q7 : (a 7).testBit p = false := by simpa using q
      have hxi : foldN (lureS a p) (2 ^ a 0) 0 ≤ 2 ^ a 0 := foldN_le (fun u x hx => by unfold lureS; split <;> omega) (2 ^ a 0)
      apply s_fewestLures hC hW hp
      intro mm hf hC'
      apply rg_X9_lureSet_25
      have go : ∀ v w, (v = (if foldN (lureS a p) (2 ^ a 0) 0 = 0 then nM else nI (id (foldN (lureS a p) (2 ^ a 0) 0 - 1)))) → (w = nI (if foldN (lureS a p) (2 ^ a 0) 0 = 0 then 6 else 0)) → K (some (.int v)) (S0, am_si mm 0 0 w, ml) := by
        intro v w hv hw
        refine hk _ _ _ (fun Km hm => ?_)
        have hM1 := MA_f0 hM (fr0_1 hf)
        have n0 : mm 107 0 = nI (a 0) := hM1 0 (by omega) (by omega)
        have n1 : mm 107 1 = nI (a 1) := hM1 1 (by omega) (by omega)
        have n6 : mm 107 6 = nI (a 6) := hM1 6 (by omega) (by omega)
        have n7 : mm 107 7 = nI (a 7) := hM1 7 (by omega) (by omega)
        apply en_X10_lureSet (d := 6)
        simp only [lgc_lt, lgc_ge, lgc_gt, lgc_le, l64_0, l64_1, l64_3, l64_5, l64_9, l64_12, l64_16, l64_20, l64_60, l64_9999, w64_lt, w64_le, s107, s106, s110, s109, e0, e1, f0, f1, c0, c1, c2, c3, c4, c5, c6, c7, m0, m1, m6, m7, n0, n1, n7]
        refine rng_ok (by omega) hp ?_
        rw [ni_bit (by omega) (by omega), ni_b1, q7]
        refine br_t (by decide) ?_
        apply s_luring (MA_0 hM (fr0_1 hf)) hW hp
        intro m2 hf2
        apply rg_X10_lureSet_37
        generalize foldN (lureS a p) (2 ^ a 0) 0 = x at *
        match x, hxi, hv, hw with
        | 0, _, hv, hw =>
          rw [if_pos rfl] at hv hw
          subst hv hw
          exact br_f (fun q => q rfl) (hm _ _ (INV_cm hI (fr0_1 hf) (fr0_R hf2)))
        | k + 1, hxi, hv, hw =>
          rw [if_neg (by omega), Nat.add_sub_cancel] at hv
          rw [if_neg (by omega)] at hw
          subst hv hw
          rw [nP_s]
          exact br_t (fun q => (ni_nM (by omega)).mp q) (hm _ _ (INV_cm hI (fr0_1 hf) (fr0_R hf2)))
      generalize foldN (lureS a p) (2 ^ a 0) 0 = x at *
      match x, hxi, go with
      | 0, _, go => exact br_f (fun q => q rfl) (go _ _ rfl rfl)
      | k + 1, hxi, go =>
        rw [nP_s]
        refine br_t (fun q => (ni_nM (by omega)).mp q) ?_
        skip
        exact go _ _ (by rw [if_neg (by omega)]; rfl) (by rw [if_neg (by omega)])
  · refine rng_bad (by omega) hu ?_
    refine hk _ _ _ (fun Km hm => ?_)
    apply en_X10_lureSet (d := 6)
    simp only [lgc_lt, lgc_ge, lgc_gt, lgc_le, l64_0, l64_1, l64_3, l64_5, l64_9, l64_12, l64_16, l64_20, l64_60, l64_9999, w64_lt, w64_le, s107, s106, s110, s109, e0, e1, f0, f1, c0, c1, c2, c3, c4, c5, c6, c7, m0, m1, m6, m7]
    exact rng_bad (by omega) hu (hm _ _ (INV_cm hI fr0_rfl fr0_rfl))
theorem op_best {E : am_E} {K : am_K} {mi : Nat → Nat → Int32} {ml : Nat → Nat → Int64} (hI : INV mi ml) (hk : PR 290 [.ref 106] E K) : cq E 14 156 [.ref 0] K mi ml := by
  obtain ⟨i1, i2, i3, i4, i5, ⟨a, hB⟩, i7, i8, i9⟩ := id hI
  have hW : WA a := hB.1.1
  have hC : CB 12 a mi := hB.2.1
  have hM : MA a mi := MS_0.mp hB.2.2.1
  have hMi := hM
  unfold MA at hMi
  obtain ⟨⟨x0, x1, x2, x3, x4, x5, x6, x7, x8⟩, y, z⟩ := id hW
  have w := WA_p2 hW
  have hp0 := p2_pos (a 0)
  have hp1 := p2_pos (a 1)
  obtain ⟨⟨c0, c1, c2, c3, c4, c5, c6, c7⟩, cp, ch, ct, cx, cs⟩ := CB12 hC
  have e0 : nI 1 <<< ms (nI (a 0)) = nI (2 ^ a 0) := by rw [ni_shl (by omega), Nat.one_shiftLeft]
  have e1 : nI 1 <<< ms (nI (a 1)) = nI (2 ^ a 1) := by rw [ni_shl (by omega), Nat.one_shiftLeft]
  have f0 : nI (2 ^ a 0) - nI 1 = nI (2 ^ a 0 - 1) := ni_sub hp0
  have f1 : nI (2 ^ a 1) - nI 1 = nI (2 ^ a 1 - 1) := ni_sub hp1
  have m0 : mi 107 0 = nI (a 0) := hM 0 (by omega) (by omega)
  have m1 : mi 107 1 = nI (a 1) := hM 1 (by omega) (by omega)
  have m6 : mi 107 6 = nI (a 6) := hM 6 (by omega) (by omega)
  have m7 : mi 107 7 = nI (a 7) := hM 7 (by omega) (by omega)
  apply en_X9_best (d := 7)
  apply s_bestOmens hC hW
  intro mm hf hC'
  apply rg_X9_best_8
  refine hk _ _ _ (fun Km hm => ?_)
  apply en_X10_best (d := 6)
  apply s_bestOmensM (MA_0 hM (fr0_1 hf)) hW
  intro m2 hf2
  apply rg_X10_best_5
  exact hm _ _ (INV_cm hI (fr0_1 hf) (fr0_R hf2))
theorem op_bestOut {E : am_E} {K : am_K} {mi : Nat → Nat → Int32} {ml : Nat → Nat → Int64} (hI : INV mi ml) (hk : PR 291 [.ref 106] E K) : cq E 14 157 [.ref 0] K mi ml := by
  obtain ⟨i1, i2, i3, i4, i5, ⟨a, hB⟩, i7, i8, i9⟩ := id hI
  have hW : WA a := hB.1.1
  have hC : CB 12 a mi := hB.2.1
  have hM : MA a mi := MS_0.mp hB.2.2.1
  have hMi := hM
  unfold MA at hMi
  obtain ⟨⟨x0, x1, x2, x3, x4, x5, x6, x7, x8⟩, y, z⟩ := id hW
  have w := WA_p2 hW
  have hp0 := p2_pos (a 0)
  have hp1 := p2_pos (a 1)
  obtain ⟨⟨c0, c1, c2, c3, c4, c5, c6, c7⟩, cp, ch, ct, cx, cs⟩ := CB12 hC
  have e0 : nI 1 <<< ms (nI (a 0)) = nI (2 ^ a 0) := by rw [ni_shl (by omega), Nat.one_shiftLeft]
  have e1 : nI 1 <<< ms (nI (a 1)) = nI (2 ^ a 1) := by rw [ni_shl (by omega), Nat.one_shiftLeft]
  have f0 : nI (2 ^ a 0) - nI 1 = nI (2 ^ a 0 - 1) := ni_sub hp0
  have f1 : nI (2 ^ a 1) - nI 1 = nI (2 ^ a 1 - 1) := ni_sub hp1
  have m0 : mi 107 0 = nI (a 0) := hM 0 (by omega) (by omega)
  have m1 : mi 107 1 = nI (a 1) := hM 1 (by omega) (by omega)
  have m6 : mi 107 6 = nI (a 6) := hM 6 (by omega) (by omega)
  have m7 : mi 107 7 = nI (a 7) := hM 7 (by omega) (by omega)
  apply en_X9_bestOut (d := 7)
  have hx : foldN (bestS a) (2 ^ a 0) 0 < 64 := foldN_lt (B := 64) (fun u x hu hx => by unfold bestS; split <;> assumption) (by omega) (by omega)
  have hol := out_lt a (aboA a) (foldN (bestS a) (2 ^ a 0) 0)
  apply s_bestOmens hC hW
  intro mm hf hC'
  apply rg_X9_bestOut_12
  apply s_countOut hC' hW (by omega)
  intro m3 hf3 hC3
  apply rg_X9_bestOut_15
  refine hk _ _ _ (fun Km hm => ?_)
  have hf4 := fr0_1 (fr1_tr hf hf3)
  apply en_X10_bestOut (d := 6)
  apply s_aboardM (MA_0 hM hf4) hW
  apply rg_X10_bestOut_6
  apply s_bestOmensM (MA_0 hM hf4) hW
  intro m2 hf2
  apply rg_X10_bestOut_10
  apply s_outOfM (MA_fr (MA_0 hM hf4) hf2) hW (by omega) (abo_lt hW)
  intro m5 hf5
  apply rg_X10_bestOut_13
  apply s_bits (by omega)
  apply rg_X10_bestOut_16
  exact hm _ _ (INV_cm hI hf4 (fr0_R (frR_tr hf2 hf5)))
theorem op_never {E : am_E} {K : am_K} {mi : Nat → Nat → Int32} {ml : Nat → Nat → Int64} (hI : INV mi ml) (hk : PR 292 [.ref 106] E K) : cq E 14 158 [.ref 0] K mi ml := by
  obtain ⟨i1, i2, i3, i4, i5, ⟨a, hB⟩, i7, i8, i9⟩ := id hI
  have hW : WA a := hB.1.1
  have hC : CB 12 a mi := hB.2.1
  have hM : MA a mi := MS_0.mp hB.2.2.1
  have hMi := hM
  unfold MA at hMi
  obtain ⟨⟨x0, x1, x2, x3, x4, x5, x6, x7, x8⟩, y, z⟩ := id hW
  have w := WA_p2 hW
  have hp0 := p2_pos (a 0)
  have hp1 := p2_pos (a 1)
  obtain ⟨⟨c0, c1, c2, c3, c4, c5, c6, c7⟩, cp, ch, ct, cx, cs⟩ := CB12 hC
  have e0 : nI 1 <<< ms (nI (a 0)) = nI (2 ^ a 0) := by rw [ni_shl (by omega), Nat.one_shiftLeft]
  have e1 : nI 1 <<< ms (nI (a 1)) = nI (2 ^ a 1) := by rw [ni_shl (by omega), Nat.one_shiftLeft]
  have f0 : nI (2 ^ a 0) - nI 1 = nI (2 ^ a 0 - 1) := ni_sub hp0
  have f1 : nI (2 ^ a 1) - nI 1 = nI (2 ^ a 1 - 1) := ni_sub hp1
  have m0 : mi 107 0 = nI (a 0) := hM 0 (by omega) (by omega)
  have m1 : mi 107 1 = nI (a 1) := hM 1 (by omega) (by omega)
  have m6 : mi 107 6 = nI (a 6) := hM 6 (by omega) (by omega)
  have m7 : mi 107 7 = nI (a 7) := hM 7 (by omega) (by omega)
  apply en_X9_never (d := 8)
  apply s_neverOut hC hW
  intro mm hf hC'
  apply rg_X9_never_8
  refine hk _ _ _ (fun Km hm => ?_)
  apply s_neverM (d := 7) (MA_0 hM (fr0_1 hf)) hW
  intro m2 hf2
  exact hm _ _ (INV_cm hI (fr0_1 hf) (fr0_R hf2))
theorem op_lookouts {E : am_E} {K : am_K} {mi : Nat → Nat → Int32} {ml : Nat → Nat → Int64} (hI : INV mi ml) (hk : PR 306 [.ref 106] E K) : cq E 14 168 [.ref 0] K mi ml := by
  obtain ⟨i1, i2, i3, i4, i5, ⟨a, hB⟩, i7, i8, i9⟩ := id hI
  have hW : WA a := hB.1.1
  have hC : CB 12 a mi := hB.2.1
  have hM : MA a mi := MS_0.mp hB.2.2.1
  have hMi := hM
  unfold MA at hMi
  obtain ⟨⟨x0, x1, x2, x3, x4, x5, x6, x7, x8⟩, y, z⟩ := id hW
  have w := WA_p2 hW
  have hp0 := p2_pos (a 0)
  have hp1 := p2_pos (a 1)
  obtain ⟨⟨c0, c1, c2, c3, c4, c5, c6, c7⟩, cp, ch, ct, cx, cs⟩ := CB12 hC
  have e0 : nI 1 <<< ms (nI (a 0)) = nI (2 ^ a 0) := by rw [ni_shl (by omega), Nat.one_shiftLeft]
  have e1 : nI 1 <<< ms (nI (a 1)) = nI (2 ^ a 1) := by rw [ni_shl (by omega), Nat.one_shiftLeft]
  have f0 : nI (2 ^ a 0) - nI 1 = nI (2 ^ a 0 - 1) := ni_sub hp0
  have f1 : nI (2 ^ a 1) - nI 1 = nI (2 ^ a 1 - 1) := ni_sub hp1
  have m0 : mi 107 0 = nI (a 0) := hM 0 (by omega) (by omega)
  have m1 : mi 107 1 = nI (a 1) := hM 1 (by omega) (by omega)
  have m6 : mi 107 6 = nI (a 6) := hM 6 (by omega) (by omega)
  have m7 : mi 107 7 = nI (a 7) := hM 7 (by omega) (by omega)
  apply en_X9_lookouts (d := 10)
  have hx : foldN (lookS a) (2 ^ a 1) (aboA a) < 256 := foldN_lt (fun u x hu hx => by unfold lookS; split <;> assumption) (by omega) (abo_lt hW)
  apply s_fewestLookouts hC hW
  apply rg_X9_lookouts_8
  rw [bc_pc (by omega)]
  refine hk _ _ _ (fun Km hm => ?_)
  apply en_X10_lookouts (d := 9)
  apply s_lookoutsOf (MA_0 hM fr0_rfl) hW
  apply rg_X10_lookouts_5
  apply s_bits (by omega)
  apply rg_X10_lookouts_8
  exact hm _ _ (INV_cm hI fr0_rfl fr0_rfl)
theorem op_lookoutSet {E : am_E} {K : am_K} {mi : Nat → Nat → Int32} {ml : Nat → Nat → Int64} (hI : INV mi ml) (hk : PR 307 [.ref 106] E K) : cq E 14 169 [.ref 0] K mi ml := by
  obtain ⟨i1, i2, i3, i4, i5, ⟨a, hB⟩, i7, i8, i9⟩ := id hI
  have hW : WA a := hB.1.1
  have hC : CB 12 a mi := hB.2.1
  have hM : MA a mi := MS_0.mp hB.2.2.1
  have hMi := hM
  unfold MA at hMi
  obtain ⟨⟨x0, x1, x2, x3, x4, x5, x6, x7, x8⟩, y, z⟩ := id hW
  have w := WA_p2 hW
  have hp0 := p2_pos (a 0)
  have hp1 := p2_pos (a 1)
  obtain ⟨⟨c0, c1, c2, c3, c4, c5, c6, c7⟩, cp, ch, ct, cx, cs⟩ := CB12 hC
  have e0 : nI 1 <<< ms (nI (a 0)) = nI (2 ^ a 0) := by rw [ni_shl (by omega), Nat.one_shiftLeft]
  have e1 : nI 1 <<< ms (nI (a 1)) = nI (2 ^ a 1) := by rw [ni_shl (by omega), Nat.one_shiftLeft]
  have f0 : nI (2 ^ a 0) - nI 1 = nI (2 ^ a 0 - 1) := ni_sub hp0
  have f1 : nI (2 ^ a 1) - nI 1 = nI (2 ^ a 1 - 1) := ni_sub hp1
  have m0 : mi 107 0 = nI (a 0) := hM 0 (by omega) (by omega)
  have m1 : mi 107 1 = nI (a 1) := hM 1 (by omega) (by omega)
  have m6 : mi 107 6 = nI (a 6) := hM 6 (by omega) (by omega)
  have m7 : mi 107 7 = nI (a 7) := hM 7 (by omega) (by omega)
  apply en_X9_lookoutSet (d := 10)
  apply s_fewestLookouts hC hW
  apply rg_X9_lookoutSet_8
  refine hk _ _ _ (fun Km hm => ?_)
  apply en_X10_lookoutSet (d := 9)
  apply s_lookoutsOf (MA_0 hM fr0_rfl) hW
  apply rg_X10_lookoutSet_5
  exact hm _ _ (INV_cm hI fr0_rfl fr0_rfl)
theorem op_couples {E : am_E} {K : am_K} {mi : Nat → Nat → Int32} {ml : Nat → Nat → Int64} (hI : INV mi ml) (hk : PR 308 [.ref 106] E K) : cq E 14 170 [.ref 0] K mi ml := by
  obtain ⟨i1, i2, i3, i4, i5, ⟨a, hB⟩, i7, i8, i9⟩ := id hI
  have hW : WA a := hB.1.1
  have hC : CB 12 a mi := hB.2.1
  have hM : MA a mi := MS_0.mp hB.2.2.1
  have hMi := hM
  unfold MA at hMi
  obtain ⟨⟨x0, x1, x2, x3, x4, x5, x6, x7, x8⟩, y, z⟩ := id hW
  have w := WA_p2 hW
  have hp0 := p2_pos (a 0)
  have hp1 := p2_pos (a 1)
  obtain ⟨⟨c0, c1, c2, c3, c4, c5, c6, c7⟩, cp, ch, ct, cx, cs⟩ := CB12 hC
  have e0 : nI 1 <<< ms (nI (a 0)) = nI (2 ^ a 0) := by rw [ni_shl (by omega), Nat.one_shiftLeft]
  have e1 : nI 1 <<< ms (nI (a 1)) = nI (2 ^ a 1) := by rw [ni_shl (by omega), Nat.one_shiftLeft]
  have f0 : nI (2 ^ a 0) - nI 1 = nI (2 ^ a 0 - 1) := ni_sub hp0
  have f1 : nI (2 ^ a 1) - nI 1 = nI (2 ^ a 1 - 1) := ni_sub hp1
  have m0 : mi 107 0 = nI (a 0) := hM 0 (by omega) (by omega)
  have m1 : mi 107 1 = nI (a 1) := hM 1 (by omega) (by omega)
  have m6 : mi 107 6 = nI (a 6) := hM 6 (by omega) (by omega)
  have m7 : mi 107 7 = nI (a 7) := hM 7 (by omega) (by omega)
  apply en_X9_couples (d := 11)
  apply s_countCouples hC hW
  apply rg_X9_couples_8
  refine hk _ _ _ (fun Km hm => ?_)
  apply s_couplesM (d := 10) (MA_0 hM fr0_rfl) hW
  exact hm _ _ (INV_cm hI fr0_rfl fr0_rfl)
theorem op_game {E : am_E} {K : am_K} {mi : Nat → Nat → Int32} {ml : Nat → Nat → Int64} (hI : INV mi ml) {u : Int32} (hk : PR 311 [.ref 106, .int u] E K) : cq E 14 171 [.ref 0, .int u] K mi ml := by
  obtain ⟨i1, i2, i3, i4, i5, ⟨a, hB⟩, i7, i8, i9⟩ := id hI
  have hW : WA a := hB.1.1
  have hC : CB 12 a mi := hB.2.1
  have hM : MA a mi := MS_0.mp hB.2.2.1
  have hMi := hM
  unfold MA at hMi
  obtain ⟨⟨x0, x1, x2, x3, x4, x5, x6, x7, x8⟩, y, z⟩ := id hW
  have w := WA_p2 hW
  have hp0 := p2_pos (a 0)
  have hp1 := p2_pos (a 1)
  obtain ⟨⟨c0, c1, c2, c3, c4, c5, c6, c7⟩, cp, ch, ct, cx, cs⟩ := CB12 hC
  have e0 : nI 1 <<< ms (nI (a 0)) = nI (2 ^ a 0) := by rw [ni_shl (by omega), Nat.one_shiftLeft]
  have e1 : nI 1 <<< ms (nI (a 1)) = nI (2 ^ a 1) := by rw [ni_shl (by omega), Nat.one_shiftLeft]
  have f0 : nI (2 ^ a 0) - nI 1 = nI (2 ^ a 0 - 1) := ni_sub hp0
  have f1 : nI (2 ^ a 1) - nI 1 = nI (2 ^ a 1 - 1) := ni_sub hp1
  have m0 : mi 107 0 = nI (a 0) := hM 0 (by omega) (by omega)
  have m1 : mi 107 1 = nI (a 1) := hM 1 (by omega) (by omega)
  have m6 : mi 107 6 = nI (a 6) := hM 6 (by omega) (by omega)
  have m7 : mi 107 7 = nI (a 7) := hM 7 (by omega) (by omega)
  apply en_X9_game (d := 7)
  by_cases hu : ∃ t, t < 4 ∧ u = nI t
  · obtain ⟨t, ht, rfl⟩ := hu
    refine rng_ok2 (n := 4) (by omega) ht ?_
    apply s_playFrom hC hW (by omega) (by omega) (by omega)
    intro mm hf hC' hw
    apply rg_X9_game_24
    rw [show mm 12 6 = nI (a 6) from hC'.1.2.2.2.2.2.2.1, ni_cl (by omega), hw _ x7]
    refine ⟨by rw [ni_in (by omega)]; omega, ?_⟩
    refine hk _ _ _ (fun Km hm => ?_)
    apply en_X10_game (d := 6)
    simp only [lgc_lt, lgc_ge, lgc_gt, lgc_le, l64_0, l64_1, l64_3, l64_5, l64_9, l64_12, l64_16, l64_20, l64_60, l64_9999, w64_lt, w64_le, s107, s106, s110, s109, e0, e1, f0, f1, c0, c1, c2, c3, c4, c5, c6, c7, m0, m1, m6, m7]
    refine rng_ok2 (n := 4) (by omega) ht ?_
    apply s_playing (MA_0 hM (fr0_G hf)) hW (by omega)
    intro m2 hf2 _
    apply rg_X10_game_18
    exact hm _ _ (INV_cm hI (fr0_G hf) (fr0_P hf2))
  · refine rng_bd2 (n := 4) (by omega) (by omega) hu ?_
    refine hk _ _ _ (fun Km hm => ?_)
    apply en_X10_game (d := 6)
    simp only [lgc_lt, lgc_ge, lgc_gt, lgc_le, l64_0, l64_1, l64_3, l64_5, l64_9, l64_12, l64_16, l64_20, l64_60, l64_9999, w64_lt, w64_le, s107, s106, s110, s109, e0, e1, f0, f1, c0, c1, c2, c3, c4, c5, c6, c7, m0, m1, m6, m7]
    exact rng_bd2 (n := 4) (by omega) (by omega) hu (hm _ _ (INV_cm hI fr0_rfl fr0_rfl))
theorem rng1_ok {t : Nat} {A B : Prop} (h1 : 1 ≤ t) (h3 : t ≤ 3) (hB : B) : (nI t < nI 1 → A) ∧ (¬ nI t < nI 1 → ((nI 3 < nI t → A) ∧ (¬ nI 3 < nI t → B))) := by
  rw [ni_lt (by omega) (by omega), ni_lt (by omega) (by omega)]
  exact br_f (by omega) (br_f (by omega) hB)
theorem rng1_bad {x : Int32} {A B : Prop} (hx : ¬ ∃ t, (1 ≤ t ∧ t ≤ 3) ∧ x = nI t) (hA : A) : (x < nI 1 → A) ∧ (¬ x < nI 1 → ((nI 3 < x → A) ∧ (¬ nI 3 < x → B))) := by
  refine ⟨fun _ => hA, fun q => ⟨fun _ => hA, fun q2 => ?_⟩⟩
  have h0 : ¬ x < nI 0 := fun z => q (by
    rw [Int32.lt_iff_toInt_lt] at *
    have e1 : (nI 0).toInt = 0 := by decide
    have e2 : (nI 1).toInt = 1 := by decide
    omega)
  obtain ⟨j, hj, rfl⟩ := ni_pos0 h0
  rw [ni_lt hj (by omega)] at q
  rw [ni_lt (by omega) hj] at q2
  exact absurd ⟨j, by omega, rfl⟩ hx
theorem op_moveOf {E : am_E} {K : am_K} {mi : Nat → Nat → Int32} {ml : Nat → Nat → Int64} (hI : INV mi ml) {u : Int32} (hk : PR 312 [.ref 106, .int u] E K) : cq E 14 172 [.ref 0, .int u] K mi ml := by
  obtain ⟨i1, i2, i3, i4, i5, ⟨a, hB⟩, i7, i8, i9⟩ := id hI
  have hW : WA a := hB.1.1
  have hC : CB 12 a mi := hB.2.1
  have hM : MA a mi := MS_0.mp hB.2.2.1
  have hMi := hM
  unfold MA at hMi
  obtain ⟨⟨x0, x1, x2, x3, x4, x5, x6, x7, x8⟩, y, z⟩ := id hW
  have w := WA_p2 hW
  have hp0 := p2_pos (a 0)
  have hp1 := p2_pos (a 1)
  obtain ⟨⟨c0, c1, c2, c3, c4, c5, c6, c7⟩, cp, ch, ct, cx, cs⟩ := CB12 hC
  have e0 : nI 1 <<< ms (nI (a 0)) = nI (2 ^ a 0) := by rw [ni_shl (by omega), Nat.one_shiftLeft]
  have e1 : nI 1 <<< ms (nI (a 1)) = nI (2 ^ a 1) := by rw [ni_shl (by omega), Nat.one_shiftLeft]
  have f0 : nI (2 ^ a 0) - nI 1 = nI (2 ^ a 0 - 1) := ni_sub hp0
  have f1 : nI (2 ^ a 1) - nI 1 = nI (2 ^ a 1 - 1) := ni_sub hp1
  have m0 : mi 107 0 = nI (a 0) := hM 0 (by omega) (by omega)
  have m1 : mi 107 1 = nI (a 1) := hM 1 (by omega) (by omega)
  have m6 : mi 107 6 = nI (a 6) := hM 6 (by omega) (by omega)
  have m7 : mi 107 7 = nI (a 7) := hM 7 (by omega) (by omega)
  apply en_X9_moveOf (d := 7)
  by_cases hu : ∃ t, (1 ≤ t ∧ t ≤ 3) ∧ u = nI t
  · obtain ⟨t, ⟨ht1, ht3⟩, rfl⟩ := hu
    refine rng1_ok ht1 ht3 ?_
    apply s_playFrom hC hW (by omega) (by omega) (by omega)
    intro mm hf hC' hw
    apply rg_X9_moveOf_24
    have hB10 : ∀ u, u < 2 ^ a 0 → plyD a 2 t (outW a) u ≤ 10 := plyD_le (fun u _ => pc_le _)
    apply s_captainsMove hC' hW hw hB10
    apply rg_X9_moveOf_31
    rw [cap_end]
    have hle := turS_le a (plyD a 2 t (outW a)) true (a 6) (a 0 + 1)
    have hpos := turS_pos a (plyD a 2 t (outW a)) true (a 6) (a 0)
    have go : ∀ v w, (v = if foldN (turS a (plyD a 2 t (outW a)) true (a 6)) (a 0 + 1) 0 = a 0 + 1 then nM else nI (foldN (turS a (plyD a 2 t (outW a)) true (a 6)) (a 0 + 1) 0 - 1)) → (w = nI (if foldN (turS a (plyD a 2 t (outW a)) true (a 6)) (a 0 + 1) 0 = a 0 + 1 then 6 else 0)) → K (some (.int v)) (S0, am_si mm 0 0 w, ml) := by
      intro v w hv hw
      refine hk _ _ _ (fun Km hm => ?_)
      apply en_X10_moveOf (d := 6)
      simp only [lgc_lt, lgc_ge, lgc_gt, lgc_le, l64_0, l64_1, l64_3, l64_5, l64_9, l64_12, l64_16, l64_20, l64_60, l64_9999, w64_lt, w64_le, s107, s106, s110, s109, e0, e1, f0, f1, c0, c1, c2, c3, c4, c5, c6, c7, m0, m1, m6, m7]
      refine rng1_ok ht1 ht3 ?_
      apply s_playing (MA_0 hM (fr0_G hf)) hW (by omega)
      intro m2 hf2 h28
      apply rg_X10_moveOf_23
      rw [h28 ht1, show m2 107 0 = nI (a 0) from MA_frP (MA_0 hM (fr0_G hf)) hf2 0 (by omega) (by omega), ni_eq (by omega) (by omega)]
      by_cases e : foldN (turS a (plyD a 2 t (outW a)) true (a 6)) (a 0 + 1) 0 = a 0 + 1
      · rw [if_pos e] at hv hw
        subst hv hw
        exact br_f (by omega) (hm _ _ (INV_cm hI (fr0_G hf) (fr0_P hf2)))
      · rw [if_neg e] at hv hw
        subst hv hw
        exact br_t (by omega) (hm _ _ (INV_cm hI (fr0_G hf) (fr0_P hf2)))
    by_cases e : foldN (turS a (plyD a 2 t (outW a)) true (a 6)) (a 0 + 1) 0 = a 0 + 1
    · rw [if_pos e]
      exact br_f (fun q => q rfl) (go _ _ (by rw [if_pos e]) (by rw [if_pos e]))
    · rw [if_neg e]
      rw [if_neg e] at go
      generalize foldN (turS a (plyD a 2 t (outW a)) true (a 6)) (a 0 + 1) 0 = yy at *
      match yy, hpos, hle, e, go with
      | k + 1, hpos, hle, e, go =>
        rw [nP_s]
        exact br_t (fun q => (ni_nM (by omega)).mp q) (go _ _ rfl (by rw [if_neg e]))
  · refine rng1_bad hu ?_
    refine hk _ _ _ (fun Km hm => ?_)
    apply en_X10_moveOf (d := 6)
    simp only [lgc_lt, lgc_ge, lgc_gt, lgc_le, l64_0, l64_1, l64_3, l64_5, l64_9, l64_12, l64_16, l64_20, l64_60, l64_9999, w64_lt, w64_le, s107, s106, s110, s109, e0, e1, f0, f1, c0, c1, c2, c3, c4, c5, c6, c7, m0, m1, m6, m7]
    exact rng1_bad hu (hm _ _ (INV_cm hI fr0_rfl fr0_rfl))
