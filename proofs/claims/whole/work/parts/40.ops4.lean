theorem rn8 {x : Int32} {n : Nat} {A B : Prop} (hn : n < 2147483647) (hx : ¬ ∃ p, p < n + 1 ∧ x = nI p) (hA : A) : (x < nI 0 → A) ∧ (¬ x < nI 0 → ((x ≤ nI n → B) ∧ (¬ x ≤ nI n → A))) := by
  refine ⟨fun _ => hA, fun q => ⟨fun q2 => ?_, fun _ => hA⟩⟩
  obtain ⟨j, hj, rfl⟩ := ni_pos0 q
  rw [ni_le hj (by omega)] at q2
  exact absurd ⟨j, by omega, rfl⟩ hx
theorem rn8_ok {p n : Nat} {A B : Prop} (hn : n < 2147483647) (hp : p < n + 1) (hB : B) : (nI p < nI 0 → A) ∧ (¬ nI p < nI 0 → ((nI p ≤ nI n → B) ∧ (¬ nI p ≤ nI n → A))) := by
  rw [ni_lt (by omega) (by omega), ni_le (by omega) (by omega)]
  exact br_f (by omega) (br_t (by omega) hB)
theorem op_told {E : am_E} {K : am_K} {mi : Nat → Nat → Int32} {ml : Nat → Nat → Int64} (hI : INV mi ml) {u : Int32} (hk : PR 251 [.ref 106, .int u] E K) : cq E 14 129 [.ref 0, .int u] K mi ml := by
  obtain ⟨i1, i2, i3, i4, i5, ⟨a, hB⟩, i7, i8, i9⟩ := id hI
  have hW : WA a := hB.1.1
  have hC : CB 12 a mi := hB.2.1
  have hM : MA a mi := MS_0.mp hB.2.2.1
  have hMi := hM
  unfold MA at hMi
  obtain ⟨⟨x0, x1, x2, x3, x4, x5, x6, x7, x8⟩, y, z⟩ := id hW
  have w := WA_p2 hW
  have hp0 := p2_pos (a 0)
  have hp1 := p2_pos (a 1)
  obtain ⟨⟨c0, c1, c2, c3, c4, c5, c6, c7⟩, cp, ch, ct, cx, cs⟩ := CB12 hC
  have e0 : nI 1 <<< ms (nI (a 0)) = nI (2 ^ a 0) := by rw [ni_shl (by omega), Nat.one_shiftLeft]
  have e1 : nI 1 <<< ms (nI (a 1)) = nI (2 ^ a 1) := by rw [ni_shl (by omega), Nat.one_shiftLeft]
  have f0 : nI (2 ^ a 0) - nI 1 = nI (2 ^ a 0 - 1) := ni_sub hp0
  have f1 : nI (2 ^ a 1) - nI 1 = nI (2 ^ a 1 - 1) := ni_sub hp1
  have m0 : mi 107 0 = nI (a 0) := hM 0 (by omega) (by omega)
  have m1 : mi 107 1 = nI (a 1) := hM 1 (by omega) (by omega)
  have m6 : mi 107 6 = nI (a 6) := hM 6 (by omega) (by omega)
  have m7 : mi 107 7 = nI (a 7) := hM 7 (by omega) (by omega)
  apply en_X9_told (d := 12)
  simp only [lgc_lt, lgc_ge, lgc_gt, lgc_le, l64_0, l64_1, l64_3, l64_5, l64_9, l64_12, l64_16, l64_20, l64_60, l64_9999, w64_lt, w64_le, s107, s106, s110, s109, e0, e1, f0, f1, c0, c1, c2, c3, c4, c5, c6, c7, m0, m1, m6, m7]
  by_cases hu : ∃ k, k < 9 ∧ u = nI k
  · obtain ⟨k, hk9, rfl⟩ := hu
    have mg : ∀ j, j < 6 → mi 107 j = nI (a j) := fun j hj => hM j (by omega) (by omega)
    have hcs : k = 0 ∨ k = 1 ∨ k = 2 ∨ k = 3 ∨ k = 4 ∨ k = 5 ∨ k = 6 ∨ k = 7 ∨ k = 8 := by omega
    rcases hcs with rfl | rfl | rfl | rfl | rfl | rfl | rfl | rfl | rfl
    · refine ⟨fun _ => ?_, fun q => absurd q (by decide), fun q => absurd q (by decide), fun q => absurd q (by decide), fun q => absurd q (by decide), fun q => absurd q (by decide), fun q => absurd q (by decide), fun q => absurd q (by decide), fun q => absurd q (by decide), fun q _ _ _ _ _ _ _ _ => absurd (by trivial) q⟩
      refine hk _ _ _ (fun Km hm => ?_)
      apply en_X10_told (d := 10)
      simp only [lgc_lt, lgc_ge, lgc_gt, lgc_le, l64_0, l64_1, l64_3, l64_5, l64_9, l64_12, l64_16, l64_20, l64_60, l64_9999, w64_lt, w64_le, s107, s106, s110, s109, e0, e1, f0, f1, c0, c1, c2, c3, c4, c5, c6, c7, m0, m1, m6, m7]
      refine rn8_ok (n := 8) (by omega) (by omega) ⟨fun q => absurd q (by decide), fun q => absurd q (by decide), fun q => absurd q (by decide), fun _ _ _ => ⟨by unfold vp_in; decide, ?_⟩⟩
      rw [ni_cl (by omega), mg 0 (by omega)]
      exact hm _ _ (INV_cm hI fr0_rfl fr0_rfl)
    · refine ⟨fun q => absurd q (by decide), fun _ => ?_, fun q => absurd q (by decide), fun q => absurd q (by decide), fun q => absurd q (by decide), fun q => absurd q (by decide), fun q => absurd q (by decide), fun q => absurd q (by decide), fun q => absurd q (by decide), fun _ q _ _ _ _ _ _ _ => absurd (by trivial) q⟩
      refine hk _ _ _ (fun Km hm => ?_)
      apply en_X10_told (d := 10)
      simp only [lgc_lt, lgc_ge, lgc_gt, lgc_le, l64_0, l64_1, l64_3, l64_5, l64_9, l64_12, l64_16, l64_20, l64_60, l64_9999, w64_lt, w64_le, s107, s106, s110, s109, e0, e1, f0, f1, c0, c1, c2, c3, c4, c5, c6, c7, m0, m1, m6, m7]
      refine rn8_ok (n := 8) (by omega) (by omega) ⟨fun q => absurd q (by decide), fun q => absurd q (by decide), fun q => absurd q (by decide), fun _ _ _ => ⟨by unfold vp_in; decide, ?_⟩⟩
      rw [ni_cl (by omega), mg 1 (by omega)]
      exact hm _ _ (INV_cm hI fr0_rfl fr0_rfl)
    · refine ⟨fun q => absurd q (by decide), fun q => absurd q (by decide), fun _ => ?_, fun q => absurd q (by decide), fun q => absurd q (by decide), fun q => absurd q (by decide), fun q => absurd q (by decide), fun q => absurd q (by decide), fun q => absurd q (by decide), fun _ _ q _ _ _ _ _ _ => absurd (by trivial) q⟩
      refine hk _ _ _ (fun Km hm => ?_)
      apply en_X10_told (d := 10)
      simp only [lgc_lt, lgc_ge, lgc_gt, lgc_le, l64_0, l64_1, l64_3, l64_5, l64_9, l64_12, l64_16, l64_20, l64_60, l64_9999, w64_lt, w64_le, s107, s106, s110, s109, e0, e1, f0, f1, c0, c1, c2, c3, c4, c5, c6, c7, m0, m1, m6, m7]
      refine rn8_ok (n := 8) (by omega) (by omega) ⟨fun q => absurd q (by decide), fun q => absurd q (by decide), fun q => absurd q (by decide), fun _ _ _ => ⟨by unfold vp_in; decide, ?_⟩⟩
      rw [ni_cl (by omega), mg 2 (by omega)]
      exact hm _ _ (INV_cm hI fr0_rfl fr0_rfl)
    · refine ⟨fun q => absurd q (by decide), fun q => absurd q (by decide), fun q => absurd q (by decide), fun _ => ?_, fun q => absurd q (by decide), fun q => absurd q (by decide), fun q => absurd q (by decide), fun q => absurd q (by decide), fun q => absurd q (by decide), fun _ _ _ q _ _ _ _ _ => absurd (by trivial) q⟩
      refine hk _ _ _ (fun Km hm => ?_)
      apply en_X10_told (d := 10)
      simp only [lgc_lt, lgc_ge, lgc_gt, lgc_le, l64_0, l64_1, l64_3, l64_5, l64_9, l64_12, l64_16, l64_20, l64_60, l64_9999, w64_lt, w64_le, s107, s106, s110, s109, e0, e1, f0, f1, c0, c1, c2, c3, c4, c5, c6, c7, m0, m1, m6, m7]
      refine rn8_ok (n := 8) (by omega) (by omega) ⟨fun q => absurd q (by decide), fun q => absurd q (by decide), fun q => absurd q (by decide), fun _ _ _ => ⟨by unfold vp_in; decide, ?_⟩⟩
      rw [ni_cl (by omega), mg 3 (by omega)]
      exact hm _ _ (INV_cm hI fr0_rfl fr0_rfl)
    · refine ⟨fun q => absurd q (by decide), fun q => absurd q (by decide), fun q => absurd q (by decide), fun q => absurd q (by decide), fun _ => ?_, fun q => absurd q (by decide), fun q => absurd q (by decide), fun q => absurd q (by decide), fun q => absurd q (by decide), fun _ _ _ _ q _ _ _ _ => absurd (by trivial) q⟩
      refine hk _ _ _ (fun Km hm => ?_)
      apply en_X10_told (d := 10)
      simp only [lgc_lt, lgc_ge, lgc_gt, lgc_le, l64_0, l64_1, l64_3, l64_5, l64_9, l64_12, l64_16, l64_20, l64_60, l64_9999, w64_lt, w64_le, s107, s106, s110, s109, e0, e1, f0, f1, c0, c1, c2, c3, c4, c5, c6, c7, m0, m1, m6, m7]
      refine rn8_ok (n := 8) (by omega) (by omega) ⟨fun q => absurd q (by decide), fun q => absurd q (by decide), fun q => absurd q (by decide), fun _ _ _ => ⟨by unfold vp_in; decide, ?_⟩⟩
      rw [ni_cl (by omega), mg 4 (by omega)]
      exact hm _ _ (INV_cm hI fr0_rfl fr0_rfl)
    · refine ⟨fun q => absurd q (by decide), fun q => absurd q (by decide), fun q => absurd q (by decide), fun q => absurd q (by decide), fun q => absurd q (by decide), fun _ => ?_, fun q => absurd q (by decide), fun q => absurd q (by decide), fun q => absurd q (by decide), fun _ _ _ _ _ q _ _ _ => absurd (by trivial) q⟩
      refine hk _ _ _ (fun Km hm => ?_)
      apply en_X10_told (d := 10)
      simp only [lgc_lt, lgc_ge, lgc_gt, lgc_le, l64_0, l64_1, l64_3, l64_5, l64_9, l64_12, l64_16, l64_20, l64_60, l64_9999, w64_lt, w64_le, s107, s106, s110, s109, e0, e1, f0, f1, c0, c1, c2, c3, c4, c5, c6, c7, m0, m1, m6, m7]
      refine rn8_ok (n := 8) (by omega) (by omega) ⟨fun q => absurd q (by decide), fun q => absurd q (by decide), fun q => absurd q (by decide), fun _ _ _ => ⟨by unfold vp_in; decide, ?_⟩⟩
      rw [ni_cl (by omega), mg 5 (by omega)]
      exact hm _ _ (INV_cm hI fr0_rfl fr0_rfl)
    · refine ⟨fun q => absurd q (by decide), fun q => absurd q (by decide), fun q => absurd q (by decide), fun q => absurd q (by decide), fun q => absurd q (by decide), fun q => absurd q (by decide), fun _ => ?_, fun q => absurd q (by decide), fun q => absurd q (by decide), fun _ _ _ _ _ _ q _ _ => absurd (by trivial) q⟩
      refine hk _ _ _ (fun Km hm => ?_)
      apply en_X10_told (d := 10)
      simp only [lgc_lt, lgc_ge, lgc_gt, lgc_le, l64_0, l64_1, l64_3, l64_5, l64_9, l64_12, l64_16, l64_20, l64_60, l64_9999, w64_lt, w64_le, s107, s106, s110, s109, e0, e1, f0, f1, c0, c1, c2, c3, c4, c5, c6, c7, m0, m1, m6, m7]
      refine rn8_ok (n := 8) (by omega) (by omega) ⟨fun _ => ?_, fun q => absurd q (by decide), fun q => absurd q (by decide), fun q _ _ => absurd (by trivial) q⟩
      apply s_aboardM (MA_0 hM fr0_rfl) hW
      apply rg_X10_told_49
      exact hm _ _ (INV_cm hI fr0_rfl fr0_rfl)
    · refine ⟨fun q => absurd q (by decide), fun q => absurd q (by decide), fun q => absurd q (by decide), fun q => absurd q (by decide), fun q => absurd q (by decide), fun q => absurd q (by decide), fun q => absurd q (by decide), fun _ => ?_, fun q => absurd q (by decide), fun _ _ _ _ _ _ _ q _ => absurd (by trivial) q⟩
      refine hk _ _ _ (fun Km hm => ?_)
      apply en_X10_told (d := 10)
      simp only [lgc_lt, lgc_ge, lgc_gt, lgc_le, l64_0, l64_1, l64_3, l64_5, l64_9, l64_12, l64_16, l64_20, l64_60, l64_9999, w64_lt, w64_le, s107, s106, s110, s109, e0, e1, f0, f1, c0, c1, c2, c3, c4, c5, c6, c7, m0, m1, m6, m7]
      exact rn8_ok (n := 8) (by omega) (by omega) ⟨fun q => absurd q (by decide), fun _ => hm _ _ (INV_cm hI fr0_rfl fr0_rfl), fun q => absurd q (by decide), fun _ q _ => absurd (by trivial) q⟩
    · refine ⟨fun q => absurd q (by decide), fun q => absurd q (by decide), fun q => absurd q (by decide), fun q => absurd q (by decide), fun q => absurd q (by decide), fun q => absurd q (by decide), fun q => absurd q (by decide), fun q => absurd q (by decide), fun _ => ?_, fun _ _ _ _ _ _ _ _ q => absurd (by trivial) q⟩
      apply s_satInAll hC hW
      apply rg_X9_told_156
      refine hk _ _ _ (fun Km hm => ?_)
      apply en_X10_told (d := 10)
      simp only [lgc_lt, lgc_ge, lgc_gt, lgc_le, l64_0, l64_1, l64_3, l64_5, l64_9, l64_12, l64_16, l64_20, l64_60, l64_9999, w64_lt, w64_le, s107, s106, s110, s109, e0, e1, f0, f1, c0, c1, c2, c3, c4, c5, c6, c7, m0, m1, m6, m7]
      refine rn8_ok (n := 8) (by omega) (by omega) ⟨fun q => absurd q (by decide), fun q => absurd q (by decide), fun _ => ?_, fun _ _ q => absurd (by trivial) q⟩
      apply s_allSat (MA_0 hM fr0_rfl) hW
      apply rg_X10_told_70
      exact hm _ _ (INV_cm hI fr0_rfl fr0_rfl)
  · refine ⟨fun q => absurd ⟨0, by omega, q⟩ hu, fun q => absurd ⟨1, by omega, q⟩ hu, fun q => absurd ⟨2, by omega, q⟩ hu, fun q => absurd ⟨3, by omega, q⟩ hu, fun q => absurd ⟨4, by omega, q⟩ hu, fun q => absurd ⟨5, by omega, q⟩ hu, fun q => absurd ⟨6, by omega, q⟩ hu, fun q => absurd ⟨7, by omega, q⟩ hu, fun q => absurd ⟨8, by omega, q⟩ hu, fun _ _ _ _ _ _ _ _ _ => ?_⟩
    refine hk _ _ _ (fun Km hm => ?_)
    apply en_X10_told (d := 10)
    simp only [lgc_lt, lgc_ge, lgc_gt, lgc_le, l64_0, l64_1, l64_3, l64_5, l64_9, l64_12, l64_16, l64_20, l64_60, l64_9999, w64_lt, w64_le, s107, s106, s110, s109, e0, e1, f0, f1, c0, c1, c2, c3, c4, c5, c6, c7, m0, m1, m6, m7]
    exact rn8 (n := 8) (by omega) hu (hm _ _ (INV_cm hI fr0_rfl fr0_rfl))
theorem op_omen {E : am_E} {K : am_K} {mi : Nat → Nat → Int32} {ml : Nat → Nat → Int64} (hI : INV mi ml) {u v : Int32} (hk : PR 253 [.ref 106, .int u, .int v] E K) : cq E 14 130 [.ref 0, .int u, .int v] K mi ml := by
  obtain ⟨i1, i2, i3, i4, i5, ⟨a, hB⟩, i7, i8, i9⟩ := id hI
  have hW : WA a := hB.1.1
  have hC : CB 12 a mi := hB.2.1
  have hM : MA a mi := MS_0.mp hB.2.2.1
  have hMi := hM
  unfold MA at hMi
  obtain ⟨⟨x0, x1, x2, x3, x4, x5, x6, x7, x8⟩, y, z⟩ := id hW
  have w := WA_p2 hW
  have hp0 := p2_pos (a 0)
  have hp1 := p2_pos (a 1)
  obtain ⟨⟨c0, c1, c2, c3, c4, c5, c6, c7⟩, cp, ch, ct, cx, cs⟩ := CB12 hC
  have e0 : nI 1 <<< ms (nI (a 0)) = nI (2 ^ a 0) := by rw [ni_shl (by omega), Nat.one_shiftLeft]
  have e1 : nI 1 <<< ms (nI (a 1)) = nI (2 ^ a 1) := by rw [ni_shl (by omega), Nat.one_shiftLeft]
  have f0 : nI (2 ^ a 0) - nI 1 = nI (2 ^ a 0 - 1) := ni_sub hp0
  have f1 : nI (2 ^ a 1) - nI 1 = nI (2 ^ a 1 - 1) := ni_sub hp1
  have m0 : mi 107 0 = nI (a 0) := hM 0 (by omega) (by omega)
  have m1 : mi 107 1 = nI (a 1) := hM 1 (by omega) (by omega)
  have m6 : mi 107 6 = nI (a 6) := hM 6 (by omega) (by omega)
  have m7 : mi 107 7 = nI (a 7) := hM 7 (by omega) (by omega)
  apply en_X9_omen (d := 12)
  simp only [lgc_lt, lgc_ge, lgc_gt, lgc_le, l64_0, l64_1, l64_3, l64_5, l64_9, l64_12, l64_16, l64_20, l64_60, l64_9999, w64_lt, w64_le, s107, s106, s110, s109, e0, e1, f0, f1, c0, c1, c2, c3, c4, c5, c6, c7, m0, m1, m6, m7]
  by_cases hu : ∃ p, p < a 0 ∧ u = nI p
  · obtain ⟨p, hp, rfl⟩ := hu
    refine rng_ok (by omega) hp ?_
    by_cases hv : ∃ k, k < 3 ∧ v = nI k
    · obtain ⟨k, hk9, rfl⟩ := hv
      have hcs : k = 0 ∨ k = 1 ∨ k = 2 := by omega
      rcases hcs with rfl | rfl | rfl
      · refine ⟨fun _ => ⟨by rw [ni_in (by omega)]; omega, ?_⟩, fun q => absurd q (by decide), fun q => absurd q (by decide), fun q _ _ => absurd (by trivial) q⟩
        rw [ni_cl (by omega), cp p hp]
        refine hk _ _ _ (fun Km hm => ?_)
        apply en_X10_omen (d := 10)
        simp only [lgc_lt, lgc_ge, lgc_gt, lgc_le, l64_0, l64_1, l64_3, l64_5, l64_9, l64_12, l64_16, l64_20, l64_60, l64_9999, w64_lt, w64_le, s107, s106, s110, s109, e0, e1, f0, f1, c0, c1, c2, c3, c4, c5, c6, c7, m0, m1, m6, m7]
        refine rng_ok (by omega) hp (rn8_ok (n := 2) (by omega) (by omega) (br_f (fun q => q (by trivial)) ?_))
        simp (disch := omega) only [ni_lt, ni_le, ni_eq, ni_cl, ni_in, nI_add, ni_mul, ni_and, ni_or, ni_xor, ni_dif, ni_bit, ni_b0, ni_b1, ni_nM, nM_ni, nM_lt, lt_nM, nM_le, le_nM, ni_shl, Nat.not_lt_zero, Nat.zero_add, Nat.add_zero, si_t, si_f, not_true_eq_false, not_false_eq_true, true_implies, false_implies, true_and, and_true, forall_const, hMi]
        exact ⟨by omega, hm _ _ (INV_cm hI fr0_rfl fr0_rfl)⟩
      · refine ⟨fun q => absurd q (by decide), fun _ => ?_, fun q => absurd q (by decide), fun _ q _ => absurd (by trivial) q⟩
        refine hk _ _ _ (fun Km hm => ?_)
        apply en_X10_omen (d := 10)
        simp only [lgc_lt, lgc_ge, lgc_gt, lgc_le, l64_0, l64_1, l64_3, l64_5, l64_9, l64_12, l64_16, l64_20, l64_60, l64_9999, w64_lt, w64_le, s107, s106, s110, s109, e0, e1, f0, f1, c0, c1, c2, c3, c4, c5, c6, c7, m0, m1, m6, m7]
        exact rng_ok (by omega) hp (rn8_ok (n := 2) (by omega) (by omega) (br_t (by decide) (br_t (by decide) (hm _ _ (INV_cm hI fr0_rfl fr0_rfl)))))
      · refine ⟨fun q => absurd q (by decide), fun q => absurd q (by decide), fun _ => ?_, fun _ _ q => absurd (by trivial) q⟩
        apply s_excusedFrom hC hW (by omega)
        apply rg_X9_omen_83
        refine hk _ _ _ (fun Km hm => ?_)
        apply en_X10_omen (d := 10)
        simp only [lgc_lt, lgc_ge, lgc_gt, lgc_le, l64_0, l64_1, l64_3, l64_5, l64_9, l64_12, l64_16, l64_20, l64_60, l64_9999, w64_lt, w64_le, s107, s106, s110, s109, e0, e1, f0, f1, c0, c1, c2, c3, c4, c5, c6, c7, m0, m1, m6, m7]
        refine rng_ok (by omega) hp (rn8_ok (n := 2) (by omega) (by omega) (br_t (by decide) (br_f (fun q => q (by trivial)) ?_)))
        apply s_excusedFromM (MA_0 hM fr0_rfl) hW (by omega)
        apply rg_X10_omen_52
        exact hm _ _ (INV_cm hI fr0_rfl fr0_rfl)
    · refine ⟨fun q => absurd ⟨0, by omega, q⟩ hv, fun q => absurd ⟨1, by omega, q⟩ hv, fun q => absurd ⟨2, by omega, q⟩ hv, fun _ _ _ => ?_⟩
      refine hk _ _ _ (fun Km hm => ?_)
      apply en_X10_omen (d := 10)
      simp only [lgc_lt, lgc_ge, lgc_gt, lgc_le, l64_0, l64_1, l64_3, l64_5, l64_9, l64_12, l64_16, l64_20, l64_60, l64_9999, w64_lt, w64_le, s107, s106, s110, s109, e0, e1, f0, f1, c0, c1, c2, c3, c4, c5, c6, c7, m0, m1, m6, m7]
      exact rng_ok (by omega) hp (rn8 (n := 2) (by omega) hv (hm _ _ (INV_cm hI fr0_rfl fr0_rfl)))
  · refine rng_bad (by omega) hu ?_
    refine hk _ _ _ (fun Km hm => ?_)
    apply en_X10_omen (d := 10)
    simp only [lgc_lt, lgc_ge, lgc_gt, lgc_le, l64_0, l64_1, l64_3, l64_5, l64_9, l64_12, l64_16, l64_20, l64_60, l64_9999, w64_lt, w64_le, s107, s106, s110, s109, e0, e1, f0, f1, c0, c1, c2, c3, c4, c5, c6, c7, m0, m1, m6, m7]
    exact rng_bad (by omega) hu (hm _ _ (INV_cm hI fr0_rfl fr0_rfl))
theorem op_person {E : am_E} {K : am_K} {mi : Nat → Nat → Int32} {ml : Nat → Nat → Int64} (hI : INV mi ml) {u v : Int32} (hk : PR 254 [.ref 106, .int u, .int v] E K) : cq E 14 131 [.ref 0, .int u, .int v] K mi ml := by
  obtain ⟨i1, i2, i3, i4, i5, ⟨a, hB⟩, i7, i8, i9⟩ := id hI
  have hW : WA a := hB.1.1
  have hC : CB 12 a mi := hB.2.1
  have hM : MA a mi := MS_0.mp hB.2.2.1
  have hMi := hM
  unfold MA at hMi
  obtain ⟨⟨x0, x1, x2, x3, x4, x5, x6, x7, x8⟩, y, z⟩ := id hW
  have w := WA_p2 hW
  have hp0 := p2_pos (a 0)
  have hp1 := p2_pos (a 1)
  obtain ⟨⟨c0, c1, c2, c3, c4, c5, c6, c7⟩, cp, ch, ct, cx, cs⟩ := CB12 hC
  have e0 : nI 1 <<< ms (nI (a 0)) = nI (2 ^ a 0) := by rw [ni_shl (by omega), Nat.one_shiftLeft]
  have e1 : nI 1 <<< ms (nI (a 1)) = nI (2 ^ a 1) := by rw [ni_shl (by omega), Nat.one_shiftLeft]
  have f0 : nI (2 ^ a 0) - nI 1 = nI (2 ^ a 0 - 1) := ni_sub hp0
  have f1 : nI (2 ^ a 1) - nI 1 = nI (2 ^ a 1 - 1) := ni_sub hp1
  have m0 : mi 107 0 = nI (a 0) := hM 0 (by omega) (by omega)
  have m1 : mi 107 1 = nI (a 1) := hM 1 (by omega) (by omega)
  have m6 : mi 107 6 = nI (a 6) := hM 6 (by omega) (by omega)
  have m7 : mi 107 7 = nI (a 7) := hM 7 (by omega) (by omega)
  apply en_X9_person (d := 11)
  simp only [lgc_lt, lgc_ge, lgc_gt, lgc_le, l64_0, l64_1, l64_3, l64_5, l64_9, l64_12, l64_16, l64_20, l64_60, l64_9999, w64_lt, w64_le, s107, s106, s110, s109, e0, e1, f0, f1, c0, c1, c2, c3, c4, c5, c6, c7, m0, m1, m6, m7]
  by_cases hu : ∃ p, p < a 1 ∧ u = nI p
  · obtain ⟨p, hp, rfl⟩ := hu
    refine rng_ok (by omega) hp ?_
    have hin : vp_in (nI p) 8 := by rw [ni_in (by omega)]; omega
    have hcl : Int32.toNatClampNeg (nI p) = p := ni_cl (by omega)
    have hab : (aboA a).testBit p = !(a 7).testBit p := by rw [tb_abo]; simp [hp]
    rw [hcl, ch p hp, ct p hp, cx p hp, cs p hp]
    by_cases hv : ∃ k, k < 7 ∧ v = nI k
    · obtain ⟨k, hk9, rfl⟩ := hv
      have hcs : k = 0 ∨ k = 1 ∨ k = 2 ∨ k = 3 ∨ k = 4 ∨ k = 5 ∨ k = 6 := by omega
      rcases hcs with rfl | rfl | rfl | rfl | rfl | rfl | rfl
      · refine ⟨fun _ => ⟨hin, ?_⟩, fun q => absurd q (by decide), fun q => absurd q (by decide), fun q => absurd q (by decide), fun q => absurd q (by decide), fun q => absurd q (by decide), fun q => absurd q (by decide), fun q _ _ _ _ _ _ => absurd (by trivial) q⟩
        refine hk _ _ _ (fun Km hm => ?_)
        apply en_X10_person (d := 9)
        simp only [lgc_lt, lgc_ge, lgc_gt, lgc_le, l64_0, l64_1, l64_3, l64_5, l64_9, l64_12, l64_16, l64_20, l64_60, l64_9999, w64_lt, w64_le, s107, s106, s110, s109, e0, e1, f0, f1, c0, c1, c2, c3, c4, c5, c6, c7, m0, m1, m6, m7]
        refine rng_ok (by omega) hp (rn8_ok (n := 6) (by omega) (by omega) ⟨fun _ => ?_, fun q => absurd q (by decide), fun q => absurd q (by decide), fun q => absurd q (by decide), fun q => absurd q (by decide), fun q => absurd q (by decide), fun q _ _ _ _ _ => absurd (by trivial) q⟩)
        simp (disch := omega) only [ni_lt, ni_le, ni_eq, ni_cl, ni_in, nI_add, ni_mul, ni_and, ni_or, ni_xor, ni_dif, ni_bit, ni_b0, ni_b1, ni_nM, nM_ni, nM_lt, lt_nM, nM_le, le_nM, ni_shl, Nat.not_lt_zero, Nat.zero_add, Nat.add_zero, si_t, si_f, not_true_eq_false, not_false_eq_true, true_implies, false_implies, true_and, and_true, forall_const, hMi]
        exact ⟨by omega, hm _ _ (INV_cm hI fr0_rfl fr0_rfl)⟩
      · refine ⟨fun q => absurd q (by decide), fun _ => ?_, fun q => absurd q (by decide), fun q => absurd q (by decide), fun q => absurd q (by decide), fun q => absurd q (by decide), fun q => absurd q (by decide), fun _ q _ _ _ _ _ => absurd (by trivial) q⟩
        apply s_needBy hC hW hp (by omega)
        apply rg_X9_person_90
        refine hk _ _ _ (fun Km hm => ?_)
        apply en_X10_person (d := 9)
        simp only [lgc_lt, lgc_ge, lgc_gt, lgc_le, l64_0, l64_1, l64_3, l64_5, l64_9, l64_12, l64_16, l64_20, l64_60, l64_9999, w64_lt, w64_le, s107, s106, s110, s109, e0, e1, f0, f1, c0, c1, c2, c3, c4, c5, c6, c7, m0, m1, m6, m7]
        refine rng_ok (by omega) hp (rn8_ok (n := 6) (by omega) (by omega) ⟨fun q => absurd q (by decide), fun _ => ?_, fun q => absurd q (by decide), fun q => absurd q (by decide), fun q => absurd q (by decide), fun q => absurd q (by decide), fun _ q _ _ _ _ => absurd (by trivial) q⟩)
        apply s_needOf (MA_0 hM fr0_rfl) hW hp (by omega)
        apply rg_X10_person_88
        exact hm _ _ (INV_cm hI fr0_rfl fr0_rfl)
      · refine ⟨fun q => absurd q (by decide), fun q => absurd q (by decide), fun _ => ?_, fun q => absurd q (by decide), fun q => absurd q (by decide), fun q => absurd q (by decide), fun q => absurd q (by decide), fun _ _ q _ _ _ _ => absurd (by trivial) q⟩
        rw [ni_bit (by have := abo_lt hW; omega) (by omega), hab]
        refine hk _ _ _ (fun Km hm => ?_)
        apply en_X10_person (d := 9)
        simp only [lgc_lt, lgc_ge, lgc_gt, lgc_le, l64_0, l64_1, l64_3, l64_5, l64_9, l64_12, l64_16, l64_20, l64_60, l64_9999, w64_lt, w64_le, s107, s106, s110, s109, e0, e1, f0, f1, c0, c1, c2, c3, c4, c5, c6, c7, m0, m1, m6, m7]
        refine rng_ok (by omega) hp (rn8_ok (n := 6) (by omega) (by omega) ⟨fun q => absurd q (by decide), fun q => absurd q (by decide), fun _ => ?_, fun q => absurd q (by decide), fun q => absurd q (by decide), fun q => absurd q (by decide), fun _ _ q _ _ _ => absurd (by trivial) q⟩)
        rw [ni_bit (by omega) (by omega), ni_b1]
        revert hm
        cases (a 7).testBit p
        · exact fun hm => br_t (by decide) (hm _ _ (INV_cm hI fr0_rfl fr0_rfl))
        · exact fun hm => br_f (fun q => q (by trivial)) (hm _ _ (INV_cm hI fr0_rfl fr0_rfl))
      · refine ⟨fun q => absurd q (by decide), fun q => absurd q (by decide), fun q => absurd q (by decide), fun _ => ⟨hin, ?_⟩, fun q => absurd q (by decide), fun q => absurd q (by decide), fun q => absurd q (by decide), fun _ _ _ q _ _ _ => absurd (by trivial) q⟩
        refine hk _ _ _ (fun Km hm => ?_)
        apply en_X10_person (d := 9)
        simp only [lgc_lt, lgc_ge, lgc_gt, lgc_le, l64_0, l64_1, l64_3, l64_5, l64_9, l64_12, l64_16, l64_20, l64_60, l64_9999, w64_lt, w64_le, s107, s106, s110, s109, e0, e1, f0, f1, c0, c1, c2, c3, c4, c5, c6, c7, m0, m1, m6, m7]
        refine rng_ok (by omega) hp (rn8_ok (n := 6) (by omega) (by omega) ⟨fun q => absurd q (by decide), fun q => absurd q (by decide), fun q => absurd q (by decide), fun _ => ?_, fun q => absurd q (by decide), fun q => absurd q (by decide), fun _ _ _ q _ _ => absurd (by trivial) q⟩)
        simp (disch := omega) only [ni_lt, ni_le, ni_eq, ni_cl, ni_in, nI_add, ni_mul, ni_and, ni_or, ni_xor, ni_dif, ni_bit, ni_b0, ni_b1, ni_nM, nM_ni, nM_lt, lt_nM, nM_le, le_nM, ni_shl, Nat.not_lt_zero, Nat.zero_add, Nat.add_zero, si_t, si_f, not_true_eq_false, not_false_eq_true, true_implies, false_implies, true_and, and_true, forall_const, hMi]
        exact ⟨by omega, hm _ _ (INV_cm hI fr0_rfl fr0_rfl)⟩
      · refine ⟨fun q => absurd q (by decide), fun q => absurd q (by decide), fun q => absurd q (by decide), fun q => absurd q (by decide), fun _ => ⟨hin, ?_⟩, fun q => absurd q (by decide), fun q => absurd q (by decide), fun _ _ _ _ q _ _ => absurd (by trivial) q⟩
        refine hk _ _ _ (fun Km hm => ?_)
        apply en_X10_person (d := 9)
        simp only [lgc_lt, lgc_ge, lgc_gt, lgc_le, l64_0, l64_1, l64_3, l64_5, l64_9, l64_12, l64_16, l64_20, l64_60, l64_9999, w64_lt, w64_le, s107, s106, s110, s109, e0, e1, f0, f1, c0, c1, c2, c3, c4, c5, c6, c7, m0, m1, m6, m7]
        refine rng_ok (by omega) hp (rn8_ok (n := 6) (by omega) (by omega) ⟨fun q => absurd q (by decide), fun q => absurd q (by decide), fun q => absurd q (by decide), fun q => absurd q (by decide), fun _ => ?_, fun q => absurd q (by decide), fun _ _ _ _ q _ => absurd (by trivial) q⟩)
        simp (disch := omega) only [ni_lt, ni_le, ni_eq, ni_cl, ni_in, nI_add, ni_mul, ni_and, ni_or, ni_xor, ni_dif, ni_bit, ni_b0, ni_b1, ni_nM, nM_ni, nM_lt, lt_nM, nM_le, le_nM, ni_shl, Nat.not_lt_zero, Nat.zero_add, Nat.add_zero, si_t, si_f, not_true_eq_false, not_false_eq_true, true_implies, false_implies, true_and, and_true, forall_const, hMi]
        exact ⟨by omega, hm _ _ (INV_cm hI fr0_rfl fr0_rfl)⟩
      · refine ⟨fun q => absurd q (by decide), fun q => absurd q (by decide), fun q => absurd q (by decide), fun q => absurd q (by decide), fun q => absurd q (by decide), fun _ => ⟨hin, ?_⟩, fun q => absurd q (by decide), fun _ _ _ _ _ q _ => absurd (by trivial) q⟩
        refine hk _ _ _ (fun Km hm => ?_)
        apply en_X10_person (d := 9)
        simp only [lgc_lt, lgc_ge, lgc_gt, lgc_le, l64_0, l64_1, l64_3, l64_5, l64_9, l64_12, l64_16, l64_20, l64_60, l64_9999, w64_lt, w64_le, s107, s106, s110, s109, e0, e1, f0, f1, c0, c1, c2, c3, c4, c5, c6, c7, m0, m1, m6, m7]
        refine rng_ok (by omega) hp (rn8_ok (n := 6) (by omega) (by omega) ⟨fun q => absurd q (by decide), fun q => absurd q (by decide), fun q => absurd q (by decide), fun q => absurd q (by decide), fun q => absurd q (by decide), fun _ => ?_, fun _ _ _ _ _ q => absurd (by trivial) q⟩)
        apply s_seenByM (MA_0 hM fr0_rfl) hW hp
        apply rg_X10_person_138
        exact hm _ _ (INV_cm hI fr0_rfl fr0_rfl)
      · refine ⟨fun q => absurd q (by decide), fun q => absurd q (by decide), fun q => absurd q (by decide), fun q => absurd q (by decide), fun q => absurd q (by decide), fun q => absurd q (by decide), fun _ => ?_, fun _ _ _ _ _ _ q => absurd (by trivial) q⟩
        apply s_seenBy hC hW (by omega)
        apply rg_X9_person_161
        refine hk _ _ _ (fun Km hm => ?_)
        apply en_X10_person (d := 9)
        simp only [lgc_lt, lgc_ge, lgc_gt, lgc_le, l64_0, l64_1, l64_3, l64_5, l64_9, l64_12, l64_16, l64_20, l64_60, l64_9999, w64_lt, w64_le, s107, s106, s110, s109, e0, e1, f0, f1, c0, c1, c2, c3, c4, c5, c6, c7, m0, m1, m6, m7]
        refine rng_ok (by omega) hp (rn8_ok (n := 6) (by omega) (by omega) ⟨fun q => absurd q (by decide), fun q => absurd q (by decide), fun q => absurd q (by decide), fun q => absurd q (by decide), fun q => absurd q (by decide), fun q => absurd q (by decide), fun _ _ _ _ _ _ => ?_⟩)
        apply s_whoSee (MA_0 hM fr0_rfl) hW (by omega)
        apply rg_X10_person_148
        exact hm _ _ (INV_cm hI fr0_rfl fr0_rfl)
    · refine ⟨fun q => absurd ⟨0, by omega, q⟩ hv, fun q => absurd ⟨1, by omega, q⟩ hv, fun q => absurd ⟨2, by omega, q⟩ hv, fun q => absurd ⟨3, by omega, q⟩ hv, fun q => absurd ⟨4, by omega, q⟩ hv, fun q => absurd ⟨5, by omega, q⟩ hv, fun q => absurd ⟨6, by omega, q⟩ hv, fun _ _ _ _ _ _ _ => ?_⟩
      refine hk _ _ _ (fun Km hm => ?_)
      apply en_X10_person (d := 9)
      simp only [lgc_lt, lgc_ge, lgc_gt, lgc_le, l64_0, l64_1, l64_3, l64_5, l64_9, l64_12, l64_16, l64_20, l64_60, l64_9999, w64_lt, w64_le, s107, s106, s110, s109, e0, e1, f0, f1, c0, c1, c2, c3, c4, c5, c6, c7, m0, m1, m6, m7]
      exact rng_ok (by omega) hp (rn8 (n := 6) (by omega) hv (hm _ _ (INV_cm hI fr0_rfl fr0_rfl)))
  · refine rng_bad (by omega) hu ?_
    refine hk _ _ _ (fun Km hm => ?_)
    apply en_X10_person (d := 9)
    simp only [lgc_lt, lgc_ge, lgc_gt, lgc_le, l64_0, l64_1, l64_3, l64_5, l64_9, l64_12, l64_16, l64_20, l64_60, l64_9999, w64_lt, w64_le, s107, s106, s110, s109, e0, e1, f0, f1, c0, c1, c2, c3, c4, c5, c6, c7, m0, m1, m6, m7]
    exact rng_bad (by omega) hu (hm _ _ (INV_cm hI fr0_rfl fr0_rfl))
theorem op_lived {E : am_E} {K : am_K} {mi : Nat → Nat → Int32} {ml : Nat → Nat → Int64} (hI : INV mi ml) {u : Int32} (hk : PR 323 [.ref 106, .int u] E K) : cq E 14 178 [.ref 0, .int u] K mi ml := by
  obtain ⟨i1, i2, i3, i4, i5, -, i7, i8, i9⟩ := id hI
  have s121 : ∀ (f : Nat → Nat → Int32) i x, am_si f 0 0 x 121 i = f 121 i := fun _ _ _ => rfl
  apply en_X9_lived (d := 12)
  by_cases hu : ∃ k, k < 5 ∧ u = nI k
  · obtain ⟨k, hk5, rfl⟩ := hu
    refine rng_ok2 (n := 5) (by omega) hk5 ?_
    have hin : vp_in (nI k) 5 := by rw [ni_in (by omega)]; omega
    have hcl : Int32.toNatClampNeg (nI k) = k := ni_cl (by omega)
    rcases i8 with ⟨h35, h0 | ⟨h1, l0, l1, l2, l3, l4, l5⟩⟩
    · rw [h0]
      refine br_f (fun q => q (by trivial)) ?_
      refine hk _ _ _ (fun Km hm => ?_)
      apply en_X10_lived (d := 12)
      simp only [s106]
      rw [← h35, h0]
      exact rn8_ok (n := 4) (by omega) hk5 (br_t rfl (hm _ _ (INV_cm hI fr0_rfl fr0_rfl)))
    · rw [h1]
      refine br_t (by decide) ?_
      have go : ∀ v, v = mi 121 k → K (some (.int v)) (S0, am_si mi 0 0 (nI 0), ml) := by
        intro v hv
        refine hk _ _ _ (fun Km hm => ?_)
        apply en_X10_lived (d := 12)
        simp only [s106, s121]
        rw [← h35, h1, hcl, ← hv]
        exact rn8_ok (n := 4) (by omega) hk5 (br_f (by decide) ⟨hin, hm _ _ (INV_cm hI fr0_rfl fr0_rfl)⟩)
      have hcs : k = 0 ∨ k = 1 ∨ k = 2 ∨ k = 3 ∨ k = 4 := by omega
      rcases hcs with rfl | rfl | rfl | rfl | rfl
      · exact ⟨fun _ => go _ l0, fun q => absurd q (by decide), fun q => absurd q (by decide), fun q => absurd q (by decide), fun q _ _ _ => absurd (by trivial) q⟩
      · exact ⟨fun q => absurd q (by decide), fun _ => go _ l1, fun q => absurd q (by decide), fun q => absurd q (by decide), fun _ q _ _ => absurd (by trivial) q⟩
      · exact ⟨fun q => absurd q (by decide), fun q => absurd q (by decide), fun _ => go _ l2, fun q => absurd q (by decide), fun _ _ q _ => absurd (by trivial) q⟩
      · exact ⟨fun q => absurd q (by decide), fun q => absurd q (by decide), fun q => absurd q (by decide), fun _ => go _ l3, fun _ _ _ q => absurd (by trivial) q⟩
      · refine ⟨fun q => absurd q (by decide), fun q => absurd q (by decide), fun q => absurd q (by decide), fun q => absurd q (by decide), fun _ _ _ _ => ?_⟩
        rcases l5 with z | z
        · rw [z]; exact br_t rfl (go _ (by rw [← l4, z]))
        · rw [z]; exact br_f (by decide) (go _ (by rw [← l4, z]))
  · refine rng_bd2 (n := 5) (by omega) (by omega) hu ?_
    refine hk _ _ _ (fun Km hm => ?_)
    apply en_X10_lived (d := 12)
    exact rn8 (n := 4) (by omega) hu (hm _ _ (INV_cm hI fr0_rfl fr0_rfl))
