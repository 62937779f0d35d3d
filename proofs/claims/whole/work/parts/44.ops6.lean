/-! One person more; a rule. -/
def comeA (a : Nat → Nat) (h : Nat) : Nat → Nat := fun k => if k = 1 then a 1 + 1 else if k = 16 + 4 * a 1 then h else if 16 + 4 * a 1 < k ∧ k < 16 + 4 * a 1 + 4 then 0 else a k
theorem comeA_1 (a : Nat → Nat) (h : Nat) : comeA a h 1 = a 1 + 1 := rfl
theorem comeA_lo {a : Nat → Nat} {h k : Nat} (h1 : k ≠ 1) (h2 : k < 16 + 4 * a 1) : comeA a h k = a k := by
  unfold comeA
  rw [if_neg h1, if_neg (by omega), if_neg (by omega)]
theorem comeA_h (a : Nat → Nat) (h : Nat) : comeA a h (16 + 4 * a 1) = h := by
  unfold comeA
  rw [if_neg (by omega), if_pos rfl]
theorem comeA_z (a : Nat → Nat) (h : Nat) {j : Nat} (h1 : 1 ≤ j) (h2 : j < 4) : comeA a h (16 + 4 * a 1 + j) = 0 := by
  unfold comeA
  rw [if_neg (by omega), if_neg (by omega), if_pos (by omega)]
theorem WA_come {a : Nat → Nat} {h : Nat} (hW : WA a) (h8 : a 1 < 8) (hh : h ≤ 9) : WA (comeA a h) := by
  obtain ⟨⟨x0, x1, x2, x3, x4, x5, x6, x7, x8⟩, y, z⟩ := hW
  have hp0 := p2_pos (a 0)
  have h2 : 2 ^ a 1 ≤ 2 ^ (a 1 + 1) := p2_le (by omega)
  have hp1 := p2_pos (a 1 + 1)
  unfold WA
  rw [comeA_1, comeA_lo (k := 0) (by omega) (by omega), comeA_lo (k := 2) (by omega) (by omega), comeA_lo (k := 3) (by omega) (by omega), comeA_lo (k := 4) (by omega) (by omega), comeA_lo (k := 5) (by omega) (by omega), comeA_lo (k := 6) (by omega) (by omega), comeA_lo (k := 7) (by omega) (by omega)]
  refine ⟨⟨x0, by omega, x2, x3, x4, x5, x6, x7, by omega⟩, fun o ho => ?_, fun p hp => ?_⟩
  · rw [comeA_lo (by omega) (by omega)]; exact y o ho
  · by_cases e : p = a 1
    · subst e
      rw [comeA_h, comeA_z a h (j := 1) (by omega) (by omega), comeA_z a h (j := 2) (by omega) (by omega), comeA_z a h (j := 3) (by omega) (by omega)]
      exact ⟨hh, by omega, by omega, by omega, Nat.zero_testBit _⟩
    · obtain ⟨z1, z2, z3, z4, z5⟩ := z p (by omega)
      rw [comeA_lo (by omega) (by omega), comeA_lo (by omega) (by omega), comeA_lo (by omega) (by omega), comeA_lo (by omega) (by omega)]
      exact ⟨z1, z2, z3, by omega, z5⟩
theorem abo_come {a : Nat → Nat} (h : Nat) (hW : WA a) : aboA (comeA a h) = aboA a ||| 1 <<< a 1 := by
  apply Nat.eq_of_testBit_eq; intro i
  rw [tb_abo, Nat.testBit_or, tb_abo, tb_1shl, comeA_1, comeA_lo (k := 7) (by omega) (by omega)]
  by_cases e : i = a 1
  · subst e
    rw [tb_hi hW.1.2.2.2.2.2.2.2.2 (Nat.le_refl _)]
    simp
  · have : decide (i < a 1 + 1) = decide (i < a 1) := by apply decide_eq_decide.mpr; omega
    simp [e, this]
theorem sees_come {a : Nat → Nat} (h : Nat) (hW : WA a) {q : Nat} (hq : q < a 1) : seesA (comeA a h) q = seesA a q ||| 1 <<< a 1 := by
  apply Nat.eq_of_testBit_eq; intro i
  rw [tb_sees, Nat.testBit_or, tb_sees, tb_1shl, comeA_1, comeA_lo (by omega) (by omega)]
  by_cases e : i = a 1
  · subst e
    rw [tb_hi (hW.2.2 q hq).2.2.2.1 (Nat.le_refl _)]
    have : ¬ a 1 = q := by omega
    simp [this]
  · have : decide (i < a 1 + 1) = decide (i < a 1) := by apply decide_eq_decide.mpr; omega
    simp [e, this]
theorem sees_new (a : Nat → Nat) (h : Nat) : seesA (comeA a h) (a 1) = 2 ^ a 1 - 1 := by
  apply Nat.eq_of_testBit_eq; intro i
  rw [tb_sees, tb_all, comeA_1, comeA_z a h (by omega) (by omega), Nat.zero_testBit]
  by_cases e : i < a 1
  · have : ¬ i = a 1 := by omega
    have e2 : i < a 1 + 1 := by omega
    simp [e, this, e2]
  · by_cases e2 : i = a 1
    · subst e2; simp
    · have : ¬ i < a 1 + 1 := by omega
      simp [e, this]
theorem s_addPerson {E : am_E} {d : Nat} {K : am_K} {mi : Nat → Nat → Int32} {ml : Nat → Nat → Int64} {b : Nat} (hb : bt b) {a : Nat → Nat} (hC : CB b a mi) (hW : WA a) (h8 : a 1 < 8) {h : Nat} {nm : Int64} (hk : ∀ mi', frC b mi mi' → CB b (comeA a h) mi' → K (some (.int (nI (a 1)))) (S0, mi', am_sj ml (b + 7) (a 1) nm)) : cq E (d + 1) 16 [.ref b, .long nm, .int (nI h)] K mi ml := by
  obtain ⟨⟨c0, c1, c2, c3, c4, c5, c6, c7⟩, cp, cr⟩ := id hC
  have w0 := hW.1.1
  have e1 : (nI 1 <<< ms (nI (a 1))) - nI 1 = nI (2 ^ a 1 - 1) := by rw [ni_shl (by omega), ni_all (by omega)]
  have key : ∀ i, i ≤ a 1 → ∀ mi', frC b mi mi' → (∀ j, mi' b j = mi b j) → (∀ j, mi' (b + 1) j = mi (b + 1) j) → (∀ q, q ≤ a 1 → mi' (b + 3) q = (if q = a 1 then nI h else mi (b + 3) q) ∧ mi' (b + 4) q = (if q = a 1 then nI 0 else mi (b + 4) q) ∧ mi' (b + 5) q = (if q = a 1 then nI 0 else mi (b + 5) q) ∧ mi' (b + 6) q = (if q = a 1 then nI (2 ^ a 1 - 1) else if q < i then nI (seesA a q ||| 1 <<< a 1) else mi (b + 6) q)) → rn E d 16 K 65 [.ref b, am_mk, am_mk, am_mk, .int (nI (a 1)), .int (nI i)] [] mi' (am_sj ml (b + 7) (a 1) nm) := dn_ind (a 1) (by
    intro i hi ih mi' hf h0 h1 hq
    apply rg_X0_addPerson_65 hb
    rw [ni_le (by omega) (by omega)]
    refine ⟨fun q => ?_, fun q => ?_⟩
    · have e : i = a 1 := by omega
      subst e
      rw [si_f (by omega), h0, h0, c7, c5, ni_shl (by omega), ni_or, nI_add]
      refine hk _ (fun k hk => ?_) ?_
      · funext j
        rw [si_f (by omega), si_f (by omega), hf k hk]
      · unfold CB
        rw [comeA_1, comeA_lo (k := 0) (by omega) (by omega), comeA_lo (k := 2) (by omega) (by omega), comeA_lo (k := 3) (by omega) (by omega), comeA_lo (k := 4) (by omega) (by omega), comeA_lo (k := 5) (by omega) (by omega), comeA_lo (k := 6) (by omega) (by omega), abo_come h hW]
        refine ⟨⟨?_, ?_, ?_, ?_, ?_, ?_, ?_, ?_⟩, fun o ho => ?_, fun p hp => ?_⟩
        · rw [si_f (by omega), si_f (by omega), h0]; exact c0
        · rw [si_f (by omega), si_f (by omega), h0]; exact c1
        · rw [si_f (by omega), si_f (by omega), h0]; exact c2
        · rw [si_f (by omega), si_f (by omega), h0]; exact c3
        · rw [si_f (by omega), si_f (by omega), h0]; exact c4
        · rw [si_t ⟨rfl, rfl⟩]
        · rw [si_f (by omega), si_f (by omega), h0]; exact c6
        · rw [si_f (by omega), si_t ⟨rfl, rfl⟩]
        · rw [si_f (by omega), si_f (by omega), h1, comeA_lo (by omega) (by omega)]; exact cp o ho
        · rw [si_f (by omega), si_f (by omega), si_f (by omega), si_f (by omega), si_f (by omega), si_f (by omega), si_f (by omega), si_f (by omega)]
          obtain ⟨g3, g4, g5, g6⟩ := hq p (by omega)
          rw [g3, g4, g5, g6]
          by_cases e : p = a 1
          · subst e
            rw [if_pos rfl, if_pos rfl, if_pos rfl, if_pos rfl, comeA_h, comeA_z a h (j := 1) (by omega) (by omega), comeA_z a h (j := 2) (by omega) (by omega), sees_new]
            exact ⟨rfl, rfl, rfl, rfl⟩
          · obtain ⟨r3, r4, r5, r6⟩ := cr p (by omega)
            rw [if_neg e, if_neg e, if_neg e, if_neg e, if_pos (by omega), comeA_lo (by omega) (by omega), comeA_lo (by omega) (by omega), comeA_lo (by omega) (by omega), sees_come h hW (by omega)]
            exact ⟨r3, r4, r5, rfl⟩
    · have ih := ih (by omega)
      obtain ⟨g3, g4, g5, g6⟩ := hq i (by omega)
      rw [ni_cl (by omega), g6, if_neg (by omega), if_neg (by omega), (cr i (by omega)).2.2.2, ni_shl (by omega), ni_or, nI_add]
      have hin : vp_in (nI i) 8 := by rw [ni_in (by omega)]; omega
      refine ⟨hin, hin, ih _ (fun k hk => ?_) (fun j => ?_) (fun j => ?_) (fun q hq2 => ?_)⟩
      · funext j
        rw [si_f (by omega), hf k hk]
      · rw [si_f (by omega), h0]
      · rw [si_f (by omega), h1]
      · obtain ⟨g3, g4, g5, g6⟩ := hq q hq2
        rw [si_f (by omega), si_f (by omega), si_f (by omega)]
        refine ⟨g3, g4, g5, ?_⟩
        by_cases e : q = i
        · rw [si_t ⟨rfl, e⟩, if_neg (by omega), if_pos (by omega), e]
        · rw [si_f (by omega), g6]
          by_cases e2 : q = a 1
          · rw [if_pos e2, if_pos e2]
          · rw [if_neg e2, if_neg e2]
            by_cases e3 : q < i
            · rw [if_pos e3, if_pos (by omega)]
            · rw [if_neg e3, if_neg (by omega)])
  apply en_X0_addPerson hb
  have hin : vp_in (nI (a 1)) 8 := by rw [ni_in (by omega)]; omega
  rw [c5, ni_lt (by omega) (by omega), ni_cl (by omega), e1]
  refine br_t h8 ⟨hin, hin, hin, hin, hin, key 0 (by omega) _ (fun k hk => ?_) (fun j => ?_) (fun j => ?_) (fun q hq => ?_)⟩
  · funext j
    rw [si_f (by omega), si_f (by omega), si_f (by omega), si_f (by omega)]
  · rw [si_f (by omega), si_f (by omega), si_f (by omega), si_f (by omega)]
  · rw [si_f (by omega), si_f (by omega), si_f (by omega), si_f (by omega)]
  · by_cases e : q = a 1
    · rw [if_pos e, if_pos e, if_pos e, if_pos e]
      refine ⟨?_, ?_, ?_, ?_⟩
      · rw [si_f (by omega), si_f (by omega), si_f (by omega), si_t ⟨rfl, e⟩]
      · rw [si_f (by omega), si_f (by omega), si_t ⟨rfl, e⟩]
      · rw [si_f (by omega), si_t ⟨rfl, e⟩]
      · rw [si_t ⟨rfl, e⟩]
    · rw [if_neg e, if_neg e, if_neg e, if_neg e, if_neg (by omega)]
      refine ⟨?_, ?_, ?_, ?_⟩
      · rw [si_f (by omega), si_f (by omega), si_f (by omega), si_f (by omega)]
      · rw [si_f (by omega), si_f (by omega), si_f (by omega), si_f (by omega)]
      · rw [si_f (by omega), si_f (by omega), si_f (by omega), si_f (by omega)]
      · rw [si_f (by omega), si_f (by omega), si_f (by omega), si_f (by omega)]
theorem op_come {E : am_E} {K : am_K} {mi : Nat → Nat → Int32} {ml : Nat → Nat → Int64} (hI : INV mi ml) {u : Int32} (hk : PR 269 [.ref 106, .int u] E K) : cq E 14 139 [.ref 0, .int u] K mi ml := by
  obtain ⟨i1, i2, i3, i4, i5, ⟨a, hB⟩, i7, i8, i9⟩ := id hI
  have hW : WA a := hB.1.1
  have hC : CB 12 a mi := hB.2.1
  have hM : MA a mi := MS_0.mp hB.2.2.1
  have hMi := hM
  unfold MA at hMi
  obtain ⟨⟨x0, x1, x2, x3, x4, x5, x6, x7, x8⟩, y, z⟩ := id hW
  have w := WA_p2 hW
  have hp0 := p2_pos (a 0)
  have hp1 := p2_pos (a 1)
  obtain ⟨⟨c0, c1, c2, c3, c4, c5, c6, c7⟩, cp, ch, ct, cx, cs⟩ := CB12 hC
  have e0 : nI 1 <<< ms (nI (a 0)) = nI (2 ^ a 0) := by rw [ni_shl (by omega), Nat.one_shiftLeft]
  have e1 : nI 1 <<< ms (nI (a 1)) = nI (2 ^ a 1) := by rw [ni_shl (by omega), Nat.one_shiftLeft]
  have f0 : nI (2 ^ a 0) - nI 1 = nI (2 ^ a 0 - 1) := ni_sub hp0
  have f1 : nI (2 ^ a 1) - nI 1 = nI (2 ^ a 1 - 1) := ni_sub hp1
  have m0 : mi 107 0 = nI (a 0) := hM 0 (by omega) (by omega)
  have m1 : mi 107 1 = nI (a 1) := hM 1 (by omega) (by omega)
  have m6 : mi 107 6 = nI (a 6) := hM 6 (by omega) (by omega)
  have m7 : mi 107 7 = nI (a 7) := hM 7 (by omega) (by omega)
  apply en_X9_come (d := 12)
  simp only [lgc_lt, lgc_ge, lgc_gt, lgc_le, l64_0, l64_1, l64_3, l64_5, l64_9, l64_12, l64_16, l64_20, l64_60, l64_9999, w64_lt, w64_le, s107, s106, s110, s109, e0, e1, f0, f1, c0, c1, c2, c3, c4, c5, c6, c7, m0, m1, m6, m7]
  by_cases hu : ∃ h, h < 10 ∧ u = nI h
  · obtain ⟨h, hh, rfl⟩ := hu
    refine rng_ok2 (n := 10) (by omega) hh ?_
    rw [ni_lt (by omega) (by omega)]
    by_cases h8 : a 1 < 8
    · refine br_t h8 ?_
      apply s_addPerson bt_12 hC hW h8
      intro mi' hf hC'
      apply rg_X9_come_44
      refine hk _ _ _ (fun Km hm => ?_)
      have e107 : ∀ j, am_si mi' 0 0 (nI 0) 107 j = mi 107 j := fun j => by
        rw [s107, hf 107 (by omega)]
      have hWc := WA_come hW h8 (show h ≤ 9 by omega)
      apply en_X10_come (d := 12)
      simp only [e107]
      simp only [lgc_lt, lgc_ge, lgc_gt, lgc_le, l64_0, l64_1, l64_3, l64_5, l64_9, l64_12, l64_16, l64_20, l64_60, l64_9999, w64_lt, w64_le, s107, s106, s110, s109, e0, e1, f0, f1, c0, c1, c2, c3, c4, c5, c6, c7, m0, m1, m6, m7]
      refine rng_ok2 (n := 10) (by omega) hh ?_
      rw [ni_eq (by omega) (by omega), nI_add]
      refine br_t (by omega) ?_
      have r0 : nI 16 + nI 4 * nI (a 1) = nI (16 + 4 * a 1) := by rw [ni_mul, nI_add]
      have stepL : ∀ k, k < 4 → ∀ mm l1, rn E 13 269 Km 49 [.ref 106, .int (nI h), .int (nI (a 1)), .int (nI (k + 1))] [] (am_si mm 107 (16 + 4 * a 1 + k) (nI (if k = 0 then h else 0))) l1 → rn E 13 269 Km 49 [.ref 106, .int (nI h), .int (nI (a 1)), .int (nI k)] [] mm l1 := by
        intro k hk mm l1 hh
        apply rg_X10_come_49 (d := 12)
        rw [r0, nI_add (16 + 4 * a 1) k, nI_add k 1, ni_le (by omega) (by omega), ni_eq (by omega) (by omega), ni_cl (a := 16 + 4 * a 1 + k) (by omega)]
        refine br_f (by omega) ⟨fun q => ⟨by rw [ni_in (by omega)]; omega, ?_⟩, fun q => ⟨by rw [ni_in (by omega)]; omega, ?_⟩⟩
        · rw [if_neg q] at hh; exact hh
        · rw [if_pos (by omega)] at hh; exact hh
      refine stepL 0 (by omega) _ _ (stepL 1 (by omega) _ _ (stepL 2 (by omega) _ _ (stepL 3 (by omega) _ _ ?_)))
      rw [if_pos rfl, if_neg (by omega), if_neg (by omega), if_neg (by omega)]
      apply rg_X10_come_49
      rw [nI_add, ni_cl (by omega)]
      refine br_t (by decide) ⟨by rw [ni_in (by omega)]; omega, hm _ _ (INV_b (a' := comeA a h) hI hB (fun k j q => ?_) (fun k j q => ?_) ?_ ⟨hWc, ?_, fun p hp => ?_⟩ ?_ ?_ ?_ ?_ ?_)⟩
      · unfold scr at q
        rw [si_f (by omega), si_f (by omega), si_f (by omega), si_f (by omega), si_f (by omega), si_f (by omega), si_f (by omega), hf k (by omega)]
      · unfold scl at q
        rw [sj_f (by omega), sj_f (by omega)]
      · rw [si_f (by omega), si_f (by omega), si_f (by omega), si_f (by omega), si_f (by omega), si_f (by omega), si_t ⟨rfl, rfl⟩, si_t ⟨rfl, rfl⟩]
      · rw [comeA_lo (by omega) (by omega)]; exact hB.1.2.1
      · rw [comeA_1] at hp
        rw [comeA_lo (k := 5) (by omega) (by omega)]
        by_cases e : p = a 1
        · subst e; rw [comeA_z a h (by omega) (by omega)]; exact Nat.zero_le _
        · rw [comeA_lo (by omega) (by omega)]; exact hB.1.2.2 p (by omega)
      · refine CB_frb hC' (fun k j z => ?_)
        rw [si_f (by omega), si_f (by omega), si_f (by omega), si_f (by omega), si_f (by omega), si_f (by omega), si_f (by omega)]
      · intro k h1 h2
        by_cases k1 : k = 1
        · subst k1
          rw [si_f (by omega), si_f (by omega), si_f (by omega), si_f (by omega), si_f (by omega), si_t ⟨rfl, rfl⟩, comeA_1]
        · by_cases k2 : k = 16 + 4 * a 1
          · rw [si_f (by omega), si_f (by omega), si_f (by omega), si_f (by omega), si_t (by omega), k2, comeA_h]
          · by_cases k3 : 16 + 4 * a 1 < k ∧ k < 16 + 4 * a 1 + 4
            · have : comeA a h k = 0 := by
                unfold comeA; rw [if_neg k1, if_neg k2, if_pos k3]
              rw [this, si_f (by omega)]
              by_cases k4 : k = 16 + 4 * a 1 + 3
              · rw [si_t (by omega)]
              · rw [si_f (by omega)]
                by_cases k5 : k = 16 + 4 * a 1 + 2
                · rw [si_t (by omega)]
                · rw [si_f (by omega), si_t (by omega)]
            · have : comeA a h k = a k := by
                unfold comeA; rw [if_neg k1, if_neg k2, if_neg k3]
              rw [this, si_f (by omega), si_f (by omega), si_f (by omega), si_f (by omega), si_f (by omega), si_f (by omega), e107]
              exact hM k h1 h2
      · rw [comeA_lo (by omega) (by omega)]; exact Nat.le_refl _
      · rw [comeA_1]; omega
      · rw [comeA_1, comeA_lo (k := 0) (by omega) (by omega)]
        refine ⟨fun o ho => ?_, fun p hp => ?_⟩
        · rw [sj_f (by omega), sj_f (by omega), sj_f (by omega), sj_f (by omega)]; exact hB.2.2.2.1.1 o ho
        · by_cases e : p = a 1
          · rw [sj_f (by omega), sj_t (by omega), sj_t (by omega)]
            exact ⟨0, by decide, rfl, rfl⟩
          · rw [sj_f (by omega), sj_f (by omega), sj_f (by omega), sj_f (by omega)]; exact hB.2.2.2.1.2 p (by omega)
    · refine br_f h8 ?_
      refine hk _ _ _ (fun Km hm => ?_)
      apply en_X10_come (d := 12)
      simp only [lgc_lt, lgc_ge, lgc_gt, lgc_le, l64_0, l64_1, l64_3, l64_5, l64_9, l64_12, l64_16, l64_20, l64_60, l64_9999, w64_lt, w64_le, s107, s106, s110, s109, e0, e1, f0, f1, c0, c1, c2, c3, c4, c5, c6, c7, m0, m1, m6, m7]
      rw [ni_eq (by omega) (by omega)]
      exact rng_ok2 (n := 10) (by omega) hh (br_f (fun q => q (by omega)) (hm _ _ (INV_cm hI fr0_rfl fr0_rfl)))
  · refine rng_bd2 (n := 10) (by omega) (by omega) hu ?_
    refine hk _ _ _ (fun Km hm => ?_)
    apply en_X10_come (d := 12)
    simp only [lgc_lt, lgc_ge, lgc_gt, lgc_le, l64_0, l64_1, l64_3, l64_5, l64_9, l64_12, l64_16, l64_20, l64_60, l64_9999, w64_lt, w64_le, s107, s106, s110, s109, e0, e1, f0, f1, c0, c1, c2, c3, c4, c5, c6, c7, m0, m1, m6, m7]
    exact rng_bd2 (n := 10) (by omega) (by omega) hu (hm _ _ (INV_cm hI fr0_rfl fr0_rfl))
def rlm (i : Nat) : Nat := if i = 0 then 1 else 0
def rlM (i : Nat) : Nat := if i = 0 then 9 else if i = 1 then 3 else 16
theorem s_setRule_ok {E : am_E} {d : Nat} {K : am_K} {mi : Nat → Nat → Int32} {ml : Nat → Nat → Int64} {b : Nat} (hb : bt b) {i v : Nat} (hi : i < 3) (h1 : rlm i ≤ v) (h2 : v ≤ rlM i) (hk : K (some (.int (nI 1))) (S0, am_si mi b i (nI v), ml)) : cq E (d + 1) 17 [.ref b, .int (nI (i + 2)), .int (nI v)] K mi ml := by
  apply en_X0_setRule hb
  have hcs : i = 0 ∨ i = 1 ∨ i = 2 := by omega
  rcases hcs with rfl | rfl | rfl
  · exact br_f (fun q => q rfl) (rngm_ok (m := 1) (n := 9) (by omega) h1 h2 hk)
  · exact br_t (by decide) (br_f (fun q => q rfl) (rngm_ok (m := 0) (n := 3) (by omega) h1 h2 hk))
  · exact br_t (by decide) (br_t (by decide) (br_f (fun q => q rfl) (rngm_ok (m := 0) (n := 16) (by omega) h1 h2 hk)))
theorem s_setRule_bad {E : am_E} {d : Nat} {K : am_K} {mi : Nat → Nat → Int32} {ml : Nat → Nat → Int64} {b : Nat} (hb : bt b) {x v : Int32} (hx : ¬ ∃ i w, i < 3 ∧ x = nI (i + 2) ∧ rlm i ≤ w ∧ w ≤ rlM i ∧ v = nI w) (hk : K (some (.int (nI 0))) (S0, mi, ml)) : cq E (d + 1) 17 [.ref b, .int x, .int v] K mi ml := by
  apply en_X0_setRule hb
  by_cases x2 : x = nI 2
  · subst x2
    exact br_f (fun q => q rfl) (rngm_bad (m := 1) (n := 9) (by omega) (by omega) (fun ⟨w, w1, w2, w3⟩ => hx ⟨0, w, by omega, rfl, w1, w2, w3⟩) (br_t (by decide) (br_t (by decide) hk)))
  · by_cases x3 : x = nI 3
    · subst x3
      exact br_t (by decide) (br_f (fun q => q rfl) (rngm_bad (m := 0) (n := 3) (by omega) (by omega) (fun ⟨w, w1, w2, w3⟩ => hx ⟨1, w, by omega, rfl, w1, w2, w3⟩) (br_t (by decide) hk)))
    · by_cases x4 : x = nI 4
      · subst x4
        exact br_t (by decide) (br_t (by decide) (br_f (fun q => q rfl) (rngm_bad (m := 0) (n := 16) (by omega) (by omega) (fun ⟨w, w1, w2, w3⟩ => hx ⟨2, w, by omega, rfl, w1, w2, w3⟩) hk)))
      · exact br_t x2 (br_t x3 (br_t x4 hk))
theorem op_rule {E : am_E} {K : am_K} {mi : Nat → Nat → Int32} {ml : Nat → Nat → Int64} (hI : INV mi ml) {u v : Int32} (hk : PR 270 [.ref 106, .int u, .int v] E K) : cq E 14 140 [.ref 0, .int u, .int v] K mi ml := by
  obtain ⟨i1, i2, i3, i4, i5, ⟨a, hB⟩, i7, i8, i9⟩ := id hI
  have hW : WA a := hB.1.1
  have hC : CB 12 a mi := hB.2.1
  have hM : MA a mi := MS_0.mp hB.2.2.1
  have hMi := hM
  unfold MA at hMi
  obtain ⟨⟨x0, x1, x2, x3, x4, x5, x6, x7, x8⟩, y, z⟩ := id hW
  have w := WA_p2 hW
  have hp0 := p2_pos (a 0)
  have hp1 := p2_pos (a 1)
  obtain ⟨⟨c0, c1, c2, c3, c4, c5, c6, c7⟩, cp, ch, ct, cx, cs⟩ := CB12 hC
  have e0 : nI 1 <<< ms (nI (a 0)) = nI (2 ^ a 0) := by rw [ni_shl (by omega), Nat.one_shiftLeft]
  have e1 : nI 1 <<< ms (nI (a 1)) = nI (2 ^ a 1) := by rw [ni_shl (by omega), Nat.one_shiftLeft]
  have f0 : nI (2 ^ a 0) - nI 1 = nI (2 ^ a 0 - 1) := ni_sub hp0
  have f1 : nI (2 ^ a 1) - nI 1 = nI (2 ^ a 1 - 1) := ni_sub hp1
  have m0 : mi 107 0 = nI (a 0) := hM 0 (by omega) (by omega)
  have m1 : mi 107 1 = nI (a 1) := hM 1 (by omega) (by omega)
  have m6 : mi 107 6 = nI (a 6) := hM 6 (by omega) (by omega)
  have m7 : mi 107 7 = nI (a 7) := hM 7 (by omega) (by omega)
  apply en_X9_rule (d := 12)
  by_cases hx : ∃ i w, i < 3 ∧ u = nI (i + 2) ∧ rlm i ≤ w ∧ w ≤ rlM i ∧ v = nI w
  · obtain ⟨i, w9, hi, rfl, h1, h2, rfl⟩ := hx
    apply s_setRule_ok bt_12 hi h1 h2
    apply rg_X9_rule_10
    refine br_f (by decide) ?_
    refine hk _ _ _ (fun Km hm => ?_)
    have hM9 : rlM i ≤ 16 := by
      unfold rlM
      split
      · omega
      · split <;> omega
    have fin := hm _ _ (INV_u hI hB (k := i + 2) (v := w9) (c := 12) (j := i) (x := nI w9) (s := nI 0) (by
      unfold UPC
      unfold rlm at h1
      unfold rlM at h2
      have hcs : i = 0 ∨ i = 1 ∨ i = 2 := by omega
      rcases hcs with rfl | rfl | rfl
      · exact Or.inl ⟨rfl, h1, h2⟩
      · exact Or.inr (Or.inl ⟨rfl, h2⟩)
      · exact Or.inr (Or.inr (Or.inl ⟨rfl, h2⟩))) (by omega) (by omega) (by omega) (CB_rule hC i w9 hi))
    apply en_X10_rule (d := 12)
    simp only [lgc_lt, lgc_ge, lgc_gt, lgc_le, l64_0, l64_1, l64_3, l64_5, l64_9, l64_12, l64_16, l64_20, l64_60, l64_9999, w64_lt, w64_le, s107, s106, s110, s109, e0, e1, f0, f1, c0, c1, c2, c3, c4, c5, c6, c7, m0, m1, m6, m7]
    have hin : vp_in (nI (i + 2)) 2592 := by rw [ni_in (by omega)]; omega
    rw [ni_cl (by omega)]
    have hcs : i = 0 ∨ i = 1 ∨ i = 2 := by omega
    rcases hcs with rfl | rfl | rfl
    · exact br_f (by decide) (br_f (by decide) (br_f (fun q => q rfl) (br_f (fun q => q rfl) (rngm_ok (m := 1) (n := 9) (by omega) h1 h2 ⟨hin, fin⟩))))
    · exact br_f (by decide) (br_f (by decide) (br_t (by decide) (br_t (by decide) (br_f (fun q => q rfl) (rngm_ok (m := 0) (n := 3) (by omega) h1 h2 ⟨hin, fin⟩)))))
    · exact br_f (by decide) (br_f (by decide) (br_t (by decide) (br_t (by decide) (br_t (by decide) (rngm_ok (m := 0) (n := 16) (by omega) h1 h2 ⟨hin, fin⟩)))))
  · apply s_setRule_bad bt_12 hx
    apply rg_X9_rule_10
    refine br_t rfl ?_
    refine hk _ _ _ (fun Km hm => ?_)
    have fin := hm _ _ (INV_cm (x := nI 1) hI fr0_rfl fr0_rfl)
    apply en_X10_rule (d := 12)
    simp only [lgc_lt, lgc_ge, lgc_gt, lgc_le, l64_0, l64_1, l64_3, l64_5, l64_9, l64_12, l64_16, l64_20, l64_60, l64_9999, w64_lt, w64_le, s107, s106, s110, s109, e0, e1, f0, f1, c0, c1, c2, c3, c4, c5, c6, c7, m0, m1, m6, m7]
    by_cases hu : ∃ p, 2 ≤ p ∧ p ≤ 4 ∧ u = nI p
    · obtain ⟨p, p1, p2, rfl⟩ := hu
      have hcs : p = 2 ∨ p = 3 ∨ p = 4 := by omega
      rcases hcs with rfl | rfl | rfl
      · exact br_f (by decide) (br_f (by decide) (br_f (fun q => q rfl) (br_f (fun q => q rfl) (rngm_bad (m := 1) (n := 9) (by omega) (by omega) (fun ⟨w, w1, w2, w3⟩ => hx ⟨0, w, by omega, rfl, w1, w2, w3⟩) fin))))
      · exact br_f (by decide) (br_f (by decide) (br_t (by decide) (br_t (by decide) (br_f (fun q => q rfl) (rngm_bad (m := 0) (n := 3) (by omega) (by omega) (fun ⟨w, w1, w2, w3⟩ => hx ⟨1, w, by omega, rfl, w1, w2, w3⟩) fin)))))
      · exact br_f (by decide) (br_f (by decide) (br_t (by decide) (br_t (by decide) (br_t (by decide) (rngm_bad (m := 0) (n := 16) (by omega) (by omega) (fun ⟨w, w1, w2, w3⟩ => hx ⟨2, w, by omega, rfl, w1, w2, w3⟩) fin)))))
    · exact rngm_bad (m := 2) (n := 4) (by omega) (by omega) hu fin
