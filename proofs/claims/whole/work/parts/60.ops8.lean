/-! live, mean. -/
theorem YR_no {no np : Nat} {mi : Nat → Nat → Int32} (h : YR 21 0 no np mi) : (mi 21 0 = nI 0 ∧ mi 107 8 = nM) ∨ (¬ mi 21 0 = nI 0 ∧ ¬ mi 107 8 = nM) := by
  rcases h with ⟨h0, h8, -⟩ | ⟨h0, n, w, pt, h1, h2, h3, -⟩
  · rw [Nat.zero_add] at h8
    exact Or.inl ⟨h0, h8⟩
  · rw [Nat.zero_add] at h3
    refine Or.inr ⟨by rw [h0]; decide, by rw [h3, ni_nM (by omega)]; exact fun q => q⟩
theorem life_ok {n seed : Nat} {pl : Nat → Nat → Nat} {a : Nat → Nat} (hN : NST n pl) (hP : ∀ k, k < n → PK (a 0) (a 1) pl k) (hW : WB a) (hs : seed < 65536) : WB (lifeP n pl a seed).1 ∧ (lifeP n pl a seed).1 0 = a 0 ∧ (lifeP n pl a seed).1 1 = a 1 ∧ (lifeP n pl a seed).2 6 ≤ 1 := run_ok hN hP 100000 a (r0L seed) (fun _ => 0) 0 hW rfl rfl hs (Nat.zero_le _)
/-- the reference copies what was counted -/
theorem s_told1 {E : am_E} {d : Nat} {K : am_K} {mi : Nat → Nat → Int32} {ml : Nat → Nat → Int64} {R : Nat → Nat} (hL : LM R mi) (hk : ∀ mi', (∀ k j, k ≠ 121 → mi' k j = mi k j) → mi' 121 0 = nI (R 2) → mi' 121 1 = nI (R 3) → mi' 121 2 = nI (R 4) → mi' 121 3 = nI (R 5) → mi' 121 4 = nI (R 6) → K (some (.int (nI (R 1)))) (S0, am_si (am_si mi' 106 35 (nI 1)) 106 2 (nI 0), ml)) : rn E (d + 10) 322 K 43 [.ref 106, am_mk, .int (nI 0)] [] mi ml := by
  have key : ∀ i, i ≤ 5 → ∀ mi', (∀ k j, k ≠ 121 → mi' k j = mi k j) → (∀ j, j < i → mi' 121 j = mi 120 j) → rn E (d + 10) 322 K 43 [.ref 106, am_mk, .int (nI i)] [] mi' ml := by
    refine dn_ind 5 (fun i hi ih mi' hf h1 => ?_)
    apply rg_X10_live_43
    rw [ni_le (by omega) (by omega), nI_add, ni_cl (by omega)]
    refine ⟨fun q => ?_, fun q => ⟨by rw [ni_in (by omega)]; omega, by rw [ni_in (by omega)]; omega, ih (by omega) _ (fun k j z => by rw [si_f (by omega)]; exact hf k j z) (fun j hj => ?_)⟩⟩
    · have : i = 5 := by omega
      subst this
      rw [si_f (by omega), hf 106 31 (by omega), hL.1]
      refine hk mi' hf ?_ ?_ ?_ ?_ ?_
      · rw [h1 0 (by omega)]; exact hL.2.2.1
      · rw [h1 1 (by omega)]; exact hL.2.2.2.1
      · rw [h1 2 (by omega)]; exact hL.2.2.2.2.1
      · rw [h1 3 (by omega)]; exact hL.2.2.2.2.2.1
      · rw [h1 4 (by omega)]; exact hL.2.2.2.2.2.2
    · by_cases e : j = i
      · rw [si_t ⟨rfl, e⟩, hf 120 i (by omega), e]
      · rw [si_f (by omega)]; exact h1 j (by omega)
  exact key 0 (by omega) mi (fun _ _ _ => rfl) (fun _ h => absurd h (Nat.not_lt_zero _))
theorem op_live {E : am_E} {K : am_K} {mi : Nat → Nat → Int32} {ml : Nat → Nat → Int64} (hI : INV mi ml) {u : Int32} (hk : PR 322 [.ref 106, .int u] E K) : cq E 14 177 [.ref 0, .int u] K mi ml := by
  obtain ⟨i1, i2, i3, i4, i5, ⟨a, hB⟩, i7, i8, i9⟩ := id hI
  have hW : WA a := hB.1.1
  have hC : CB 12 a mi := hB.2.1
  have hM : MA a mi := MS_0.mp hB.2.2.1
  have hMi := hM
  unfold MA at hMi
  obtain ⟨⟨x0, x1, x2, x3, x4, x5, x6, x7, x8⟩, y, z⟩ := id hW
  have w := WA_p2 hW
  have hp0 := p2_pos (a 0)
  have hp1 := p2_pos (a 1)
  obtain ⟨⟨c0, c1, c2, c3, c4, c5, c6, c7⟩, cp, ch, ct, cx, cs⟩ := CB12 hC
  have e0 : nI 1 <<< ms (nI (a 0)) = nI (2 ^ a 0) := by rw [ni_shl (by omega), Nat.one_shiftLeft]
  have e1 : nI 1 <<< ms (nI (a 1)) = nI (2 ^ a 1) := by rw [ni_shl (by omega), Nat.one_shiftLeft]
  have f0 : nI (2 ^ a 0) - nI 1 = nI (2 ^ a 0 - 1) := ni_sub hp0
  have f1 : nI (2 ^ a 1) - nI 1 = nI (2 ^ a 1 - 1) := ni_sub hp1
  have m0 : mi 107 0 = nI (a 0) := hM 0 (by omega) (by omega)
  have m1 : mi 107 1 = nI (a 1) := hM 1 (by omega) (by omega)
  have m6 : mi 107 6 = nI (a 6) := hM 6 (by omega) (by omega)
  have m7 : mi 107 7 = nI (a 7) := hM 7 (by omega) (by omega)
  apply en_X9_live (d := 6)
  by_cases hu : ∃ s, s < 10000 ∧ u = nI s
  case neg =>
    refine rng_bd2 (n := 10000) (by omega) (by omega) hu ?_
    refine hk _ _ _ (fun Km hm => ?_)
    apply en_X10_live (d := 3)
    simp only [lgc_lt, lgc_ge, lgc_gt, lgc_le, l64_0, l64_1, l64_3, l64_5, l64_9, l64_12, l64_16, l64_20, l64_60, l64_9999, w64_lt, w64_le, s107, s106, s110, s109, e0, e1, f0, f1, c0, c1, c2, c3, c4, c5, c6, c7, m0, m1, m6, m7]
    exact rng_bd2 (n := 10000) (by omega) (by omega) hu (hm _ _ (INV_cm hI fr0_rfl fr0_rfl))
  obtain ⟨seed, hs, rfl⟩ := hu
  refine rng_ok2 (n := 10000) (by omega) hs ?_
  rcases YR_no hB.2.2.2.2 with ⟨y0, y8⟩ | ⟨y0, y8⟩
  · refine br_f (fun q => q y0) ?_
    refine hk _ _ _ (fun Km hm => ?_)
    apply en_X10_live (d := 3)
    simp only [lgc_lt, lgc_ge, lgc_gt, lgc_le, l64_0, l64_1, l64_3, l64_5, l64_9, l64_12, l64_16, l64_20, l64_60, l64_9999, w64_lt, w64_le, s107, s106, s110, s109, e0, e1, f0, f1, c0, c1, c2, c3, c4, c5, c6, c7, m0, m1, m6, m7]
    exact rng_ok2 (n := 10000) (by omega) hs (br_f (fun q => q y8) (hm _ _ (INV_cm hI fr0_rfl fr0_rfl)))
  · refine br_t y0 ?_
    obtain ⟨n, pl, n60, g1, g2, hN, hP, hRc, hRm⟩ := YR_pl x0 x1 hB.2.2.2.2 y0
    rw [Nat.zero_add] at g2
    obtain ⟨WA', W0, W1, R6⟩ := run_ok hN hP 100000 a (r0L seed) (fun _ => 0) 0 hB.1 rfl rfl (by show seed < 65536; omega) (Nat.zero_le _)
    apply s_run bt_12 lf_51 hC hB.1 rfl rfl n60 hN hP hRc g1 (by omega)
    intro mm f1 hC1 hL1
    apply rg_X9_live_50 (d := 6)
    have eL := hL1.2 1 (by omega) (by omega)
    rw [eL]
    refine hk _ _ _ (fun Km hm => ?_)
    have e107 : ∀ j, am_si mm 0 0 (nI 0) 107 j = mi 107 j := fun j => by rw [si_f (by omega), f1 107 j (by omega)]
    have hM1 : MA a (am_si mm 0 0 (nI 0)) := fun k h1 h2 => by rw [e107]; exact hM k h1 h2
    apply en_X10_live (d := 3)
    rw [e107]
    simp only [lgc_lt, lgc_ge, lgc_gt, lgc_le, l64_0, l64_1, l64_3, l64_5, l64_9, l64_12, l64_16, l64_20, l64_60, l64_9999, w64_lt, w64_le, s107, s106, s110, s109, e0, e1, f0, f1, c0, c1, c2, c3, c4, c5, c6, c7, m0, m1, m6, m7]
    refine rng_ok2 (n := 10000) (by omega) hs (br_t y8 ?_)
    apply s_lives hM1 hB.1 rfl rfl n60 hN hP (fun k hk => RKm_fr (hRm k hk) (fun j _ => e107 j)) (by rw [e107]; exact g2) (by omega)
    intro m2 f2 hM2 hL2
    apply rg_X10_live_41 (d := 3)
    apply s_told1 hL2
    intro m3 f3 t0 t1 t2 t3 t4
    unfold lifeP at *
    generalize hRR : runP n pl 100000 a (r0L seed) (fun _ => 0) 0 = RR at *
    have F : ∀ k j, ¬ ((12 ≤ k ∧ k ≤ 20) ∨ k = 51 ∨ k = 52 ∨ k = 115 ∨ (119 ≤ k ∧ k ≤ 121) ∨ (k = 106 ∧ (j = 25 ∨ j = 30 ∨ j = 31 ∨ j = 35 ∨ j = 2)) ∨ (k = 107 ∧ j < 48 ∧ j ≠ 8) ∨ (k = 0 ∧ j = 0)) → am_si (am_si m3 106 35 (nI 1)) 106 2 (nI 0) k j = mi k j := fun k j z => by
      rw [si_f (by omega), si_f (by omega), f3 k j (by omega), f2 k j (by omega), si_f (by omega), f1 k j (by omega)]
    have G : ∀ k j, k < 115 → k ≠ 106 → k ≠ 107 → am_si (am_si m3 106 35 (nI 1)) 106 2 (nI 0) k j = am_si mm 0 0 (nI 0) k j := fun k j z1 z2 z3 => by
      rw [si_f (by omega), si_f (by omega), f3 k j (by omega), f2 k j (by omega)]
    refine hm _ _ ⟨?_, i2, ?_, R_tape_fr i4 (fun k j z => F k j (by omega)), R_tr_fr i5 (fun k j z => F k j (by omega)) (fun _ _ _ => rfl), ⟨RR.1, WA', CB_frb hC1 (fun k j z => ?_), MS_0.mpr (fun k h1 h2 => ?_), ?_, ?_⟩, R_kept_fr i7 (fun k j z => F k j (by omega)) (fun _ _ _ => rfl), ⟨?_, Or.inr ⟨?_, ?_, ?_, ?_, ?_, ?_, ?_⟩⟩, i9⟩
    · rw [G 0 0 (by omega) (by omega) (by omega), si_t ⟨rfl, rfl⟩, si_t ⟨rfl, rfl⟩]
    · rw [F 46 9 (by omega), F 106 16 (by omega), F 46 10 (by omega), F 106 17 (by omega)]; exact i3
    · rw [G k j (by omega) (by omega) (by omega), si_f (by omega)]
    · rw [si_f (by omega), si_f (by omega), f3 107 k (by omega)]; exact hM2 k h1 h2
    · rw [W0, W1]; exact hB.2.2.2.1
    · rw [W0, W1]; exact YR_fr hB.2.2.2.2 (fun k j z => F k j (by omega))
    · rw [G 51 0 (by omega) (by omega) (by omega), si_f (by omega), hL1.1, si_f (by omega), si_t ⟨rfl, rfl⟩]
    · rw [G 51 0 (by omega) (by omega) (by omega), si_f (by omega), hL1.1]
    · rw [G 51 2 (by omega) (by omega) (by omega), si_f (by omega), hL1.2 2 (by omega) (by omega), si_f (by omega), si_f (by omega), t0]
    · rw [G 51 3 (by omega) (by omega) (by omega), si_f (by omega), hL1.2 3 (by omega) (by omega), si_f (by omega), si_f (by omega), t1]
    · rw [G 51 4 (by omega) (by omega) (by omega), si_f (by omega), hL1.2 4 (by omega) (by omega), si_f (by omega), si_f (by omega), t2]
    · rw [G 51 5 (by omega) (by omega) (by omega), si_f (by omega), hL1.2 5 (by omega) (by omega), si_f (by omega), si_f (by omega), t3]
    · rw [G 51 6 (by omega) (by omega) (by omega), si_f (by omega), hL1.2 6 (by omega) (by omega), si_f (by omega), si_f (by omega), t4]
    · rw [G 51 6 (by omega) (by omega) (by omega), si_f (by omega), hL1.2 6 (by omega) (by omega)]
      have : RR.2 6 = 0 ∨ RR.2 6 = 1 := by omega
      rcases this with e | e
      · rw [e]; exact Or.inl rfl
      · rw [e]; exact Or.inr rfl
/-- those out behind so many lives -/
def outsN (n : Nat) (pl : Nat → Nat → Nat) (a : Nat → Nat) (seed : Nat) (i : Nat) : Nat := nsum (fun j => pc ((lifeP n pl a (seed + j)).1 7)) i
theorem outs_le (n : Nat) (pl : Nat → Nat → Nat) (a : Nat → Nat) (seed i : Nat) : outsN n pl a seed i ≤ i * 10 := nsum_bd (fun _ _ => pc_le _)
theorem s_meanM {E : am_E} {d : Nat} {K : am_K} {mi : Nat → Nat → Int32} {ml : Nat → Nat → Int64} {n seed many : Nat} {pl : Nat → Nat → Nat} {a : Nat → Nat} (hM : MA a mi) (hW : WB a) (hn60 : n ≤ 60) (hN : NST n pl) (hP : ∀ k, k < n → PK (a 0) (a 1) pl k) (hR : ∀ k, k < n → RKm 0 pl mi k) (hn : mi 107 8 = nI n) (hs : seed < 10000) (hm1 : 1 ≤ many) (hm2 : many ≤ 20) (hk : ∀ mi', fr0 mi mi' → K (some (.int (nI 1))) (S0, am_si mi' 106 2 (nI 0), am_sj (am_sj ml 106 3 (lN (outsN n pl a seed many / Nat.gcd (outsN n pl a seed many) many))) 106 4 (lN (many / Nat.gcd (outsN n pl a seed many) many)))) : cq E (d + 10) 293 [.ref 106, .int (nI 2080)] (kc E (d + 10) 324 K 66 [.ref 106, .int (nI seed), .int (nI many), am_mk, am_mk, am_mk] []) mi ml := by
  apply s_keeps (by omega) (by omega)
  intro m1 c1
  apply rg_X10_mean_66
  have hf1 : fr0 mi m1 := fun k j z => by unfold sc0 at z; exact c1.1 k j (by omega)
  have kp1 : ∀ j, j < 48 → m1 107 (2080 + j) = mi 107 j := fun j hj => by have := c1.2 j hj; rw [Nat.zero_add] at this; exact this
  have key : ∀ i, i ≤ many → ∀ mi', fr0 mi mi' → (∀ j, j < 48 → mi' 107 (2080 + j) = mi 107 j) → rn E (d + 10) 324 K 71 [.ref 106, .int (nI seed), .int (nI many), .long (lN (outsN n pl a seed i)), am_mk, .int (nI i)] [] mi' ml := by
    refine dn_ind many (fun i hi ih mi' hf kp => ?_)
    apply rg_X10_mean_71
    have hb := outs_le n pl a seed i
    rw [ni_le (by omega) (by omega), nI_add]
    refine ⟨fun q => ?_, fun q => ?_⟩
    · have : i = many := by omega
      subst this
      rw [nI_l (by omega)]
      apply s_tellsBy (by omega) (by omega) (by omega)
      apply rg_X10_mean_119
      exact ⟨Or.inr rfl, hk _ hf⟩
    · have e107 : ∀ j, j < 408 → mi' 107 j = mi 107 j := fun j hj => hf 107 j (by unfold sc0; omega)
      have eR : ∀ k, k < n → RKm 0 pl mi' k := fun k hkn => by
        have h := hR k hkn
        unfold RKm at *
        rw [e107 _ (by omega), e107 _ (by omega), e107 _ (by omega), e107 _ (by omega), e107 _ (by omega)]
        exact h
      apply s_lives (MA_f0 hM hf) hW rfl rfl hn60 hN hP eR (by rw [e107 8 (by omega)]; exact hn) (by omega)
      intro m2 f2 hM2 hL2
      apply rg_X10_mean_85
      obtain ⟨WA', W0, W1, R6⟩ := life_ok (seed := seed + i) hN hP hW (by omega)
      have o7 := Nat.lt_of_lt_of_le WA'.1.1.2.2.2.2.2.2.2.2 (WA_p2 WA'.1).2
      rw [hM2 7 (by omega) (by omega)]
      apply s_bits (Nat.lt_of_lt_of_le o7 (by omega))
      apply rg_X10_mean_96
      have hp := pc_le ((lifeP n pl a (seed + i)).1 7)
      rw [nI_l (by omega), lN_add]
      apply s_restores (by omega) (by omega)
      intro m3 c3
      apply rg_X10_mean_106
      rw [nI_add]
      have k2 : ∀ j, j < 48 → m2 107 (2080 + j) = mi 107 j := fun j hj => by rw [f2 107 (2080 + j) (by omega)]; exact kp j hj
      refine ih (by omega) m3 (fun k j z => ?_) (fun j hj => by rw [c3.1 107 (2080 + j) (by omega)]; exact k2 j hj)
      by_cases e : k = 107 ∧ j < 48
      · obtain ⟨rfl, e⟩ := e
        have := c3.2 j e
        rw [Nat.zero_add] at this
        rw [this]; exact k2 j e
      · have z' := z
        unfold sc0 at z'
        rw [c3.1 k j (by omega), f2 k j (by omega)]
        exact hf k j z
  exact key 0 (by omega) m1 hf1 kp1
theorem op_mean {E : am_E} {K : am_K} {mi : Nat → Nat → Int32} {ml : Nat → Nat → Int64} (hI : INV mi ml) {u v : Int32} (hk : PR 324 [.ref 106, .int u, .int v] E K) : cq E 14 179 [.ref 0, .int u, .int v] K mi ml := by
  obtain ⟨i1, i2, i3, i4, i5, ⟨a, hB⟩, i7, i8, i9⟩ := id hI
  have hW : WA a := hB.1.1
  have hC : CB 12 a mi := hB.2.1
  have hM : MA a mi := MS_0.mp hB.2.2.1
  have hMi := hM
  unfold MA at hMi
  obtain ⟨⟨x0, x1, x2, x3, x4, x5, x6, x7, x8⟩, y, z⟩ := id hW
  have w := WA_p2 hW
  have hp0 := p2_pos (a 0)
  have hp1 := p2_pos (a 1)
  obtain ⟨⟨c0, c1, c2, c3, c4, c5, c6, c7⟩, cp, ch, ct, cx, cs⟩ := CB12 hC
  have e0 : nI 1 <<< ms (nI (a 0)) = nI (2 ^ a 0) := by rw [ni_shl (by omega), Nat.one_shiftLeft]
  have e1 : nI 1 <<< ms (nI (a 1)) = nI (2 ^ a 1) := by rw [ni_shl (by omega), Nat.one_shiftLeft]
  have f0 : nI (2 ^ a 0) - nI 1 = nI (2 ^ a 0 - 1) := ni_sub hp0
  have f1 : nI (2 ^ a 1) - nI 1 = nI (2 ^ a 1 - 1) := ni_sub hp1
  have m0 : mi 107 0 = nI (a 0) := hM 0 (by omega) (by omega)
  have m1 : mi 107 1 = nI (a 1) := hM 1 (by omega) (by omega)
  have m6 : mi 107 6 = nI (a 6) := hM 6 (by omega) (by omega)
  have m7 : mi 107 7 = nI (a 7) := hM 7 (by omega) (by omega)
  apply en_X9_mean (d := 6)
  by_cases hu : ∃ s, s < 10000 ∧ u = nI s
  case neg =>
    refine rng_bd2 (n := 10000) (by omega) (by omega) hu ?_
    refine hk _ _ _ (fun Km hm => ?_)
    apply en_X10_mean (d := 3)
    simp only [lgc_lt, lgc_ge, lgc_gt, lgc_le, l64_0, l64_1, l64_3, l64_5, l64_9, l64_12, l64_16, l64_20, l64_60, l64_9999, w64_lt, w64_le, s107, s106, s110, s109, e0, e1, f0, f1, c0, c1, c2, c3, c4, c5, c6, c7, m0, m1, m6, m7]
    exact rng_bd2 (n := 10000) (by omega) (by omega) hu (hm _ _ (INV_cm hI fr0_rfl fr0_rfl))
  obtain ⟨seed, hs, rfl⟩ := hu
  refine rng_ok2 (n := 10000) (by omega) hs ?_
  by_cases hv : ∃ p, 1 ≤ p ∧ p ≤ 20 ∧ v = nI p
  case neg =>
    refine rngm_bad (m := 1) (n := 20) (by omega) (by omega) hv ?_
    refine hk _ _ _ (fun Km hm => ?_)
    apply en_X10_mean (d := 3)
    simp only [lgc_lt, lgc_ge, lgc_gt, lgc_le, l64_0, l64_1, l64_3, l64_5, l64_9, l64_12, l64_16, l64_20, l64_60, l64_9999, w64_lt, w64_le, s107, s106, s110, s109, e0, e1, f0, f1, c0, c1, c2, c3, c4, c5, c6, c7, m0, m1, m6, m7]
    exact rng_ok2 (n := 10000) (by omega) hs (rngm_bad (m := 1) (n := 20) (by omega) (by omega) hv (hm _ _ (INV_cm hI fr0_rfl fr0_rfl)))
  obtain ⟨many, hm1, hm2, rfl⟩ := hv
  refine rngm_ok (m := 1) (n := 20) (by omega) hm1 hm2 ?_
  have esum : nI seed + nI many - nI 1 = nI (seed + many - 1) := by rw [nI_add, ni_sub (by omega)]
  rw [esum, ni_le (by omega) (by omega)]
  by_cases hsm : seed + many - 1 ≤ 9999
  case neg =>
    refine br_f hsm ?_
    refine hk _ _ _ (fun Km hm => ?_)
    apply en_X10_mean (d := 3)
    simp only [lgc_lt, lgc_ge, lgc_gt, lgc_le, l64_0, l64_1, l64_3, l64_5, l64_9, l64_12, l64_16, l64_20, l64_60, l64_9999, w64_lt, w64_le, s107, s106, s110, s109, e0, e1, f0, f1, c0, c1, c2, c3, c4, c5, c6, c7, m0, m1, m6, m7, esum]
    rw [ni_le (a := seed + many - 1) (by omega) (by omega)]
    exact rng_ok2 (n := 10000) (by omega) hs (rngm_ok (m := 1) (n := 20) (by omega) hm1 hm2 (br_f hsm (hm _ _ (INV_cm hI fr0_rfl fr0_rfl))))
  refine br_t hsm ?_
  rcases YR_no hB.2.2.2.2 with ⟨y0, y8⟩ | ⟨y0, y8⟩
  · refine br_f (fun q => q y0) ?_
    refine hk _ _ _ (fun Km hm => ?_)
    apply en_X10_mean (d := 3)
    simp only [lgc_lt, lgc_ge, lgc_gt, lgc_le, l64_0, l64_1, l64_3, l64_5, l64_9, l64_12, l64_16, l64_20, l64_60, l64_9999, w64_lt, w64_le, s107, s106, s110, s109, e0, e1, f0, f1, c0, c1, c2, c3, c4, c5, c6, c7, m0, m1, m6, m7, esum]
    rw [ni_le (a := seed + many - 1) (by omega) (by omega)]
    exact rng_ok2 (n := 10000) (by omega) hs (rngm_ok (m := 1) (n := 20) (by omega) hm1 hm2 (br_t hsm (br_f (fun q => q y8) (hm _ _ (INV_cm hI fr0_rfl fr0_rfl)))))
  · refine br_t y0 ?_
    obtain ⟨n, pl, n60, g1, g2, hN, hP, hRc, hRm⟩ := YR_pl x0 x1 hB.2.2.2.2 y0
    rw [Nat.zero_add] at g2
    have key : ∀ i, i ≤ many → ∀ mm l1, (∀ k j, ¬ ((28 ≤ k ∧ k ≤ 36) ∨ k = 53 ∨ k = 54) → mm k j = mi k j) → fl28 ml l1 → rn E 13 179 K 60 [.ref 0, .int (nI seed), .int (nI many), .int (nI (outsN n pl a seed i)), .int (nI i)] [] mm l1 := by
      refine dn_ind many (fun i hi ih mm l1 hf hl => ?_)
      apply rg_X9_mean_60 (d := 6)
      have hb := outs_le n pl a seed i
      rw [ni_le (by omega) (by omega)]
      refine ⟨fun q => ?_, fun q => ?_⟩
      · have : i = many := by omega
        subst this
        rw [nI_l (by omega), nI_l (by omega)]
        apply s_tell (by omega) (by omega) (by omega)
        apply rg_X9_mean_126 (d := 6)
        refine hk _ _ _ (fun Km hm => ?_)
        have e107 : ∀ j, am_si mm 0 0 (nI 0) 107 j = mi 107 j := fun j => by rw [si_f (by omega), hf 107 j (by omega)]
        have hM1 : MA a (am_si mm 0 0 (nI 0)) := fun k h1 h2 => by rw [e107]; exact hM k h1 h2
        apply en_X10_mean (d := 3)
        rw [e107]
        simp only [lgc_lt, lgc_ge, lgc_gt, lgc_le, l64_0, l64_1, l64_3, l64_5, l64_9, l64_12, l64_16, l64_20, l64_60, l64_9999, w64_lt, w64_le, s107, s106, s110, s109, e0, e1, f0, f1, c0, c1, c2, c3, c4, c5, c6, c7, m0, m1, m6, m7, esum]
        rw [ni_le (a := seed + i - 1) (by omega) (by omega)]
        refine rng_ok2 (n := 10000) (by omega) hs (rngm_ok (m := 1) (n := 20) (by omega) hm1 hm2 (br_t hsm (br_t y8 ?_)))
        apply s_meanM hM1 hB.1 n60 hN hP (fun k hk => RKm_fr (hRm k hk) (fun j _ => e107 j)) (by rw [e107]; exact g2) hs hm1 hm2
        intro m2 f2
        exact hm _ _ (INV_tell hI (fun k j z => by unfold sc0 at z; exact hf k j (by omega)) f2 (fl28_L hl) frL_rfl)
      · have hC1 : CB 12 a mm := CB_frb hC (fun k j z => hf k j (by omega))
        apply s_spare hC1 hW
        intro m2 l2 f2 fl2 hC2
        apply rg_X9_mean_77 (d := 6)
        rw [nI_add]
        have hf2 : ∀ k j, ¬ ((28 ≤ k ∧ k ≤ 36) ∨ k = 53 ∨ k = 54) → m2 k j = mi k j := fun k j z => by rw [f2 k j (by omega)]; exact hf k j z
        apply s_run bt_28 lf_53 hC2 hB.1 rfl rfl n60 hN hP (fun k hk => RKc_fr (hRc k hk) (fun c j z => hf2 c j (by omega))) (by rw [hf2 21 2 (by omega)]; exact g1) (by omega)
        intro m3 f3 hC3 hL3
        apply rg_X9_mean_96 (d := 6)
        obtain ⟨WA', W0, W1, R6⟩ := life_ok (seed := seed + i) hN hP hB.1 (by omega)
        have o7 := Nat.lt_of_lt_of_le WA'.1.1.2.2.2.2.2.2.2.2 (WA_p2 WA'.1).2
        have e7 : ((m3 28 7) ^^^ nM) &&& (((nI 1) <<< ms (m3 28 5)) - (nI 1)) = nI ((lifeP n pl a (seed + i)).1 7) := by
          have u1 : (lifeP n pl a (seed + i)).1 1 = a 1 := W1
          rw [hC3.1.2.2.2.2.2.2.2, hC3.1.2.2.2.2.2.1, u1, ni_shl (by omega), ni_all (by omega), Int32.and_comm, ni_dif, ← u1, out_of WA'.1]
        rw [e7, bc_pc (Nat.lt_of_lt_of_le o7 (by omega)), nI_add, nI_add]
        exact ih (by omega) m3 l2 (fun k j z => by rw [f3 k j (by omega)]; exact hf2 k j z) (fun k j z => by rw [fl2 k j z]; exact hl k j z)
    exact key 0 (by omega) mi ml (fun _ _ _ => rfl) (fun _ _ _ => rfl)
