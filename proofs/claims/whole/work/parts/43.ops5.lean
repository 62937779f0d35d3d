/-! Calls that change the boat. -/
theorem tb_flip (e o i : Nat) : (e ^^^ 1 <<< o).testBit i = (e.testBit i ^^ decide (i = o)) := by
  rw [Nat.testBit_xor, tb_1shl]
theorem tb_flip_o (e o : Nat) : (e ^^^ 1 <<< o).testBit o = !e.testBit o := by
  rw [tb_flip]; simp
theorem rngm_ok {p m n : Nat} {A B : Prop} (hn : n < 2147483648) (hp : m ≤ p) (hp2 : p ≤ n) (hB : B) : (nI p < nI m → A) ∧ (¬ nI p < nI m → ((nI n < nI p → A) ∧ (¬ nI n < nI p → B))) := by
  rw [ni_lt (by omega) (by omega), ni_lt (by omega) (by omega)]
  exact br_f (by omega) (br_f (by omega) hB)
theorem rngm_bad {x : Int32} {m n : Nat} {A B : Prop} (hm : m < 2147483648) (hn : n < 2147483648) (hx : ¬ ∃ p, m ≤ p ∧ p ≤ n ∧ x = nI p) (hA : A) : (x < nI m → A) ∧ (¬ x < nI m → ((nI n < x → A) ∧ (¬ nI n < x → B))) := by
  refine ⟨fun _ => hA, fun q => ⟨fun _ => hA, fun q2 => ?_⟩⟩
  have q0 : ¬ x < nI 0 := by
    intro h
    apply q
    rw [Int32.lt_iff_toInt_lt, nI_toInt hm]
    rw [Int32.lt_iff_toInt_lt, nI_toInt (by omega)] at h
    omega
  obtain ⟨j, hj, rfl⟩ := ni_pos0 q0
  rw [ni_lt hj hm] at q
  rw [ni_lt hn hj] at q2
  exact absurd ⟨j, by omega, by omega, rfl⟩ hx
theorem op_call {E : am_E} {K : am_K} {mi : Nat → Nat → Int32} {ml : Nat → Nat → Int64} (hI : INV mi ml) (hk : PR 259 [.ref 106] E K) : cq E 14 132 [.ref 0] K mi ml := by
  obtain ⟨i1, i2, i3, i4, i5, ⟨a, hB⟩, i7, i8, i9⟩ := id hI
  have hW : WA a := hB.1.1
  have hC : CB 12 a mi := hB.2.1
  have hM : MA a mi := MS_0.mp hB.2.2.1
  have hMi := hM
  unfold MA at hMi
  obtain ⟨⟨x0, x1, x2, x3, x4, x5, x6, x7, x8⟩, y, z⟩ := id hW
  have w := WA_p2 hW
  have hp0 := p2_pos (a 0)
  have hp1 := p2_pos (a 1)
  obtain ⟨⟨c0, c1, c2, c3, c4, c5, c6, c7⟩, cp, ch, ct, cx, cs⟩ := CB12 hC
  have e0 : nI 1 <<< ms (nI (a 0)) = nI (2 ^ a 0) := by rw [ni_shl (by omega), Nat.one_shiftLeft]
  have e1 : nI 1 <<< ms (nI (a 1)) = nI (2 ^ a 1) := by rw [ni_shl (by omega), Nat.one_shiftLeft]
  have f0 : nI (2 ^ a 0) - nI 1 = nI (2 ^ a 0 - 1) := ni_sub hp0
  have f1 : nI (2 ^ a 1) - nI 1 = nI (2 ^ a 1 - 1) := ni_sub hp1
  have m0 : mi 107 0 = nI (a 0) := hM 0 (by omega) (by omega)
  have m1 : mi 107 1 = nI (a 1) := hM 1 (by omega) (by omega)
  have m6 : mi 107 6 = nI (a 6) := hM 6 (by omega) (by omega)
  have m7 : mi 107 7 = nI (a 7) := hM 7 (by omega) (by omega)
  have w5 := hB.1.2.1
  have wt := hB.1.2.2
  have m5 : mi 107 5 = nI (a 5) := hM 5 (by omega) (by omega)
  apply en_X9_call (d := 9)
  rw [c3, ni_le (by omega) (by omega)]
  by_cases h5 : 9999 ≤ a 5
  · refine br_t h5 ?_
    refine hk _ _ _ (fun Km hm => ?_)
    apply en_X10_call (d := 6)
    rw [s107, m5, ni_eq (by omega) (by omega)]
    exact br_f (fun q => q (by omega)) (hm _ _ (INV_cm hI fr0_rfl fr0_rfl))
  · refine br_f h5 ?_
    apply s_makeCall bt_12 hC hW
    intro mi' hf hC'
    apply rg_X9_call_24
    refine hk _ _ _ (fun Km hm => ?_)
    have e107 : ∀ j, am_si mi' 0 0 (nI 0) 107 j = mi 107 j := fun j => by
      rw [s107, hf 107 (by omega)]
    apply en_X10_call (d := 6)
    rw [e107, m5, ni_eq (by omega) (by omega)]
    refine br_t (by omega) ?_
    apply s_calling (a := a) (fun k h1 h2 => by rw [e107]; exact hM k h1 h2) hW
    intro m2 hD hM2
    apply rg_X10_call_23
    refine hm _ _ (INV_b (a' := callA a) hI hB (fun k j q => ?_) (fun _ _ _ => rfl) ?_ ⟨?_, ?_, fun p hp => ?_⟩ ?_ ?_ ?_ ?_ ?_)
    · unfold scr at q
      rw [si_f (by omega), hD k j (by omega), si_f (by omega), hf k (by omega)]
    · rw [si_f (by omega), si_t ⟨rfl, rfl⟩, hD 0 0 (by omega), si_t ⟨rfl, rfl⟩]
    · exact WA_call hW (by omega) (fun p hp => by have := wt p hp; omega)
    · rw [callA_5]; omega
    · rw [callA_lo a (by omega) (by omega) (by omega)] at hp
      rw [callA_5, callA_p a 1 (by omega), callQ_p a 1 (by omega)]
      have := wt p hp
      split
      · simp; omega
      · omega
    · refine CB_frb hC' (fun k j z => ?_)
      rw [si_f (by omega), hD k j (by omega), si_f (by omega)]
    · intro k h1 h2
      rw [si_f (by omega)]; exact hM2 k h1 h2
    · rw [callA_lo a (by omega) (by omega) (by omega)]; exact Nat.le_refl _
    · rw [callA_lo a (by omega) (by omega) (by omega)]; exact Nat.le_refl _
    · rw [callA_lo a (by omega) (by omega) (by omega), callA_lo a (by omega) (by omega) (by omega)]; exact hB.2.2.2.1
theorem op_show {E : am_E} {K : am_K} {mi : Nat → Nat → Int32} {ml : Nat → Nat → Int64} (hI : INV mi ml) {u v : Int32} (hv : v = nI 0 ∨ v = nI 1) (hk : PR 261 [.ref 106, .int u, .int v] E K) : cq E 14 133 [.ref 0, .int u, .int v] K mi ml := by
  obtain ⟨i1, i2, i3, i4, i5, ⟨a, hB⟩, i7, i8, i9⟩ := id hI
  have hW : WA a := hB.1.1
  have hC : CB 12 a mi := hB.2.1
  have hM : MA a mi := MS_0.mp hB.2.2.1
  have hMi := hM
  unfold MA at hMi
  obtain ⟨⟨x0, x1, x2, x3, x4, x5, x6, x7, x8⟩, y, z⟩ := id hW
  have w := WA_p2 hW
  have hp0 := p2_pos (a 0)
  have hp1 := p2_pos (a 1)
  obtain ⟨⟨c0, c1, c2, c3, c4, c5, c6, c7⟩, cp, ch, ct, cx, cs⟩ := CB12 hC
  have e0 : nI 1 <<< ms (nI (a 0)) = nI (2 ^ a 0) := by rw [ni_shl (by omega), Nat.one_shiftLeft]
  have e1 : nI 1 <<< ms (nI (a 1)) = nI (2 ^ a 1) := by rw [ni_shl (by omega), Nat.one_shiftLeft]
  have f0 : nI (2 ^ a 0) - nI 1 = nI (2 ^ a 0 - 1) := ni_sub hp0
  have f1 : nI (2 ^ a 1) - nI 1 = nI (2 ^ a 1 - 1) := ni_sub hp1
  have m0 : mi 107 0 = nI (a 0) := hM 0 (by omega) (by omega)
  have m1 : mi 107 1 = nI (a 1) := hM 1 (by omega) (by omega)
  have m6 : mi 107 6 = nI (a 6) := hM 6 (by omega) (by omega)
  have m7 : mi 107 7 = nI (a 7) := hM 7 (by omega) (by omega)
  apply en_X9_show (d := 12)
  simp only [lgc_lt, lgc_ge, lgc_gt, lgc_le, l64_0, l64_1, l64_3, l64_5, l64_9, l64_12, l64_16, l64_20, l64_60, l64_9999, w64_lt, w64_le, s107, s106, s110, s109, e0, e1, f0, f1, c0, c1, c2, c3, c4, c5, c6, c7, m0, m1, m6, m7]
  by_cases hu : ∃ p, p < a 0 ∧ u = nI p
  · obtain ⟨o, ho, rfl⟩ := hu
    refine rng_ok (by omega) ho ?_
    have hb6 : (nI (a 6) >>> ms (nI o)) &&& nI 1 = nI (b01 ((a 6).testBit o)) := ni_bit (by omega) (by omega)
    have hx : nI (a 6) ^^^ (nI 1 <<< ms (nI o)) = nI (a 6 ^^^ 1 <<< o) := by rw [ni_shl (by omega), ni_xor]
    rw [hb6, hx]
    have hlt : a 6 ^^^ 1 <<< o < 2 ^ a 0 := Nat.xor_lt_two_pow x7 (shl_lt ho)
    have fin : INV (am_si (am_si (am_si (am_si mi 12 6 (nI (a 6 ^^^ 1 <<< o))) 0 0 (nI 0)) 107 6 (nI (a 6 ^^^ 1 <<< o))) 106 2 (nI 0)) ml := INV_u hI hB (Or.inr (Or.inr (Or.inr (Or.inl ⟨rfl, hlt⟩)))) (by omega) (by omega) (by omega) (CB_shown hC _)
    have t7 : ∀ i, am_si (am_si mi 12 6 (nI (a 6 ^^^ 1 <<< o))) 0 0 (nI 0) 107 i = mi 107 i := fun _ => rfl
    have g : ∀ i x, am_si mi 0 0 x 107 i = mi 107 i := fun _ _ => rfl
    have no : K (some (.int (nI 0))) (S0, am_si mi 0 0 (nI 7), ml) ∨ True := Or.inr trivial
    rcases hv with rfl | rfl <;> cases hb : (a 6).testBit o
    · refine br_t rfl (br_f (fun q => q rfl) ?_)
      refine hk _ _ _ (fun Km hm => ?_)
      apply en_X10_show (d := 12)
      simp only [lgc_lt, lgc_ge, lgc_gt, lgc_le, l64_0, l64_1, l64_3, l64_5, l64_9, l64_12, l64_16, l64_20, l64_60, l64_9999, w64_lt, w64_le, s107, s106, s110, s109, e0, e1, f0, f1, c0, c1, c2, c3, c4, c5, c6, c7, m0, m1, m6, m7]
      rw [hb6, hx, hb]
      exact rng_ok (by omega) ho (br_t (by trivial) (br_f (fun q => q rfl) (hm _ _ (INV_cm hI fr0_rfl fr0_rfl))))
    · refine br_f (by decide) (br_t (by decide) ?_)
      refine hk _ _ _ (fun Km hm => ?_)
      apply en_X10_show (d := 12)
      simp only [t7]
      simp only [lgc_lt, lgc_ge, lgc_gt, lgc_le, l64_0, l64_1, l64_3, l64_5, l64_9, l64_12, l64_16, l64_20, l64_60, l64_9999, w64_lt, w64_le, s107, s106, s110, s109, e0, e1, f0, f1, c0, c1, c2, c3, c4, c5, c6, c7, m0, m1, m6, m7]
      rw [hb6, hx, hb]
      exact rng_ok (by omega) ho (br_t (by trivial) (br_t (by decide) (hm _ _ fin)))
    · refine br_t rfl (br_t (by decide) ?_)
      refine hk _ _ _ (fun Km hm => ?_)
      apply en_X10_show (d := 12)
      simp only [t7]
      simp only [lgc_lt, lgc_ge, lgc_gt, lgc_le, l64_0, l64_1, l64_3, l64_5, l64_9, l64_12, l64_16, l64_20, l64_60, l64_9999, w64_lt, w64_le, s107, s106, s110, s109, e0, e1, f0, f1, c0, c1, c2, c3, c4, c5, c6, c7, m0, m1, m6, m7]
      rw [hb6, hx, hb]
      exact rng_ok (by omega) ho (br_f (by decide) (br_t (by decide) (hm _ _ fin)))
    · refine br_f (by decide) (br_f (fun q => q rfl) ?_)
      refine hk _ _ _ (fun Km hm => ?_)
      apply en_X10_show (d := 12)
      simp only [lgc_lt, lgc_ge, lgc_gt, lgc_le, l64_0, l64_1, l64_3, l64_5, l64_9, l64_12, l64_16, l64_20, l64_60, l64_9999, w64_lt, w64_le, s107, s106, s110, s109, e0, e1, f0, f1, c0, c1, c2, c3, c4, c5, c6, c7, m0, m1, m6, m7]
      rw [hb6, hx, hb]
      exact rng_ok (by omega) ho (br_f (by decide) (br_f (fun q => q rfl) (hm _ _ (INV_cm hI fr0_rfl fr0_rfl))))
  · refine rng_bad (by omega) hu ?_
    refine hk _ _ _ (fun Km hm => ?_)
    apply en_X10_show (d := 12)
    simp only [lgc_lt, lgc_ge, lgc_gt, lgc_le, l64_0, l64_1, l64_3, l64_5, l64_9, l64_12, l64_16, l64_20, l64_60, l64_9999, w64_lt, w64_le, s107, s106, s110, s109, e0, e1, f0, f1, c0, c1, c2, c3, c4, c5, c6, c7, m0, m1, m6, m7]
    exact rng_bad (by omega) hu (hm _ _ (INV_cm hI fr0_rfl fr0_rfl))
theorem abo_on {a : Nat → Nat} {p : Nat} (hp : p < a 1) : ndif (2 ^ a 1 - 1) (ndif (a 7) (1 <<< p)) = aboA a ||| 1 <<< p := by
  apply Nat.eq_of_testBit_eq; intro i
  rw [tb_dif, tb_dif, tb_all, tb_1shl, Nat.testBit_or, tb_abo, tb_1shl]
  by_cases e : i = p
  · subst e; simp [hp]
  · simp [e]
theorem dif_no {s p : Nat} (h : s.testBit p = false) : ndif s (1 <<< p) = s := by
  apply Nat.eq_of_testBit_eq; intro i
  rw [tb_dif, tb_1shl]
  by_cases e : i = p
  · subst e; simp [h]
  · simp [e]
theorem op_board {E : am_E} {K : am_K} {mi : Nat → Nat → Int32} {ml : Nat → Nat → Int64} (hI : INV mi ml) {u : Int32} (hk : PR 263 [.ref 106, .int u] E K) : cq E 14 134 [.ref 0, .int u] K mi ml := by
  obtain ⟨i1, i2, i3, i4, i5, ⟨a, hB⟩, i7, i8, i9⟩ := id hI
  have hW : WA a := hB.1.1
  have hC : CB 12 a mi := hB.2.1
  have hM : MA a mi := MS_0.mp hB.2.2.1
  have hMi := hM
  unfold MA at hMi
  obtain ⟨⟨x0, x1, x2, x3, x4, x5, x6, x7, x8⟩, y, z⟩ := id hW
  have w := WA_p2 hW
  have hp0 := p2_pos (a 0)
  have hp1 := p2_pos (a 1)
  obtain ⟨⟨c0, c1, c2, c3, c4, c5, c6, c7⟩, cp, ch, ct, cx, cs⟩ := CB12 hC
  have e0 : nI 1 <<< ms (nI (a 0)) = nI (2 ^ a 0) := by rw [ni_shl (by omega), Nat.one_shiftLeft]
  have e1 : nI 1 <<< ms (nI (a 1)) = nI (2 ^ a 1) := by rw [ni_shl (by omega), Nat.one_shiftLeft]
  have f0 : nI (2 ^ a 0) - nI 1 = nI (2 ^ a 0 - 1) := ni_sub hp0
  have f1 : nI (2 ^ a 1) - nI 1 = nI (2 ^ a 1 - 1) := ni_sub hp1
  have m0 : mi 107 0 = nI (a 0) := hM 0 (by omega) (by omega)
  have m1 : mi 107 1 = nI (a 1) := hM 1 (by omega) (by omega)
  have m6 : mi 107 6 = nI (a 6) := hM 6 (by omega) (by omega)
  have m7 : mi 107 7 = nI (a 7) := hM 7 (by omega) (by omega)
  apply en_X9_board (d := 11)
  simp only [lgc_lt, lgc_ge, lgc_gt, lgc_le, l64_0, l64_1, l64_3, l64_5, l64_9, l64_12, l64_16, l64_20, l64_60, l64_9999, w64_lt, w64_le, s107, s106, s110, s109, e0, e1, f0, f1, c0, c1, c2, c3, c4, c5, c6, c7, m0, m1, m6, m7]
  by_cases hu : ∃ p, p < a 1 ∧ u = nI p
  · obtain ⟨p, hp, rfl⟩ := hu
    refine rng_ok (by omega) hp ?_
    have hab := abo_lt hW
    have hb7 : (nI (aboA a) >>> ms (nI p)) &&& nI 1 = nI (b01 (!(a 7).testBit p)) := by
      rw [ni_bit (by omega) (by omega), tb_abo]; simp [hp]
    have h77 : (nI (a 7) >>> ms (nI p)) &&& nI 1 = nI (b01 ((a 7).testBit p)) := ni_bit (by omega) (by omega)
    have hx : nI (aboA a) ||| (nI 1 <<< ms (nI p)) = nI (aboA a ||| 1 <<< p) := by rw [ni_shl (by omega), ni_or]
    have hy : nI (a 7) &&& ((nI 1 <<< ms (nI p)) ^^^ nM) = nI (ndif (a 7) (1 <<< p)) := by rw [ni_shl (by omega), ni_dif]
    rw [hb7, hx, si_t ⟨rfl, rfl⟩]
    cases hb : (a 7).testBit p
    · refine br_f (by decide) ?_
      refine hk _ _ _ (fun Km hm => ?_)
      apply en_X10_board (d := 10)
      simp only [lgc_lt, lgc_ge, lgc_gt, lgc_le, l64_0, l64_1, l64_3, l64_5, l64_9, l64_12, l64_16, l64_20, l64_60, l64_9999, w64_lt, w64_le, s107, s106, s110, s109, e0, e1, f0, f1, c0, c1, c2, c3, c4, c5, c6, c7, m0, m1, m6, m7]
      rw [h77, hy, hb, dif_no hb]
      refine rng_ok (by omega) hp (br_t (by decide) (hm _ _ (INV_cm hI fr0_rfl (fun k j q => ?_))))
      by_cases e : k = 107 ∧ j = 7
      · rw [si_t e, e.1, e.2, s107, m7]
      · rw [si_f e]
    · refine br_t (by decide) ?_
      refine hk _ _ _ (fun Km hm => ?_)
      have t7 : ∀ i, am_si (am_si mi 12 7 (nI (aboA a ||| 1 <<< p))) 0 0 (nI 0) 107 i = mi 107 i := fun _ => rfl
      have hlt : ndif (a 7) (1 <<< p) < 2 ^ a 1 := dif_lt x8
      have hc : UPC a 7 (ndif (a 7) (1 <<< p)) := Or.inr (Or.inr (Or.inr (Or.inr (Or.inl ⟨rfl, hlt⟩))))
      have ea : aboA (up1 a 7 (ndif (a 7) (1 <<< p))) = aboA a ||| 1 <<< p := abo_on hp
      have hor : aboA a ||| 1 <<< p < 2 ^ a 1 := Nat.or_lt_two_pow (abo_lt2 a) (shl_lt hp)
      apply en_X10_board (d := 10)
      simp only [t7]
      simp only [lgc_lt, lgc_ge, lgc_gt, lgc_le, l64_0, l64_1, l64_3, l64_5, l64_9, l64_12, l64_16, l64_20, l64_60, l64_9999, w64_lt, w64_le, s107, s106, s110, s109, e0, e1, f0, f1, c0, c1, c2, c3, c4, c5, c6, c7, m0, m1, m6, m7]
      rw [h77, hy, hb]
      refine rng_ok (by omega) hp (br_f (fun q => q rfl) ?_)
      apply s_aboardM (a := up1 a 7 (ndif (a 7) (1 <<< p))) (MA_up (mi := am_si (am_si mi 12 7 (nI (aboA a ||| 1 <<< p))) 0 0 (nI 0)) (fun k h1 h2 => hM k h1 h2) 7 _) (WA_up hW hc)
      apply rg_X10_board_27
      rw [ea]
      apply s_bits (by omega)
      apply rg_X10_board_30
      rw [← bc_pc (by omega)]
      refine hm _ _ (INV_u hI hB hc (by omega) (by omega) (by omega) ?_)
      have := CB_out hC (ndif (a 7) (1 <<< p))
      rw [abo_on hp] at this
      exact this
  · refine rng_bad (by omega) hu ?_
    refine hk _ _ _ (fun Km hm => ?_)
    apply en_X10_board (d := 10)
    simp only [lgc_lt, lgc_ge, lgc_gt, lgc_le, l64_0, l64_1, l64_3, l64_5, l64_9, l64_12, l64_16, l64_20, l64_60, l64_9999, w64_lt, w64_le, s107, s106, s110, s109, e0, e1, f0, f1, c0, c1, c2, c3, c4, c5, c6, c7, m0, m1, m6, m7]
    exact rng_bad (by omega) hu (hm _ _ (INV_cm hI fr0_rfl fr0_rfl))
theorem op_sway {E : am_E} {K : am_K} {mi : Nat → Nat → Int32} {ml : Nat → Nat → Int64} (hI : INV mi ml) {u v : Int32} (hk : PR 265 [.ref 106, .int u, .int v] E K) : cq E 14 135 [.ref 0, .int u, .int v] K mi ml := by
  obtain ⟨i1, i2, i3, i4, i5, ⟨a, hB⟩, i7, i8, i9⟩ := id hI
  have hW : WA a := hB.1.1
  have hC : CB 12 a mi := hB.2.1
  have hM : MA a mi := MS_0.mp hB.2.2.1
  have hMi := hM
  unfold MA at hMi
  obtain ⟨⟨x0, x1, x2, x3, x4, x5, x6, x7, x8⟩, y, z⟩ := id hW
  have w := WA_p2 hW
  have hp0 := p2_pos (a 0)
  have hp1 := p2_pos (a 1)
  obtain ⟨⟨c0, c1, c2, c3, c4, c5, c6, c7⟩, cp, ch, ct, cx, cs⟩ := CB12 hC
  have e0 : nI 1 <<< ms (nI (a 0)) = nI (2 ^ a 0) := by rw [ni_shl (by omega), Nat.one_shiftLeft]
  have e1 : nI 1 <<< ms (nI (a 1)) = nI (2 ^ a 1) := by rw [ni_shl (by omega), Nat.one_shiftLeft]
  have f0 : nI (2 ^ a 0) - nI 1 = nI (2 ^ a 0 - 1) := ni_sub hp0
  have f1 : nI (2 ^ a 1) - nI 1 = nI (2 ^ a 1 - 1) := ni_sub hp1
  have m0 : mi 107 0 = nI (a 0) := hM 0 (by omega) (by omega)
  have m1 : mi 107 1 = nI (a 1) := hM 1 (by omega) (by omega)
  have m6 : mi 107 6 = nI (a 6) := hM 6 (by omega) (by omega)
  have m7 : mi 107 7 = nI (a 7) := hM 7 (by omega) (by omega)
  apply en_X9_sway (d := 12)
  simp only [lgc_lt, lgc_ge, lgc_gt, lgc_le, l64_0, l64_1, l64_3, l64_5, l64_9, l64_12, l64_16, l64_20, l64_60, l64_9999, w64_lt, w64_le, s107, s106, s110, s109, e0, e1, f0, f1, c0, c1, c2, c3, c4, c5, c6, c7, m0, m1, m6, m7]
  by_cases hu : ∃ p, p < a 1 ∧ u = nI p
  · obtain ⟨p, hp, rfl⟩ := hu
    refine rng_ok (by omega) hp ?_
    by_cases hv : ∃ h, h < 10 ∧ v = nI h
    · obtain ⟨h, hh, rfl⟩ := hv
      refine rng_ok2 (n := 10) (by omega) hh ⟨by rw [ni_in (by omega)]; omega, ?_⟩
      rw [ni_cl (by omega)]
      refine hk _ _ _ (fun Km hm => ?_)
      have t7 : ∀ i, am_si (am_si mi 15 p (nI h)) 0 0 (nI 0) 107 i = mi 107 i := fun _ => rfl
      apply en_X10_sway (d := 10)
      simp only [t7]
      simp only [lgc_lt, lgc_ge, lgc_gt, lgc_le, l64_0, l64_1, l64_3, l64_5, l64_9, l64_12, l64_16, l64_20, l64_60, l64_9999, w64_lt, w64_le, s107, s106, s110, s109, e0, e1, f0, f1, c0, c1, c2, c3, c4, c5, c6, c7, m0, m1, m6, m7]
      refine rng_ok (by omega) hp (rng_ok2 (n := 10) (by omega) hh ?_)
      have e1 : nI 16 + nI 4 * nI p = nI (16 + 4 * p) := by rw [ni_mul, nI_add]
      have e2 : nI (16 + 4 * p) + nI 0 = nI (16 + 4 * p) := nI_add _ _
      rw [e1, e2, ni_cl (by omega)]
      have hin : vp_in (nI (16 + 4 * p)) 2592 := by rw [ni_in (by omega)]; omega
      have fin := hm _ _ (INV_u hI hB (k := 16 + 4 * p) (v := h) (c := 15) (j := p) (x := nI h) (s := nI 0) (Or.inr (Or.inr (Or.inr (Or.inr (Or.inr (Or.inr ⟨p, hp, Or.inl ⟨rfl, by omega⟩⟩)))))) (by omega) (by omega) (by omega) (CB_pers x0 hC p 0 h _ (Or.inl rfl) rfl))
      exact ⟨hin, fun _ => ⟨hin, fin⟩, fun _ => ⟨hin, fin⟩⟩
    · refine rng_bd2 (n := 10) (by omega) (by omega) hv ?_
      refine hk _ _ _ (fun Km hm => ?_)
      apply en_X10_sway (d := 10)
      simp only [lgc_lt, lgc_ge, lgc_gt, lgc_le, l64_0, l64_1, l64_3, l64_5, l64_9, l64_12, l64_16, l64_20, l64_60, l64_9999, w64_lt, w64_le, s107, s106, s110, s109, e0, e1, f0, f1, c0, c1, c2, c3, c4, c5, c6, c7, m0, m1, m6, m7]
      exact rng_ok (by omega) hp (rng_bd2 (n := 10) (by omega) (by omega) hv (hm _ _ (INV_cm hI fr0_rfl fr0_rfl)))
  · refine rng_bad (by omega) hu ?_
    refine hk _ _ _ (fun Km hm => ?_)
    apply en_X10_sway (d := 10)
    simp only [lgc_lt, lgc_ge, lgc_gt, lgc_le, l64_0, l64_1, l64_3, l64_5, l64_9, l64_12, l64_16, l64_20, l64_60, l64_9999, w64_lt, w64_le, s107, s106, s110, s109, e0, e1, f0, f1, c0, c1, c2, c3, c4, c5, c6, c7, m0, m1, m6, m7]
    exact rng_bad (by omega) hu (hm _ _ (INV_cm hI fr0_rfl fr0_rfl))
theorem op_paint {E : am_E} {K : am_K} {mi : Nat → Nat → Int32} {ml : Nat → Nat → Int64} (hI : INV mi ml) {u v : Int32} (hk : PR 268 [.ref 106, .int u, .int v] E K) : cq E 14 138 [.ref 0, .int u, .int v] K mi ml := by
  obtain ⟨i1, i2, i3, i4, i5, ⟨a, hB⟩, i7, i8, i9⟩ := id hI
  have hW : WA a := hB.1.1
  have hC : CB 12 a mi := hB.2.1
  have hM : MA a mi := MS_0.mp hB.2.2.1
  have hMi := hM
  unfold MA at hMi
  obtain ⟨⟨x0, x1, x2, x3, x4, x5, x6, x7, x8⟩, y, z⟩ := id hW
  have w := WA_p2 hW
  have hp0 := p2_pos (a 0)
  have hp1 := p2_pos (a 1)
  obtain ⟨⟨c0, c1, c2, c3, c4, c5, c6, c7⟩, cp, ch, ct, cx, cs⟩ := CB12 hC
  have e0 : nI 1 <<< ms (nI (a 0)) = nI (2 ^ a 0) := by rw [ni_shl (by omega), Nat.one_shiftLeft]
  have e1 : nI 1 <<< ms (nI (a 1)) = nI (2 ^ a 1) := by rw [ni_shl (by omega), Nat.one_shiftLeft]
  have f0 : nI (2 ^ a 0) - nI 1 = nI (2 ^ a 0 - 1) := ni_sub hp0
  have f1 : nI (2 ^ a 1) - nI 1 = nI (2 ^ a 1 - 1) := ni_sub hp1
  have m0 : mi 107 0 = nI (a 0) := hM 0 (by omega) (by omega)
  have m1 : mi 107 1 = nI (a 1) := hM 1 (by omega) (by omega)
  have m6 : mi 107 6 = nI (a 6) := hM 6 (by omega) (by omega)
  have m7 : mi 107 7 = nI (a 7) := hM 7 (by omega) (by omega)
  apply en_X9_paint (d := 12)
  simp only [lgc_lt, lgc_ge, lgc_gt, lgc_le, l64_0, l64_1, l64_3, l64_5, l64_9, l64_12, l64_16, l64_20, l64_60, l64_9999, w64_lt, w64_le, s107, s106, s110, s109, e0, e1, f0, f1, c0, c1, c2, c3, c4, c5, c6, c7, m0, m1, m6, m7]
  by_cases hu : ∃ p, p < a 0 ∧ u = nI p
  · obtain ⟨p, hp, rfl⟩ := hu
    refine rng_ok (by omega) hp ?_
    by_cases hv : ∃ h, 1 ≤ h ∧ h ≤ 5 ∧ v = nI h
    · obtain ⟨h, hh, hh2, rfl⟩ := hv
      refine rngm_ok (m := 1) (n := 5) (by omega) hh hh2 ⟨by rw [ni_in (by omega)]; omega, ?_⟩
      rw [ni_cl (by omega)]
      refine hk _ _ _ (fun Km hm => ?_)
      have t7 : ∀ i, am_si (am_si mi 13 p (nI h)) 0 0 (nI 0) 107 i = mi 107 i := fun _ => rfl
      apply en_X10_paint (d := 12)
      simp only [t7]
      simp only [lgc_lt, lgc_ge, lgc_gt, lgc_le, l64_0, l64_1, l64_3, l64_5, l64_9, l64_12, l64_16, l64_20, l64_60, l64_9999, w64_lt, w64_le, s107, s106, s110, s109, e0, e1, f0, f1, c0, c1, c2, c3, c4, c5, c6, c7, m0, m1, m6, m7]
      refine rng_ok (by omega) hp (rngm_ok (m := 1) (n := 5) (by omega) hh hh2 ?_)
      rw [nI_add, ni_cl (by omega)]
      refine ⟨by rw [ni_in (by omega)]; omega, ?_⟩
      exact hm _ _ (INV_u hI hB (k := 10 + p) (v := h) (c := 13) (j := p) (x := nI h) (s := nI 0) (Or.inr (Or.inr (Or.inr (Or.inr (Or.inr (Or.inl ⟨p, hp, rfl, hh, hh2⟩)))))) (by omega) (by omega) (by omega) (CB_pull hC p h (by omega)))
    · refine rngm_bad (m := 1) (n := 5) (by omega) (by omega) hv ?_
      refine hk _ _ _ (fun Km hm => ?_)
      apply en_X10_paint (d := 12)
      simp only [lgc_lt, lgc_ge, lgc_gt, lgc_le, l64_0, l64_1, l64_3, l64_5, l64_9, l64_12, l64_16, l64_20, l64_60, l64_9999, w64_lt, w64_le, s107, s106, s110, s109, e0, e1, f0, f1, c0, c1, c2, c3, c4, c5, c6, c7, m0, m1, m6, m7]
      exact rng_ok (by omega) hp (rngm_bad (m := 1) (n := 5) (by omega) (by omega) hv (hm _ _ (INV_cm hI fr0_rfl fr0_rfl)))
  · refine rng_bad (by omega) hu ?_
    refine hk _ _ _ (fun Km hm => ?_)
    apply en_X10_paint (d := 12)
    simp only [lgc_lt, lgc_ge, lgc_gt, lgc_le, l64_0, l64_1, l64_3, l64_5, l64_9, l64_12, l64_16, l64_20, l64_60, l64_9999, w64_lt, w64_le, s107, s106, s110, s109, e0, e1, f0, f1, c0, c1, c2, c3, c4, c5, c6, c7, m0, m1, m6, m7]
    exact rng_bad (by omega) hu (hm _ _ (INV_cm hI fr0_rfl fr0_rfl))
theorem op_excuse {E : am_E} {K : am_K} {mi : Nat → Nat → Int32} {ml : Nat → Nat → Int64} (hI : INV mi ml) {u o9 v : Int32} (hv : v = nI 0 ∨ v = nI 1) (hk : PR 266 [.ref 106, .int u, .int o9, .int v] E K) : cq E 14 136 [.ref 0, .int u, .int o9, .int v] K mi ml := by
  obtain ⟨i1, i2, i3, i4, i5, ⟨a, hB⟩, i7, i8, i9⟩ := id hI
  have hW : WA a := hB.1.1
  have hC : CB 12 a mi := hB.2.1
  have hM : MA a mi := MS_0.mp hB.2.2.1
  have hMi := hM
  unfold MA at hMi
  obtain ⟨⟨x0, x1, x2, x3, x4, x5, x6, x7, x8⟩, y, z⟩ := id hW
  have w := WA_p2 hW
  have hp0 := p2_pos (a 0)
  have hp1 := p2_pos (a 1)
  obtain ⟨⟨c0, c1, c2, c3, c4, c5, c6, c7⟩, cp, ch, ct, cx, cs⟩ := CB12 hC
  have e0 : nI 1 <<< ms (nI (a 0)) = nI (2 ^ a 0) := by rw [ni_shl (by omega), Nat.one_shiftLeft]
  have e1 : nI 1 <<< ms (nI (a 1)) = nI (2 ^ a 1) := by rw [ni_shl (by omega), Nat.one_shiftLeft]
  have f0 : nI (2 ^ a 0) - nI 1 = nI (2 ^ a 0 - 1) := ni_sub hp0
  have f1 : nI (2 ^ a 1) - nI 1 = nI (2 ^ a 1 - 1) := ni_sub hp1
  have m0 : mi 107 0 = nI (a 0) := hM 0 (by omega) (by omega)
  have m1 : mi 107 1 = nI (a 1) := hM 1 (by omega) (by omega)
  have m6 : mi 107 6 = nI (a 6) := hM 6 (by omega) (by omega)
  have m7 : mi 107 7 = nI (a 7) := hM 7 (by omega) (by omega)
  apply en_X9_excuse (d := 12)
  simp only [lgc_lt, lgc_ge, lgc_gt, lgc_le, l64_0, l64_1, l64_3, l64_5, l64_9, l64_12, l64_16, l64_20, l64_60, l64_9999, w64_lt, w64_le, s107, s106, s110, s109, e0, e1, f0, f1, c0, c1, c2, c3, c4, c5, c6, c7, m0, m1, m6, m7]
  by_cases hu : ∃ p, p < a 1 ∧ u = nI p
  · obtain ⟨p, hp, rfl⟩ := hu
    refine rng_ok (by omega) hp ?_
    by_cases ho9 : ∃ p, p < a 0 ∧ o9 = nI p
    · obtain ⟨o, ho, rfl⟩ := ho9
      have hcl : Int32.toNatClampNeg (nI p) = p := ni_cl (by omega)
      have hin : vp_in (nI p) 8 := by rw [ni_in (by omega)]; omega
      refine rng_ok (by omega) ho ⟨hin, ?_⟩
      have he := (z p hp).2.2.1
      have hmx : mi 107 (16 + 4 * p + 2) = nI (a (16 + 4 * p + 2)) := hM _ (by omega) (by omega)
      have hx : nI (a (16 + 4 * p + 2)) ^^^ (nI 1 <<< ms (nI o)) = nI (a (16 + 4 * p + 2) ^^^ 1 <<< o) := by rw [ni_shl (by omega), ni_xor]
      have hlt : a (16 + 4 * p + 2) ^^^ 1 <<< o < 2 ^ a 0 := Nat.xor_lt_two_pow he (shl_lt ho)
      have hb1 : (nI (a (16 + 4 * p + 2) ^^^ 1 <<< o) >>> ms (nI o)) &&& nI 1 = nI (b01 (!(a (16 + 4 * p + 2)).testBit o)) := by
        rw [ni_bit (by omega) (by omega), tb_flip_o]
      have hb2 : (nI (a (16 + 4 * p + 2)) >>> ms (nI o)) &&& nI 1 = nI (b01 ((a (16 + 4 * p + 2)).testBit o)) := ni_bit (by omega) (by omega)
      rw [hcl, cx p hp, hx, hb1]
      have fin : INV (am_si (am_si (am_si (am_si mi 17 p (nI (a (16 + 4 * p + 2) ^^^ 1 <<< o))) 0 0 (nI 0)) 107 (16 + 4 * p + 2) (nI (a (16 + 4 * p + 2) ^^^ 1 <<< o))) 106 2 (nI 0)) ml := INV_u hI hB (Or.inr (Or.inr (Or.inr (Or.inr (Or.inr (Or.inr ⟨p, hp, Or.inr (Or.inl ⟨rfl, hlt⟩)⟩)))))) (by omega) (by omega) (by omega) (CB_pers x0 hC p 2 _ _ (Or.inr (Or.inl rfl)) rfl)
      have t7 : ∀ i, am_si (am_si mi 17 p (nI (a (16 + 4 * p + 2) ^^^ 1 <<< o))) 0 0 (nI 0) 107 i = mi 107 i := fun _ => rfl
      have e3 : nI 16 + nI 4 * nI p + nI 2 = nI (16 + 4 * p + 2) := by rw [ni_mul, nI_add, nI_add]
      have hcl2 : Int32.toNatClampNeg (nI (16 + 4 * p + 2)) = 16 + 4 * p + 2 := ni_cl (by omega)
      have hin2 : vp_in (nI (16 + 4 * p + 2)) 2592 := by rw [ni_in (by omega)]; omega
      rcases hv with rfl | rfl <;> cases hb : (a (16 + 4 * p + 2)).testBit o
      · refine br_f (by decide) (br_f (by decide) ?_)
        refine hk _ _ _ (fun Km hm => ?_)
        apply en_X10_excuse (d := 11)
        simp only [e3, hcl2]
        simp only [lgc_lt, lgc_ge, lgc_gt, lgc_le, l64_0, l64_1, l64_3, l64_5, l64_9, l64_12, l64_16, l64_20, l64_60, l64_9999, w64_lt, w64_le, s107, s106, s110, s109, e0, e1, f0, f1, c0, c1, c2, c3, c4, c5, c6, c7, m0, m1, m6, m7]
        rw [hmx, hb2, hb]
        exact rng_ok (by omega) hp (rng_ok (by omega) ho ⟨hin2, br_t (by decide) (br_f (fun q => q (by trivial)) (hm _ _ (INV_cm hI fr0_rfl fr0_rfl)))⟩)
      · refine br_t rfl (br_t rfl ⟨hin, ?_⟩)
        refine hk _ _ _ (fun Km hm => ?_)
        apply en_X10_excuse (d := 11)
        simp only [e3, hcl2, t7]
        simp only [lgc_lt, lgc_ge, lgc_gt, lgc_le, l64_0, l64_1, l64_3, l64_5, l64_9, l64_12, l64_16, l64_20, l64_60, l64_9999, w64_lt, w64_le, s107, s106, s110, s109, e0, e1, f0, f1, c0, c1, c2, c3, c4, c5, c6, c7, m0, m1, m6, m7]
        rw [hmx, hb2, hb, hx]
        exact rng_ok (by omega) hp (rng_ok (by omega) ho ⟨hin2, br_f (fun q => q (by trivial)) (br_t (by decide) ⟨hin2, hin2, hm _ _ fin⟩)⟩)
      · refine br_f (by decide) (br_t rfl ⟨hin, ?_⟩)
        refine hk _ _ _ (fun Km hm => ?_)
        apply en_X10_excuse (d := 11)
        simp only [e3, hcl2, t7]
        simp only [lgc_lt, lgc_ge, lgc_gt, lgc_le, l64_0, l64_1, l64_3, l64_5, l64_9, l64_12, l64_16, l64_20, l64_60, l64_9999, w64_lt, w64_le, s107, s106, s110, s109, e0, e1, f0, f1, c0, c1, c2, c3, c4, c5, c6, c7, m0, m1, m6, m7]
        rw [hmx, hb2, hb, hx]
        exact rng_ok (by omega) hp (rng_ok (by omega) ho ⟨hin2, br_t (by decide) (br_t (by decide) ⟨hin2, hin2, hm _ _ fin⟩)⟩)
      · refine br_t rfl (br_f (by decide) ?_)
        refine hk _ _ _ (fun Km hm => ?_)
        apply en_X10_excuse (d := 11)
        simp only [e3, hcl2]
        simp only [lgc_lt, lgc_ge, lgc_gt, lgc_le, l64_0, l64_1, l64_3, l64_5, l64_9, l64_12, l64_16, l64_20, l64_60, l64_9999, w64_lt, w64_le, s107, s106, s110, s109, e0, e1, f0, f1, c0, c1, c2, c3, c4, c5, c6, c7, m0, m1, m6, m7]
        rw [hmx, hb2, hb]
        exact rng_ok (by omega) hp (rng_ok (by omega) ho ⟨hin2, br_f (fun q => q (by trivial)) (br_f (fun q => q (by trivial)) (hm _ _ (INV_cm hI fr0_rfl fr0_rfl)))⟩)
    · refine rng_bad (by omega) ho9 ?_
      refine hk _ _ _ (fun Km hm => ?_)
      apply en_X10_excuse (d := 11)
      simp only [lgc_lt, lgc_ge, lgc_gt, lgc_le, l64_0, l64_1, l64_3, l64_5, l64_9, l64_12, l64_16, l64_20, l64_60, l64_9999, w64_lt, w64_le, s107, s106, s110, s109, e0, e1, f0, f1, c0, c1, c2, c3, c4, c5, c6, c7, m0, m1, m6, m7]
      exact rng_ok (by omega) hp (rng_bad (by omega) ho9 (hm _ _ (INV_cm hI fr0_rfl fr0_rfl)))
  · refine rng_bad (by omega) hu ?_
    refine hk _ _ _ (fun Km hm => ?_)
    apply en_X10_excuse (d := 11)
    simp only [lgc_lt, lgc_ge, lgc_gt, lgc_le, l64_0, l64_1, l64_3, l64_5, l64_9, l64_12, l64_16, l64_20, l64_60, l64_9999, w64_lt, w64_le, s107, s106, s110, s109, e0, e1, f0, f1, c0, c1, c2, c3, c4, c5, c6, c7, m0, m1, m6, m7]
    exact rng_bad (by omega) hu (hm _ _ (INV_cm hI fr0_rfl fr0_rfl))
theorem sees_fl {a : Nat → Nat} {p q : Nat} (hq : q < a 1) (hpq : ¬ p = q) : seesA a p ^^^ 1 <<< q = ndif (ndif (2 ^ a 1 - 1) (a (16 + 4 * p + 3) ^^^ 1 <<< q)) (1 <<< p) := by
  apply Nat.eq_of_testBit_eq; intro i
  rw [tb_flip, tb_sees, tb_dif, tb_dif, tb_all, tb_flip, tb_1shl]
  by_cases e : i = q
  · subst e
    have : ¬ i = p := fun z => hpq z.symm
    simp [hq, this]
  · simp [e]
theorem op_see {E : am_E} {K : am_K} {mi : Nat → Nat → Int32} {ml : Nat → Nat → Int64} (hI : INV mi ml) {u o9 v : Int32} (hv : v = nI 0 ∨ v = nI 1) (hk : PR 267 [.ref 106, .int u, .int o9, .int v] E K) : cq E 14 137 [.ref 0, .int u, .int o9, .int v] K mi ml := by
  obtain ⟨i1, i2, i3, i4, i5, ⟨a, hB⟩, i7, i8, i9⟩ := id hI
  have hW : WA a := hB.1.1
  have hC : CB 12 a mi := hB.2.1
  have hM : MA a mi := MS_0.mp hB.2.2.1
  have hMi := hM
  unfold MA at hMi
  obtain ⟨⟨x0, x1, x2, x3, x4, x5, x6, x7, x8⟩, y, z⟩ := id hW
  have w := WA_p2 hW
  have hp0 := p2_pos (a 0)
  have hp1 := p2_pos (a 1)
  obtain ⟨⟨c0, c1, c2, c3, c4, c5, c6, c7⟩, cp, ch, ct, cx, cs⟩ := CB12 hC
  have e0 : nI 1 <<< ms (nI (a 0)) = nI (2 ^ a 0) := by rw [ni_shl (by omega), Nat.one_shiftLeft]
  have e1 : nI 1 <<< ms (nI (a 1)) = nI (2 ^ a 1) := by rw [ni_shl (by omega), Nat.one_shiftLeft]
  have f0 : nI (2 ^ a 0) - nI 1 = nI (2 ^ a 0 - 1) := ni_sub hp0
  have f1 : nI (2 ^ a 1) - nI 1 = nI (2 ^ a 1 - 1) := ni_sub hp1
  have m0 : mi 107 0 = nI (a 0) := hM 0 (by omega) (by omega)
  have m1 : mi 107 1 = nI (a 1) := hM 1 (by omega) (by omega)
  have m6 : mi 107 6 = nI (a 6) := hM 6 (by omega) (by omega)
  have m7 : mi 107 7 = nI (a 7) := hM 7 (by omega) (by omega)
  apply en_X9_see (d := 12)
  simp only [lgc_lt, lgc_ge, lgc_gt, lgc_le, l64_0, l64_1, l64_3, l64_5, l64_9, l64_12, l64_16, l64_20, l64_60, l64_9999, w64_lt, w64_le, s107, s106, s110, s109, e0, e1, f0, f1, c0, c1, c2, c3, c4, c5, c6, c7, m0, m1, m6, m7]
  by_cases hu : ∃ p, p < a 1 ∧ u = nI p
  · obtain ⟨p, hp, rfl⟩ := hu
    refine rng_ok (by omega) hp ?_
    by_cases ho9 : ∃ p, p < a 1 ∧ o9 = nI p
    · obtain ⟨o, ho, rfl⟩ := ho9
      refine rng_ok (by omega) ho ?_
      rw [ni_eq (by omega) (by omega)]
      by_cases hpo : p = o
      · refine br_f (fun q => q hpo) ?_
        refine hk _ _ _ (fun Km hm => ?_)
        apply en_X10_see (d := 10)
        simp only [lgc_lt, lgc_ge, lgc_gt, lgc_le, l64_0, l64_1, l64_3, l64_5, l64_9, l64_12, l64_16, l64_20, l64_60, l64_9999, w64_lt, w64_le, s107, s106, s110, s109, e0, e1, f0, f1, c0, c1, c2, c3, c4, c5, c6, c7, m0, m1, m6, m7]
        rw [ni_eq (by omega) (by omega)]
        exact rng_ok (by omega) hp (rng_ok (by omega) ho (br_f (fun q => q hpo) (hm _ _ (INV_cm hI fr0_rfl fr0_rfl))))
      have hcl : Int32.toNatClampNeg (nI p) = p := ni_cl (by omega)
      have hin : vp_in (nI p) 8 := by rw [ni_in (by omega)]; omega
      refine br_t hpo ⟨hin, ?_⟩
      obtain ⟨-, -, -, he, hep⟩ := z p hp
      have hmx : mi 107 (16 + 4 * p + 3) = nI (a (16 + 4 * p + 3)) := hM _ (by omega) (by omega)
      have hx : nI (seesA a p) ^^^ (nI 1 <<< ms (nI o)) = nI (seesA a p ^^^ 1 <<< o) := by rw [ni_shl (by omega), ni_xor]
      have hx2 : nI (a (16 + 4 * p + 3)) ^^^ (nI 1 <<< ms (nI o)) = nI (a (16 + 4 * p + 3) ^^^ 1 <<< o) := by rw [ni_shl (by omega), ni_xor]
      have hsl : seesA a p < 2 ^ a 1 := dif_lt (dif_lt (all_lt _))
      have hlt : a (16 + 4 * p + 3) ^^^ 1 <<< o < 2 ^ a 1 := Nat.xor_lt_two_pow he (shl_lt ho)
      have hlt2 : seesA a p ^^^ 1 <<< o < 2 ^ a 1 := Nat.xor_lt_two_pow hsl (shl_lt ho)
      have hb1 : (nI (seesA a p ^^^ 1 <<< o) >>> ms (nI o)) &&& nI 1 = nI (b01 (!(seesA a p).testBit o)) := by
        rw [ni_bit (by omega) (by omega), tb_flip_o]
      have hb2 : (nI (seesA a p) >>> ms (nI o)) &&& nI 1 = nI (b01 ((seesA a p).testBit o)) := ni_bit (by omega) (by omega)
      have hbp : (a (16 + 4 * p + 3) ^^^ 1 <<< o).testBit p = false := by
        rw [tb_flip, hep]; simp [hpo]
      rw [hcl, cs p hp, hx, hb1]
      have fin : INV (am_si (am_si (am_si (am_si mi 18 p (nI (seesA a p ^^^ 1 <<< o))) 0 0 (nI 0)) 107 (16 + 4 * p + 3) (nI (a (16 + 4 * p + 3) ^^^ 1 <<< o))) 106 2 (nI 0)) ml := INV_u hI hB (Or.inr (Or.inr (Or.inr (Or.inr (Or.inr (Or.inr ⟨p, hp, Or.inr (Or.inr ⟨rfl, hlt, hbp⟩)⟩)))))) (by omega) (by omega) (by omega) (CB_pers x0 hC p 3 _ _ (Or.inr (Or.inr rfl)) (by rw [if_pos rfl, sees_fl ho hpo]))
      have t7 : ∀ i, am_si (am_si mi 18 p (nI (seesA a p ^^^ 1 <<< o))) 0 0 (nI 0) 107 i = mi 107 i := fun _ => rfl
      have e3 : nI 16 + nI 4 * nI p + nI 3 = nI (16 + 4 * p + 3) := by rw [ni_mul, nI_add, nI_add]
      have hcl2 : Int32.toNatClampNeg (nI (16 + 4 * p + 3)) = 16 + 4 * p + 3 := ni_cl (by omega)
      have hin2 : vp_in (nI (16 + 4 * p + 3)) 2592 := by rw [ni_in (by omega)]; omega
      have MT : MA a (am_si (am_si mi 18 p (nI (seesA a p ^^^ 1 <<< o))) 0 0 (nI 0)) := fun k h1 h2 => hM k h1 h2
      have M0 : MA a (am_si mi 0 0 (nI 7)) := fun k h1 h2 => hM k h1 h2
      rcases hv with rfl | rfl <;> cases hb : (seesA a p).testBit o
      · refine br_f (by decide) (br_f (by decide) ?_)
        refine hk _ _ _ (fun Km hm => ?_)
        apply en_X10_see (d := 10)
        simp only [lgc_lt, lgc_ge, lgc_gt, lgc_le, l64_0, l64_1, l64_3, l64_5, l64_9, l64_12, l64_16, l64_20, l64_60, l64_9999, w64_lt, w64_le, s107, s106, s110, s109, e0, e1, f0, f1, c0, c1, c2, c3, c4, c5, c6, c7, m0, m1, m6, m7]
        rw [ni_eq (by omega) (by omega)]
        refine rng_ok (by omega) hp (rng_ok (by omega) ho (br_t hpo ?_))
        apply s_seenByM M0 hW hp
        apply rg_X10_see_33
        rw [hb2, hb]
        exact br_t (by decide) (br_f (fun q => q rfl) (hm _ _ (INV_cm hI fr0_rfl fr0_rfl)))
      · refine br_t rfl (br_t rfl ⟨hin, ?_⟩)
        refine hk _ _ _ (fun Km hm => ?_)
        apply en_X10_see (d := 10)
        simp only [t7]
        simp only [lgc_lt, lgc_ge, lgc_gt, lgc_le, l64_0, l64_1, l64_3, l64_5, l64_9, l64_12, l64_16, l64_20, l64_60, l64_9999, w64_lt, w64_le, s107, s106, s110, s109, e0, e1, f0, f1, c0, c1, c2, c3, c4, c5, c6, c7, m0, m1, m6, m7]
        rw [ni_eq (by omega) (by omega)]
        refine rng_ok (by omega) hp (rng_ok (by omega) ho (br_t hpo ?_))
        apply s_seenByM MT hW hp
        apply rg_X10_see_33
        simp only [e3, hcl2, t7]
        rw [hb2, hb, hmx, hx2]
        exact br_f (fun q => q rfl) (br_t (by decide) ⟨hin2, hin2, hm _ _ fin⟩)
      · refine br_f (by decide) (br_t rfl ⟨hin, ?_⟩)
        refine hk _ _ _ (fun Km hm => ?_)
        apply en_X10_see (d := 10)
        simp only [t7]
        simp only [lgc_lt, lgc_ge, lgc_gt, lgc_le, l64_0, l64_1, l64_3, l64_5, l64_9, l64_12, l64_16, l64_20, l64_60, l64_9999, w64_lt, w64_le, s107, s106, s110, s109, e0, e1, f0, f1, c0, c1, c2, c3, c4, c5, c6, c7, m0, m1, m6, m7]
        rw [ni_eq (by omega) (by omega)]
        refine rng_ok (by omega) hp (rng_ok (by omega) ho (br_t hpo ?_))
        apply s_seenByM MT hW hp
        apply rg_X10_see_33
        simp only [e3, hcl2, t7]
        rw [hb2, hb, hmx, hx2]
        exact br_t (by decide) (br_t (by decide) ⟨hin2, hin2, hm _ _ fin⟩)
      · refine br_t rfl (br_f (by decide) ?_)
        refine hk _ _ _ (fun Km hm => ?_)
        apply en_X10_see (d := 10)
        simp only [lgc_lt, lgc_ge, lgc_gt, lgc_le, l64_0, l64_1, l64_3, l64_5, l64_9, l64_12, l64_16, l64_20, l64_60, l64_9999, w64_lt, w64_le, s107, s106, s110, s109, e0, e1, f0, f1, c0, c1, c2, c3, c4, c5, c6, c7, m0, m1, m6, m7]
        rw [ni_eq (by omega) (by omega)]
        refine rng_ok (by omega) hp (rng_ok (by omega) ho (br_t hpo ?_))
        apply s_seenByM M0 hW hp
        apply rg_X10_see_33
        rw [hb2, hb]
        exact br_f (fun q => q rfl) (br_f (fun q => q rfl) (hm _ _ (INV_cm hI fr0_rfl fr0_rfl)))
    · refine rng_bad (by omega) ho9 ?_
      refine hk _ _ _ (fun Km hm => ?_)
      apply en_X10_see (d := 10)
      simp only [lgc_lt, lgc_ge, lgc_gt, lgc_le, l64_0, l64_1, l64_3, l64_5, l64_9, l64_12, l64_16, l64_20, l64_60, l64_9999, w64_lt, w64_le, s107, s106, s110, s109, e0, e1, f0, f1, c0, c1, c2, c3, c4, c5, c6, c7, m0, m1, m6, m7]
      exact rng_ok (by omega) hp (rng_bad (by omega) ho9 (hm _ _ (INV_cm hI fr0_rfl fr0_rfl)))
  · refine rng_bad (by omega) hu ?_
    refine hk _ _ _ (fun Km hm => ?_)
    apply en_X10_see (d := 10)
    simp only [lgc_lt, lgc_ge, lgc_gt, lgc_le, l64_0, l64_1, l64_3, l64_5, l64_9, l64_12, l64_16, l64_20, l64_60, l64_9999, w64_lt, w64_le, s107, s106, s110, s109, e0, e1, f0, f1, c0, c1, c2, c3, c4, c5, c6, c7, m0, m1, m6, m7]
    exact rng_bad (by omega) hu (hm _ _ (INV_cm hI fr0_rfl fr0_rfl))
