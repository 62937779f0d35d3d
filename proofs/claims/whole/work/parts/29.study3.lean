/-! Parting omens, lookouts, couples, games. -/
/-- how many of a set of holds rise by an omen -/
def rosN (a : Nat → Nat) (p hs o : Nat) (n : Nat) : Nat := nsum (fun h => b01 (hs.testBit h && decide (needF a h (a (16 + 4 * p + 2)) (1 <<< o) = 0))) n
def parG (a : Nat → Nat) (p hs m o : Nat) : Nat := max (rosN a p hs o 10) (m - rosN a p hs o 10)
def parS (a : Nat → Nat) (p hs m o x : Nat) : Nat := if x = 0 ∨ parG a p hs m o < parG a p hs m (x - 1) then o + 1 else x
theorem shl_lt {o n : Nat} (h : o < n) : 1 <<< o < 2 ^ n := by
  rw [Nat.one_shiftLeft]; exact Nat.pow_lt_pow_right (by omega) h
theorem rosN_le (a : Nat → Nat) (p hs o : Nat) : rosN a p hs o 10 ≤ pc hs := by
  unfold rosN pc
  apply nsum_le
  intro k _
  cases hs.testBit k
  · exact Nat.zero_le _
  · have := b01_lt (true && decide (needF a k (a (16 + 4 * p + 2)) (1 <<< o) = 0))
    show _ ≤ 1
    omega
theorem s_partingOmen {E : am_E} {d : Nat} {K : am_K} {mi : Nat → Nat → Int32} {ml : Nat → Nat → Int64} {a : Nat → Nat} (hC : CB 12 a mi) (hW : WA a) {p hs : Nat} (hp : p < a 1) (hh : hs < 1024) (hk : K (some (.int (nP (foldN (parS a p hs (pc hs)) (a 0) 0)))) (S0, mi, ml)) : cq E (d + 2) 65 [.ref 55, .int (nI p), .int (nI hs), .int (nI (pc hs))] K mi ml := by
  have w0 := hW.1.1
  have w1 := hW.1.2.1
  have w := WA_p2 hW
  have hpc := pc_le hs
  obtain ⟨⟨c0, c1, c2, c3, c4, c5, c6, c7⟩, cp, ch, ct, cx, cs⟩ := CB12 hC
  have key : ∀ i, i ≤ a 0 → rn E (d + 1) 65 K 11 [.ref 55, .int (nI p), .int (nI hs), .int (nI (pc hs)), .int (nP (foldN (parS a p hs (pc hs)) i 0)), .int (nI (if foldN (parS a p hs (pc hs)) i 0 = 0 then pc hs + 1 else parG a p hs (pc hs) (foldN (parS a p hs (pc hs)) i 0 - 1))), .int (nI i), am_mk, am_mk] [] mi ml := dn_ind (a 0) (by
    intro i hi ih
    apply rg_X4_partingOmen_11
    simp (disch := omega) only [ni_lt, ni_le, ni_eq, ni_cl, ni_in, nI_add, ni_mul, ni_and, ni_or, ni_xor, ni_dif, ni_bit, ni_b0, ni_b1, ni_nM, nM_ni, nM_lt, lt_nM, nM_le, le_nM, ni_shl, Nat.not_lt_zero, Nat.zero_add, Nat.add_zero, si_t, si_f, not_true_eq_false, not_false_eq_true, true_implies, false_implies, true_and, and_true, forall_const, c4]
    refine ⟨fun q => ?_, fun q => ?_⟩
    · have e : i = a 0 := by omega
      subst e
      exact hk
    · have ih := ih (by omega)
      rw [foldN_s] at ih
      have hxi : foldN (parS a p hs (pc hs)) i 0 ≤ i := foldN_le (fun u x hx => by unfold parS; split <;> omega) i
      generalize foldN (parS a p hs (pc hs)) i 0 = x at *
      unfold parS at ih
      have hg : ∀ o, parG a p hs (pc hs) o ≤ pc hs := fun o => by
        have := rosN_le a p hs o
        unfold parG
        omega
      have inner : ∀ j, j ≤ 10 → rn E (d + 1) 65 K 29 [.ref 55, .int (nI p), .int (nI hs), .int (nI (pc hs)), .int (nP x), .int (nI (if x = 0 then pc hs + 1 else parG a p hs (pc hs) (x - 1))), .int (nI i), .int (nI (rosN a p hs i j)), .int (nI j)] [] mi ml := dn_ind 10 (by
        intro j hj ih2
        apply rg_X4_partingOmen_29
        have hr := rosN_le a p hs i
        have hsh := shl_lt (o := i) (n := 6) (by omega)
        simp (disch := omega) only [ni_lt, ni_le, ni_eq, ni_cl, ni_in, nI_add, ni_mul, ni_and, ni_or, ni_xor, ni_dif, ni_bit, ni_b0, ni_b1, ni_nM, nM_ni, nM_lt, lt_nM, nM_le, le_nM, ni_shl, Nat.not_lt_zero, Nat.zero_add, Nat.add_zero, si_t, si_f, not_true_eq_false, not_false_eq_true, true_implies, false_implies, true_and, and_true, forall_const]
        refine ⟨fun q2 => ?_, fun q2 => ?_⟩
        · have e : j = 10 := by omega
          subst e
          have hmax : (if nI (rosN a p hs i 10) < nI (pc hs) - nI (rosN a p hs i 10) then nI (pc hs) - nI (rosN a p hs i 10) else nI (rosN a p hs i 10)) = nI (parG a p hs (pc hs) i) := by
            unfold parG
            rw [ni_sub hr]
            split
            · next z => rw [ni_lt (by omega) (by omega)] at z; rw [Nat.max_eq_right (by omega)]
            · next z => rw [ni_lt (by omega) (by omega)] at z; rw [Nat.max_eq_left (by omega)]
          rw [hmax]
          have g1 := hg i
          have g2 := hg (x - 1)
          by_cases hx : x = 0
          · subst hx
            rw [if_pos (show (0 : Nat) = 0 ∨ _ from Or.inl rfl), if_neg (by omega)] at ih
            rw [if_pos rfl, ni_le (by omega) (by omega)]
            exact ⟨fun z => by omega, fun _ => ih⟩
          · rw [if_neg hx]
            simp (disch := omega) only [ni_lt, ni_le, ni_eq, ni_cl, ni_in, nI_add, ni_mul, ni_and, ni_or, ni_xor, ni_dif, ni_bit, ni_b0, ni_b1, ni_nM, nM_ni, nM_lt, lt_nM, nM_le, le_nM, ni_shl, Nat.not_lt_zero, Nat.zero_add, Nat.add_zero, si_t, si_f, not_true_eq_false, not_false_eq_true, true_implies, false_implies, true_and, and_true, forall_const]
            refine ⟨fun q5 => ?_, fun q5 => ?_⟩
            · rw [if_neg (show ¬ (x = 0 ∨ parG a p hs (pc hs) i < parG a p hs (pc hs) (x - 1)) by omega), if_neg hx] at ih
              exact ih
            · rw [if_pos (show (x = 0 ∨ parG a p hs (pc hs) i < parG a p hs (pc hs) (x - 1)) from Or.inr (by omega)), if_neg (by omega)] at ih
              exact ih
        · have ih2 := ih2 (by omega)
          have hrs : rosN a p hs i (j + 1) = rosN a p hs i j + b01 (hs.testBit j && decide (needF a j (a (16 + 4 * p + 2)) (1 <<< i) = 0)) := rfl
          rw [hrs] at ih2
          refine ⟨fun q3 => ?_, fun q3 => ?_⟩
          · rw [q3] at ih2; exact ih2
          · have q4 : hs.testBit j = true := by simpa using q3
            rw [q4, Bool.true_and] at ih2
            apply s_needWith bt_12 hC hW (by omega) hp (by omega)
            apply rg_X4_partingOmen_59
            have hn := needF_le a (h := j) (a (16 + 4 * p + 2)) (1 <<< i) (by omega)
            simp (disch := omega) only [ni_lt, ni_le, ni_eq, ni_cl, ni_in, nI_add, ni_mul, ni_and, ni_or, ni_xor, ni_dif, ni_bit, ni_b0, ni_b1, ni_nM, nM_ni, nM_lt, lt_nM, nM_le, le_nM, ni_shl, Nat.not_lt_zero, Nat.zero_add, Nat.add_zero, si_t, si_f, not_true_eq_false, not_false_eq_true, true_implies, false_implies, true_and, and_true, forall_const]
            refine ⟨fun q5 => ?_, fun q5 => ?_⟩
            · rw [decide_eq_false q5] at ih2; exact ih2
            · rw [decide_eq_true (Classical.byContradiction q5)] at ih2; exact ih2)
      exact inner 0 (by omega))
  apply en_X4_partingOmen
  have := key 0 (Nat.zero_le _)
  simp (disch := omega) only [ni_lt, ni_le, ni_eq, ni_cl, ni_in, nI_add, ni_mul, ni_and, ni_or, ni_xor, ni_dif, ni_bit, ni_b0, ni_b1, ni_nM, nM_ni, nM_lt, lt_nM, nM_le, le_nM, ni_shl, Nat.not_lt_zero, Nat.zero_add, Nat.add_zero, si_t, si_f, not_true_eq_false, not_false_eq_true, true_implies, false_implies, true_and, and_true, forall_const]
  exact this
def lookA (a : Nat → Nat) (u : Nat) : Prop := ∀ p, p < a 1 → (aboA a).testBit p = true → u.testBit p = false → ¬ seesA a p &&& u = 0
theorem s_areLookouts {E : am_E} {d : Nat} {K : am_K} {mi : Nat → Nat → Int32} {ml : Nat → Nat → Int64} {a : Nat → Nat} (hC : CB 12 a mi) (hW : WA a) {u : Nat} (hu : u < 256) (h1 : lookA a u → K (some (.int (nI 1))) (S0, mi, ml)) (h0 : ¬ lookA a u → K (some (.int (nI 0))) (S0, mi, ml)) : cq E (d + 1) 67 [.ref 55, .int (nI u)] K mi ml := by
  have w1 := hW.1.2.1
  have w := WA_p2 hW
  have hab := abo_lt hW
  obtain ⟨⟨c0, c1, c2, c3, c4, c5, c6, c7⟩, cp, ch, ct, cx, cs⟩ := CB12 hC
  have hd : ndif (aboA a) u < 256 := dif_lt (n := 8) hab
  have key : ∀ i, i ≤ a 1 → (∀ p, p < i → (aboA a).testBit p = true → u.testBit p = false → ¬ seesA a p &&& u = 0) → rn E d 67 K 14 [.ref 55, .int (nI u), .int (nI (ndif (aboA a) u)), .int (nI i)] [] mi ml := dn_ind (a 1) (by
    intro i hi ih hl
    apply rg_X4_areLookouts_14
    simp (disch := omega) only [ni_lt, ni_le, ni_eq, ni_cl, ni_in, nI_add, ni_mul, ni_and, ni_or, ni_xor, ni_dif, ni_bit, ni_b0, ni_b1, ni_nM, nM_ni, nM_lt, lt_nM, nM_le, le_nM, ni_shl, Nat.not_lt_zero, Nat.zero_add, Nat.add_zero, si_t, si_f, not_true_eq_false, not_false_eq_true, true_implies, false_implies, true_and, and_true, forall_const, c5]
    refine ⟨fun q => ?_, fun q => ?_⟩
    · exact h1 (fun p hp => hl p (by omega))
    · have hs2 := sees_lt hW i
      have hl2 := and_lt (y := u) hs2
      rw [tb_dif, cs i (by omega)]
      simp (disch := omega) only [ni_lt, ni_le, ni_eq, ni_cl, ni_in, nI_add, ni_mul, ni_and, ni_or, ni_xor, ni_dif, ni_bit, ni_b0, ni_b1, ni_nM, nM_ni, nM_lt, lt_nM, nM_le, le_nM, ni_shl, Nat.not_lt_zero, Nat.zero_add, Nat.add_zero, si_t, si_f, not_true_eq_false, not_false_eq_true, true_implies, false_implies, true_and, and_true, forall_const]
      refine ⟨fun q2 => ?_, fun q2 => ⟨by omega, fun q3 => ?_, fun q3 => ?_⟩⟩
      · refine ih (by omega) (fun p hp h3 h4 => ?_)
        by_cases e : p = i
        · subst e; rw [h3, h4] at q2; exact absurd q2 (by decide)
        · exact hl p (by omega) h3 h4
      · refine ih (by omega) (fun p hp h3 h4 => ?_)
        by_cases e : p = i
        · subst e; exact q3
        · exact hl p (by omega) h3 h4
      · apply h0
        intro z
        have q4 : (aboA a).testBit i = true ∧ u.testBit i = false := by simpa using q2
        exact q3 (z i (by omega) q4.1 q4.2))
  apply en_X4_areLookouts
  simp (disch := omega) only [ni_lt, ni_le, ni_eq, ni_cl, ni_in, nI_add, ni_mul, ni_and, ni_or, ni_xor, ni_dif, ni_bit, ni_b0, ni_b1, ni_nM, nM_ni, nM_lt, lt_nM, nM_le, le_nM, ni_shl, Nat.not_lt_zero, Nat.zero_add, Nat.add_zero, si_t, si_f, not_true_eq_false, not_false_eq_true, true_implies, false_implies, true_and, and_true, forall_const, c7]
  exact key 0 (Nat.zero_le _) (fun p hp => absurd hp (Nat.not_lt_zero _))
noncomputable def lookS (a : Nat → Nat) (u x : Nat) : Nat := @ite _ (ndif u (aboA a) = 0 ∧ pc u < pc x ∧ lookA a u) (Classical.propDecidable _) u x
theorem s_fewestLookouts {E : am_E} {d : Nat} {K : am_K} {mi : Nat → Nat → Int32} {ml : Nat → Nat → Int64} {a : Nat → Nat} (hC : CB 12 a mi) (hW : WA a) (hk : K (some (.int (nI (foldN (lookS a) (2 ^ a 1) (aboA a))))) (S0, mi, ml)) : cq E (d + 3) 66 [.ref 55] K mi ml := by
  have w1 := hW.1.2.1
  have w := WA_p2 hW
  have hab := abo_lt hW
  obtain ⟨⟨c0, c1, c2, c3, c4, c5, c6, c7⟩, cp, ch, ct, cx, cs⟩ := CB12 hC
  have key : ∀ i, i ≤ 2 ^ a 1 → rn E (d + 2) 66 K 10 [.ref 55, .int (nI (foldN (lookS a) i (aboA a))), .int (nI i)] [] mi ml := dn_ind (2 ^ a 1) (by
    intro i hi ih
    have hx : foldN (lookS a) i (aboA a) < 256 := foldN_lt (fun u x hu hx => by unfold lookS; split <;> assumption) (by omega) hab
    apply rg_X4_fewestLookouts_10
    have hd : ndif i (aboA a) < 2147483648 := by
      have := dif_lt (a := i) (b := aboA a) (n := 9) (by omega); omega
    have hp1 := pc_le i
    have hp2 := pc_le (foldN (lookS a) i (aboA a))
    simp (disch := omega) only [ni_lt, ni_le, ni_eq, ni_cl, ni_in, nI_add, ni_mul, ni_and, ni_or, ni_xor, ni_dif, ni_bit, ni_b0, ni_b1, ni_nM, nM_ni, nM_lt, lt_nM, nM_le, le_nM, ni_shl, Nat.not_lt_zero, Nat.zero_add, Nat.add_zero, si_t, si_f, not_true_eq_false, not_false_eq_true, true_implies, false_implies, true_and, and_true, forall_const, c5, c7, Nat.one_shiftLeft, bc_pc]
    refine ⟨fun q => ?_, fun q => ?_⟩
    · have e : i = 2 ^ a 1 := by omega
      subst e
      exact hk
    · have ih := ih (by omega)
      rw [foldN_s] at ih
      generalize foldN (lookS a) i (aboA a) = x at *
      unfold lookS at ih
      refine ⟨fun q2 => ?_, fun q2 => ⟨fun q3 => ?_, fun q3 => ?_⟩⟩
      · rw [if_neg (fun z => q2 z.1)] at ih; exact ih
      · rw [if_neg (fun z => by omega)] at ih; exact ih
      · apply s_areLookouts hC hW (by omega)
        · intro hl
          apply rg_X4_fewestLookouts_50
          rw [if_pos ⟨Classical.byContradiction q2, by omega, hl⟩] at ih
          rw [nI_add]
          exact ⟨fun z => absurd z (by decide), fun _ => ih⟩
        · intro hl
          apply rg_X4_fewestLookouts_50
          rw [if_neg (fun z => hl z.2.2)] at ih
          rw [nI_add]
          exact ⟨fun _ => ih, fun z => absurd rfl z⟩)
  apply en_X4_fewestLookouts
  rw [c7]
  exact key 0 (Nat.zero_le _)
def couA (a : Nat → Nat) (p : Nat) : Nat := if (aboA a).testBit p then pc (seesA a p &&& seenA a p &&& ndif (aboA a) (2 ^ (p + 1) - 1)) else 0
theorem s_countCouples {E : am_E} {d : Nat} {K : am_K} {mi : Nat → Nat → Int32} {ml : Nat → Nat → Int64} {a : Nat → Nat} (hC : CB 12 a mi) (hW : WA a) (hk : K (some (.int (nI (nsum (couA a) (a 1))))) (S0, mi, ml)) : cq E (d + 2) 68 [.ref 55] K mi ml := by
  have w1 := hW.1.2.1
  have w := WA_p2 hW
  have hab := abo_lt hW
  obtain ⟨⟨c0, c1, c2, c3, c4, c5, c6, c7⟩, cp, ch, ct, cx, cs⟩ := CB12 hC
  have key : ∀ i, i ≤ a 1 → rn E (d + 1) 68 K 4 [.ref 55, .int (nI (nsum (couA a) i)), .int (nI i), am_mk] [] mi ml := dn_ind (a 1) (by
    intro i hi ih
    apply rg_X4_countCouples_4
    simp (disch := omega) only [ni_lt, ni_le, ni_eq, ni_cl, ni_in, nI_add, ni_mul, ni_and, ni_or, ni_xor, ni_dif, ni_bit, ni_b0, ni_b1, ni_nM, nM_ni, nM_lt, lt_nM, nM_le, le_nM, ni_shl, Nat.not_lt_zero, Nat.zero_add, Nat.add_zero, si_t, si_f, not_true_eq_false, not_false_eq_true, true_implies, false_implies, true_and, and_true, forall_const, c5, c7]
    refine ⟨fun q => ?_, fun q => ?_⟩
    · have e : i = a 1 := by omega
      subst e
      exact hk
    · have ih := ih (by omega)
      have hs2 := sees_lt hW i
      have hsu : nsum (couA a) (i + 1) = nsum (couA a) i + couA a i := rfl
      rw [hsu] at ih
      unfold couA at ih
      refine ⟨fun q2 => ?_, fun q2 => ⟨by omega, ?_⟩⟩
      · rw [q2] at ih; exact ih
      · rw [if_pos (by simpa using q2)] at ih
        rw [cs i (by omega), ni_all (by omega)]
        simp (disch := omega) only [ni_lt, ni_le, ni_eq, ni_cl, ni_in, nI_add, ni_mul, ni_and, ni_or, ni_xor, ni_dif, ni_bit, ni_b0, ni_b1, ni_nM, nM_ni, nM_lt, lt_nM, nM_le, le_nM, ni_shl, Nat.not_lt_zero, Nat.zero_add, Nat.add_zero, si_t, si_f, not_true_eq_false, not_false_eq_true, true_implies, false_implies, true_and, and_true, forall_const]
        apply s_seenBy hC hW (by omega)
        apply rg_X4_countCouples_62
        have hl := and_lt (y := ndif (aboA a) (2 ^ (i + 1) - 1)) (and_lt (y := seenA a i) hs2)
        rw [ni_and, ni_and, bc_pc (by omega)]
        simp (disch := omega) only [ni_lt, ni_le, ni_eq, ni_cl, ni_in, nI_add, ni_mul, ni_and, ni_or, ni_xor, ni_dif, ni_bit, ni_b0, ni_b1, ni_nM, nM_ni, nM_lt, lt_nM, nM_le, le_nM, ni_shl, Nat.not_lt_zero, Nat.zero_add, Nat.add_zero, si_t, si_f, not_true_eq_false, not_false_eq_true, true_implies, false_implies, true_and, and_true, forall_const]
        exact ih)
  apply en_X4_countCouples
  exact key 0 (Nat.zero_le _)
/-- games: w u is what the set u is worth -/
def plyV (c : Bool) (w : Nat → Nat) (u : Nat) : Nat → Nat
  | 0 => w u
  | o + 1 => if c then max (plyV c w u o) (w (u ^^^ 1 <<< o)) else min (plyV c w u o) (w (u ^^^ 1 <<< o))
def plyW (a : Nat → Nat) (c : Bool) (w : Nat → Nat) (u : Nat) : Nat := plyV c w u (a 0)
theorem plyV_le {B : Nat} {c : Bool} {w : Nat → Nat} {u n : Nat} (hu : u < 2 ^ n) (h : ∀ v, v < 2 ^ n → w v ≤ B) : ∀ {o}, o ≤ n → plyV c w u o ≤ B
  | 0, _ => h u hu
  | o + 1, ho => by
    have h1 := plyV_le hu h (o := o) (c := c) (by omega)
    have h2 := h (u ^^^ 1 <<< o) (Nat.xor_lt_two_pow hu (shl_lt (by omega)))
    unfold plyV
    split <;> omega
/-- the worths lie in a cell -/
def WO (a : Nat → Nat) (w : Nat → Nat) (c : Nat) (mi : Nat → Nat → Int32) : Prop := ∀ u, u < 2 ^ a 0 → mi c u = nI (w u)
def frG (mi mi' : Nat → Nat → Int32) : Prop := ∀ k, ¬ (k = 20 ∨ k = 56 ∨ k = 57) → mi' k = mi k
theorem frG_tr {mi mi' mi'' : Nat → Nat → Int32} (h : frG mi mi') (h2 : frG mi' mi'') : frG mi mi'' := fun k hk => by rw [h2 k hk, h k hk]
theorem CB_frG {a : Nat → Nat} {mi mi' : Nat → Nat → Int32} (h : CB 12 a mi) (hf : frG mi mi') : CB 12 a mi' := by
  unfold CB at *
  rw [hf 12 (by omega), hf (12 + 1) (by omega), hf (12 + 3) (by omega), hf (12 + 4) (by omega), hf (12 + 5) (by omega), hf (12 + 6) (by omega)]
  exact h
theorem s_playTurn {E : am_E} {d : Nat} {K : am_K} {mi : Nat → Nat → Int32} {ml : Nat → Nat → Int64} {a : Nat → Nat} (hC : CB 12 a mi) (hW : WA a) {w : Nat → Nat} (hw : WO a w 56 mi) (hB : ∀ u, u < 2 ^ a 0 → w u ≤ 10) {c : Bool} (hk : ∀ mi', frG mi mi' → WO a (plyW a c w) 56 mi' → K none (S0, mi', ml)) : cq E (d + 1) 70 [.ref 55, .int (nI (b01 c))] K mi ml := by
  have w0 := hW.1.1
  have w2 := WA_p2 hW
  have hp2 := p2_pos (a 0)
  have key : ∀ i, i ≤ 2 ^ a 0 → ∀ mi', (∀ k, k ≠ 57 → mi' k = mi k) → (∀ u, u < i → mi' 57 u = nI (plyW a c w u)) → rn E d 70 K 12 [.ref 55, .int (nI (b01 c)), .int (nI (2 ^ a 0)), .int (nI i), am_mk, am_mk, am_mk] [] mi' ml := dn_ind (2 ^ a 0) (by
    intro i hi ih mi' hf hn
    apply rg_X4_playTurn_12
    simp (disch := omega) only [ni_lt, ni_le, ni_eq, ni_cl, ni_in, nI_add, ni_mul, ni_and, ni_or, ni_xor, ni_dif, ni_bit, ni_b0, ni_b1, ni_nM, nM_ni, nM_lt, lt_nM, nM_le, le_nM, ni_shl, Nat.not_lt_zero, Nat.zero_add, Nat.add_zero, si_t, si_f, not_true_eq_false, not_false_eq_true, true_implies, false_implies, true_and, and_true, forall_const]
    refine ⟨fun q => ?_, fun q => ⟨by omega, ?_⟩⟩
    · have e : i = 2 ^ a 0 := by omega
      subst e
      refine ⟨⟨⟨by decide, by decide, ?_⟩, by omega, by omega⟩, ?_⟩
      · show ¬ nI (2 ^ a 0) < nI 0
        rw [ni_lt0 (by omega)]; exact id
      · apply hk
        · intro k hk
          funext j
          rw [sc_f (by omega), hf k (by omega)]
        · intro u hu
          rw [sc_t rfl]
          unfold va_cpy
          rw [if_pos (by omega), show 0 + (u - 0) = u by omega]
          exact hn u hu
    · have h56 : ∀ u, u < 2 ^ a 0 → mi' 56 u = nI (w u) := fun u hu => by rw [hf 56 (by omega)]; exact hw u hu
      have c4 : mi' 12 4 = nI (a 0) := by rw [hf 12 (by omega)]; exact hC.1.2.2.2.2.1
      rw [h56 i (by omega)]
      have inner : ∀ o, o ≤ a 0 → rn E d 70 K 28 [.ref 55, .int (nI (b01 c)), .int (nI (2 ^ a 0)), .int (nI i), .int (nI (plyV c w i o)), .int (nI o), am_mk] [] mi' ml := dn_ind (a 0) (by
        intro o ho ih2
        apply rg_X4_playTurn_28
        have hsh : ∀ o, o < a 0 → i ^^^ 1 <<< o < 2 ^ a 0 := fun o ho => Nat.xor_lt_two_pow (by omega) (shl_lt ho)
        simp (disch := omega) only [ni_lt, ni_le, ni_eq, ni_cl, ni_in, nI_add, ni_mul, ni_and, ni_or, ni_xor, ni_dif, ni_bit, ni_b0, ni_b1, ni_nM, nM_ni, nM_lt, lt_nM, nM_le, le_nM, ni_shl, Nat.not_lt_zero, Nat.zero_add, Nat.add_zero, si_t, si_f, not_true_eq_false, not_false_eq_true, true_implies, false_implies, true_and, and_true, forall_const, c4]
        refine ⟨fun q2 => ⟨by omega, ?_⟩, fun q2 => ?_⟩
        · have e : o = a 0 := by omega
          subst e
          refine ih (by omega) _ ?_ ?_
          · intro k hk
            funext j
            rw [si_f (by omega), hf k hk]
          · intro u hu
            by_cases e : u = i
            · subst e; rw [si_t ⟨rfl, rfl⟩]; rfl
            · rw [si_f (by omega)]; exact hn u (by omega)
        · have h3 := hsh o (by omega)
          have ih2 := ih2 (by omega)
          have b1 := plyV_le (c := c) (show i < 2 ^ a 0 by omega) hB ho
          have b2 := hB _ h3
          unfold plyV at ih2
          simp (disch := omega) only [ni_lt, ni_le, ni_eq, ni_cl, ni_in, nI_add, ni_mul, ni_and, ni_or, ni_xor, ni_dif, ni_bit, ni_b0, ni_b1, ni_nM, nM_ni, nM_lt, lt_nM, nM_le, le_nM, ni_shl, Nat.not_lt_zero, Nat.zero_add, Nat.add_zero, si_t, si_f, not_true_eq_false, not_false_eq_true, true_implies, false_implies, true_and, and_true, forall_const, h56]
          refine ⟨by omega, fun q3 => ?_, fun q3 => ?_⟩
          · rw [q3] at ih2
            rw [show (if w (i ^^^ 1 <<< o) < plyV c w i o then nI (w (i ^^^ 1 <<< o)) else nI (plyV c w i o)) = nI (min (plyV c w i o) (w (i ^^^ 1 <<< o))) by
              split
              · rw [Nat.min_eq_right (by omega)]
              · rw [Nat.min_eq_left (by omega)]]
            rw [q3]
            exact ih2
          · have q4 : c = true := by simpa using q3
            rw [q4] at ih2
            rw [show (if plyV c w i o < w (i ^^^ 1 <<< o) then nI (w (i ^^^ 1 <<< o)) else nI (plyV c w i o)) = nI (max (plyV c w i o) (w (i ^^^ 1 <<< o))) by
              split
              · rw [Nat.max_eq_right (by omega)]
              · rw [Nat.max_eq_left (by omega)]]
            rw [q4]
            exact ih2)
      exact inner 0 (Nat.zero_le _))
  apply en_X4_playTurn
  rw [show mi 12 4 = nI (a 0) from hC.1.2.2.2.2.1]
  simp (disch := omega) only [ni_lt, ni_le, ni_eq, ni_cl, ni_in, nI_add, ni_mul, ni_and, ni_or, ni_xor, ni_dif, ni_bit, ni_b0, ni_b1, ni_nM, nM_ni, nM_lt, lt_nM, nM_le, le_nM, ni_shl, Nat.not_lt_zero, Nat.zero_add, Nat.add_zero, si_t, si_f, not_true_eq_false, not_false_eq_true, true_implies, false_implies, true_and, and_true, forall_const, Nat.one_shiftLeft]
  exact key 0 (Nat.zero_le _) mi (fun _ _ => rfl) (fun u hu => absurd hu (Nat.not_lt_zero _))
/-- the worths behind the turns from t down to f -/
def plyD (a : Nat → Nat) (f : Nat) : Nat → (Nat → Nat) → (Nat → Nat)
  | 0, w => w
  | t + 1, w => if t + 1 < f then w else plyD a f t (plyW a (decide ((t + 1) % 2 = 1)) w)
def outW (a : Nat → Nat) (u : Nat) : Nat := pc (outA a (aboA a) u)
theorem rem2_all : ∀ n, n < 4 → nI n - nI n / nI 2 * nI 2 = nI (n % 2) := by decide +kernel
theorem s_playFrom {E : am_E} {d : Nat} {K : am_K} {mi : Nat → Nat → Int32} {ml : Nat → Nat → Int64} {a : Nat → Nat} (hC : CB 12 a mi) (hW : WA a) {f t : Nat} (hf1 : 1 ≤ f) (hf2 : f ≤ 2) (ht : t ≤ 3) (hk : ∀ mi', frG mi mi' → CB 12 a mi' → WO a (plyD a f t (outW a)) 56 mi' → K none (S0, mi', ml)) : cq E (d + 6) 69 [.ref 55, .int (nI f), .int (nI t)] K mi ml := by
  have w0 := hW.1.1
  have w2 := WA_p2 hW
  have hp2 := p2_pos (a 0)
  have turns : ∀ n, n ≤ 3 → ∀ mi' w, frG mi mi' → WO a w 56 mi' → (∀ u, u < 2 ^ a 0 → w u ≤ 10) → plyD a f n w = plyD a f t (outW a) → rn E (d + 5) 69 K 34 [.ref 55, .int (nI f), am_mk, .int (nI n)] [] mi' ml := by
    intro n
    induction n with
    | zero =>
      intro _ mi' w hfr hw _ he
      apply rg_X4_playFrom_34
      simp (disch := omega) only [ni_lt, ni_le, ni_eq, ni_cl, ni_in, nI_add, ni_mul, ni_and, ni_or, ni_xor, ni_dif, ni_bit, ni_b0, ni_b1, ni_nM, nM_ni, nM_lt, lt_nM, nM_le, le_nM, ni_shl, Nat.not_lt_zero, Nat.zero_add, Nat.add_zero, si_t, si_f, not_true_eq_false, not_false_eq_true, true_implies, false_implies, true_and, and_true, forall_const]
      refine ⟨fun _ => ?_, fun q => by omega⟩
      refine hk mi' hfr (CB_frG hC hfr) ?_
      rw [← he]; exact hw
    | succ n ih =>
      intro hn mi' w hfr hw hB he
      apply rg_X4_playFrom_34
      rw [rem2_all _ (by omega)]
      have hm := Nat.mod_lt (n + 1) (show 0 < 2 by omega)
      simp (disch := omega) only [ni_lt, ni_le, ni_eq, ni_cl, ni_in, nI_add, ni_mul, ni_and, ni_or, ni_xor, ni_dif, ni_bit, ni_b0, ni_b1, ni_nM, nM_ni, nM_lt, lt_nM, nM_le, le_nM, ni_shl, Nat.not_lt_zero, Nat.zero_add, Nat.add_zero, si_t, si_f, not_true_eq_false, not_false_eq_true, true_implies, false_implies, true_and, and_true, forall_const]
      have go : ∀ c, c = decide ((n + 1) % 2 = 1) → ¬ n + 1 < f → cq E (d + 5) 70 [.ref 55, .int (nI (b01 c))] (kc E (d + 5) 69 K 54 [.ref 55, .int (nI f), am_mk, .int (nI (n + 1))] []) mi' ml := by
        intro c hc hnf
        apply s_playTurn (CB_frG hC hfr) hW hw hB
        intro mi2 hfr2 hw2
        apply rg_X4_playFrom_54
        have e : nI (n + 1) + nM = nI n := by
          rw [show nM = -1 from rfl, ← Int32.sub_eq_add_neg]
          exact nI_pred n
        rw [e]
        refine ih (by omega) mi2 _ (frG_tr hfr hfr2) hw2 (fun u hu => plyV_le hu hB (Nat.le_refl _)) ?_
        rw [← he]
        show _ = (if n + 1 < f then w else plyD a f n (plyW a (decide ((n + 1) % 2 = 1)) w))
        rw [if_neg hnf, hc]
      refine ⟨fun q => ?_, fun q => ⟨fun q2 => ?_, fun q2 => ?_⟩⟩
      · refine hk mi' hfr (CB_frG hC hfr) ?_
        rw [← he]
        show WO a (if n + 1 < f then w else _) 56 mi'
        rw [if_pos q]; exact hw
      · exact go false (by rw [decide_eq_false (by omega)]) q
      · exact go true (by rw [decide_eq_true (by omega)]) q
  have key : ∀ i, i ≤ 2 ^ a 0 → ∀ mi', frG mi mi' → (∀ u, u < i → mi' 56 u = nI (outW a u)) → rn E (d + 5) 69 K 2 [.ref 55, .int (nI f), .int (nI t), .int (nI i)] [] mi' ml := dn_ind (2 ^ a 0) (by
    intro i hi ih mi' hfr hn
    have hC' := CB_frG hC hfr
    apply rg_X4_playFrom_2
    rw [show mi' 12 4 = nI (a 0) from hC'.1.2.2.2.2.1]
    simp (disch := omega) only [ni_lt, ni_le, ni_eq, ni_cl, ni_in, nI_add, ni_mul, ni_and, ni_or, ni_xor, ni_dif, ni_bit, ni_b0, ni_b1, ni_nM, nM_ni, nM_lt, lt_nM, nM_le, le_nM, ni_shl, Nat.not_lt_zero, Nat.zero_add, Nat.add_zero, si_t, si_f, not_true_eq_false, not_false_eq_true, true_implies, false_implies, true_and, and_true, forall_const, Nat.one_shiftLeft]
    refine ⟨fun q => ?_, fun q => ?_⟩
    · refine turns t ht mi' _ hfr (fun u hu => hn u (by omega)) (fun u _ => pc_le _) rfl
    · apply s_countOut hC' hW (by omega)
      intro mi2 hf2 hC2
      apply rg_X4_playFrom_25
      simp (disch := omega) only [ni_lt, ni_le, ni_eq, ni_cl, ni_in, nI_add, ni_mul, ni_and, ni_or, ni_xor, ni_dif, ni_bit, ni_b0, ni_b1, ni_nM, nM_ni, nM_lt, lt_nM, nM_le, le_nM, ni_shl, Nat.not_lt_zero, Nat.zero_add, Nat.add_zero, si_t, si_f, not_true_eq_false, not_false_eq_true, true_implies, false_implies, true_and, and_true, forall_const]
      refine ⟨by omega, ih (by omega) _ ?_ ?_⟩
      · intro k hk
        funext j
        rw [si_f (by omega), hf2 k (by omega), hfr k hk]
      · intro u hu
        by_cases e : u = i
        · subst e; exact si_t ⟨rfl, rfl⟩
        · rw [si_f (by omega), hf2 56 (by omega)]; exact hn u (by omega))
  apply en_X4_playFrom
  exact key 0 (Nat.zero_le _) mi (fun _ _ => rfl) (fun u hu => absurd hu (Nat.not_lt_zero _))
def capS (a : Nat → Nat) (w : Nat → Nat) (o x : Nat) : Nat := if x = 0 then (if w (a 6) ≤ w (a 6 ^^^ 1 <<< o) then o + 1 else 0) else if w (a 6 ^^^ 1 <<< (x - 1)) < w (a 6 ^^^ 1 <<< o) then o + 1 else x
theorem s_captainsMove {E : am_E} {d : Nat} {K : am_K} {mi : Nat → Nat → Int32} {ml : Nat → Nat → Int64} {a : Nat → Nat} (hC : CB 12 a mi) (hW : WA a) {w : Nat → Nat} (hw : WO a w 56 mi) (hB : ∀ u, u < 2 ^ a 0 → w u ≤ 10) (hk : K (some (.int (nP (foldN (capS a w) (a 0) 0)))) (S0, mi, ml)) : cq E (d + 1) 72 [.ref 55] K mi ml := by
  obtain ⟨⟨x0, x1, x2, x3, x4, x5, x6, x7, x8⟩, y, z⟩ := id hW
  have w2 := WA_p2 hW
  obtain ⟨⟨c0, c1, c2, c3, c4, c5, c6, c7⟩, cp, ch, ct, cx, cs⟩ := CB12 hC
  have hsh : ∀ o, o < a 0 → a 6 ^^^ 1 <<< o < 2 ^ a 0 := fun o ho => Nat.xor_lt_two_pow x7 (shl_lt ho)
  have b0 := hB _ x7
  unfold WO at hw
  have key : ∀ i, i ≤ a 0 → rn E d 72 K 17 [.ref 55, .int (nP (foldN (capS a w) i 0)), .int (nI (if foldN (capS a w) i 0 = 0 then w (a 6) else w (a 6 ^^^ 1 <<< (foldN (capS a w) i 0 - 1)))), .int (nI i), am_mk] [] mi ml := dn_ind (a 0) (by
    intro i hi ih
    apply rg_X4_captainsMove_17
    simp (disch := omega) only [ni_lt, ni_le, ni_eq, ni_cl, ni_in, nI_add, ni_mul, ni_and, ni_or, ni_xor, ni_dif, ni_bit, ni_b0, ni_b1, ni_nM, nM_ni, nM_lt, lt_nM, nM_le, le_nM, ni_shl, Nat.not_lt_zero, Nat.zero_add, Nat.add_zero, si_t, si_f, not_true_eq_false, not_false_eq_true, true_implies, false_implies, true_and, and_true, forall_const, c4, c6]
    refine ⟨fun q => ?_, fun q => ?_⟩
    · have e : i = a 0 := by omega
      subst e
      exact hk
    · have ih := ih (by omega)
      rw [foldN_s] at ih
      have hxi : foldN (capS a w) i 0 ≤ i := foldN_le (fun u x hx => by
        unfold capS
        repeat' split
        all_goals omega) i
      generalize foldN (capS a w) i 0 = x at *
      have h3 := hsh i (by omega)
      have b1 := hB _ h3
      simp (disch := omega) only [ni_lt, ni_le, ni_eq, ni_cl, ni_in, nI_add, ni_mul, ni_and, ni_or, ni_xor, ni_dif, ni_bit, ni_b0, ni_b1, ni_nM, nM_ni, nM_lt, lt_nM, nM_le, le_nM, ni_shl, Nat.not_lt_zero, Nat.zero_add, Nat.add_zero, si_t, si_f, not_true_eq_false, not_false_eq_true, true_implies, false_implies, true_and, and_true, forall_const, hw]
      refine ⟨by omega, ?_⟩
      by_cases hx : x = 0
      · subst hx
        simp only [if_true]
        simp (disch := omega) only [ni_lt, ni_le, ni_eq, ni_cl, ni_in, nI_add, ni_mul, ni_and, ni_or, ni_xor, ni_dif, ni_bit, ni_b0, ni_b1, ni_nM, nM_ni, nM_lt, lt_nM, nM_le, le_nM, ni_shl, Nat.not_lt_zero, Nat.zero_add, Nat.add_zero, si_t, si_f, not_true_eq_false, not_false_eq_true, true_implies, false_implies, true_and, and_true, forall_const]
        have e : capS a w i 0 = if w (a 6) ≤ w (a 6 ^^^ 1 <<< i) then i + 1 else 0 := rfl
        rw [e] at ih
        refine ⟨fun q2 => ?_, fun q2 => ⟨fun q3 => ?_, fun q3 => ⟨fun q4 => absurd rfl q4, fun _ => ?_⟩⟩⟩
        · rw [if_pos (by omega), if_neg (by omega)] at ih; exact ih
        · rw [if_neg (by omega)] at ih; exact ih
        · rw [if_pos (by omega), if_neg (by omega)] at ih; exact ih
      · have h4 := hsh (x - 1) (by omega)
        have b2 := hB _ h4
        have e : capS a w i x = if w (a 6 ^^^ 1 <<< (x - 1)) < w (a 6 ^^^ 1 <<< i) then i + 1 else x := by
          unfold capS; rw [if_neg hx]
        rw [e] at ih
        rw [if_neg hx]
        have hne : ¬ nP x = nM := by
          match x, hx with
          | k + 1, _ =>
            rw [nP_s, ni_nM (by omega)]
            exact id
        simp (disch := omega) only [ni_lt, ni_le, ni_eq, ni_cl, ni_in, nI_add, ni_mul, ni_and, ni_or, ni_xor, ni_dif, ni_bit, ni_b0, ni_b1, ni_nM, nM_ni, nM_lt, lt_nM, nM_le, le_nM, ni_shl, Nat.not_lt_zero, Nat.zero_add, Nat.add_zero, si_t, si_f, not_true_eq_false, not_false_eq_true, true_implies, false_implies, true_and, and_true, forall_const]
        refine ⟨fun q2 => ?_, fun q2 => ⟨fun q3 => ?_, fun q3 => ⟨fun q4 => ?_, fun q4 => absurd hne q4⟩⟩⟩
        · rw [if_pos q2, if_neg (by omega)] at ih; exact ih
        · rw [if_neg q2, if_neg hx] at ih; exact ih
        · rw [if_neg q2, if_neg hx] at ih; exact ih)
  apply en_X4_captainsMove
  simp (disch := omega) only [ni_lt, ni_le, ni_eq, ni_cl, ni_in, nI_add, ni_mul, ni_and, ni_or, ni_xor, ni_dif, ni_bit, ni_b0, ni_b1, ni_nM, nM_ni, nM_lt, lt_nM, nM_le, le_nM, ni_shl, Nat.not_lt_zero, Nat.zero_add, Nat.add_zero, si_t, si_f, not_true_eq_false, not_false_eq_true, true_implies, false_implies, true_and, and_true, forall_const, c6, hw]
  refine ⟨by omega, ?_⟩
  exact key 0 (Nat.zero_le _)
