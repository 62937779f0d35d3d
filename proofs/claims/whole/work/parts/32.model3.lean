/-! The reference's study, second half: never, lookouts, couples, games; sums and sets. -/
theorem s_whoSee {E : am_E} {d : Nat} {K : am_K} {mi : Nat → Nat → Int32} {ml : Nat → Nat → Int64} {a : Nat → Nat} (hM : MA a mi) (hW : WA a) {p : Nat} (hp : p < 8) (hk : K (some (.int (nI (seenA a p)))) (S0, mi, ml)) : cq E (d + 4) 247 [.ref 106, .int (nI p)] K mi ml := by
  have w1 := hW.1.2.1
  have w := WA_p2 hW
  have hM2 := hM
  unfold MA at hM2
  have key : ∀ i, i ≤ a 1 → rn E (d + 3) 247 K 4 [.ref 106, .int (nI p), .int (nI (bset (fun q => (seesA a q).testBit p) i)), .int (nI i)] [] mi ml := dn_ind (a 1) (by
    intro i hi ih
    apply rg_X10_whoSee_4
    simp (disch := omega) only [ni_lt, ni_le, ni_eq, ni_cl, ni_in, nI_add, ni_mul, ni_and, ni_or, ni_xor, ni_dif, ni_bit, ni_b0, ni_b1, ni_nM, nM_ni, nM_lt, lt_nM, nM_le, le_nM, ni_shl, Nat.not_lt_zero, Nat.zero_add, Nat.add_zero, si_t, si_f, not_true_eq_false, not_false_eq_true, true_implies, false_implies, true_and, and_true, forall_const, hM2]
    refine ⟨fun q => ?_, fun q => ?_⟩
    · have e : i = a 1 := by omega
      subst e
      exact hk
    · have ih := ih (by omega)
      rw [bset_if] at ih
      apply s_seenByM hM hW (by omega)
      apply rg_X10_whoSee_20
      have hs2 := sees_lt hW i
      simp (disch := omega) only [ni_lt, ni_le, ni_eq, ni_cl, ni_in, nI_add, ni_mul, ni_and, ni_or, ni_xor, ni_dif, ni_bit, ni_b0, ni_b1, ni_nM, nM_ni, nM_lt, lt_nM, nM_le, le_nM, ni_shl, Nat.not_lt_zero, Nat.zero_add, Nat.add_zero, si_t, si_f, not_true_eq_false, not_false_eq_true, true_implies, false_implies, true_and, and_true, forall_const]
      refine ⟨fun q2 => ?_, fun q2 => ?_⟩
      · rw [if_neg q2] at ih; simpa using ih
      · rw [if_pos (Classical.byContradiction q2)] at ih; exact ih)
  apply en_X10_whoSee
  exact key 0 (Nat.zero_le _)
theorem s_allSat {E : am_E} {d : Nat} {K : am_K} {mi : Nat → Nat → Int32} {ml : Nat → Nat → Int64} {a : Nat → Nat} (hM : MA a mi) (hW : WA a) (hk : K (some (.int (nI (nsum (fun p => a (16 + 4 * p + 1)) (a 1))))) (S0, mi, ml)) : cq E (d + 3) 250 [.ref 106] K mi ml := by
  have w1 := hW.1.2.1
  have hM2 := hM
  unfold MA at hM2
  have key : ∀ i, i ≤ a 1 → rn E (d + 2) 250 K 4 [.ref 106, .int (nI (nsum (fun p => a (16 + 4 * p + 1)) i)), .int (nI i)] [] mi ml := dn_ind (a 1) (by
    intro i hi ih
    apply rg_X10_allSat_4
    simp (disch := omega) only [ni_lt, ni_le, ni_eq, ni_cl, ni_in, nI_add, ni_mul, ni_and, ni_or, ni_xor, ni_dif, ni_bit, ni_b0, ni_b1, ni_nM, nM_ni, nM_lt, lt_nM, nM_le, le_nM, ni_shl, Nat.not_lt_zero, Nat.zero_add, Nat.add_zero, si_t, si_f, not_true_eq_false, not_false_eq_true, true_implies, false_implies, true_and, and_true, forall_const, hM2]
    refine ⟨fun q => ?_, fun q => ⟨by omega, ?_⟩⟩
    · have e : i = a 1 := by omega
      subst e
      exact hk
    · simp (disch := omega) only [ni_lt, ni_le, ni_eq, ni_cl, ni_in, nI_add, ni_mul, ni_and, ni_or, ni_xor, ni_dif, ni_bit, ni_b0, ni_b1, ni_nM, nM_ni, nM_lt, lt_nM, nM_le, le_nM, ni_shl, Nat.not_lt_zero, Nat.zero_add, Nat.add_zero, si_t, si_f, not_true_eq_false, not_false_eq_true, true_implies, false_implies, true_and, and_true, forall_const, hM2]
      exact ih (by omega))
  apply en_X10_allSat
  exact key 0 (Nat.zero_le _)
theorem s_excusedFromM {E : am_E} {d : Nat} {K : am_K} {mi : Nat → Nat → Int32} {ml : Nat → Nat → Int64} {a : Nat → Nat} (hM : MA a mi) (hW : WA a) {o : Nat} (ho : o < 6) (hk : K (some (.int (nI (bset (fun p => (a (16 + 4 * p + 2)).testBit o) (a 1))))) (S0, mi, ml)) : cq E (d + 3) 252 [.ref 106, .int (nI o)] K mi ml := by
  have w1 := hW.1.2.1
  have w := WA_p2 hW
  have hM2 := hM
  unfold MA at hM2
  have key : ∀ i, i ≤ a 1 → rn E (d + 2) 252 K 4 [.ref 106, .int (nI o), .int (nI (bset (fun p => (a (16 + 4 * p + 2)).testBit o) i)), .int (nI i)] [] mi ml := dn_ind (a 1) (by
    intro i hi ih
    apply rg_X10_excusedFrom_4
    simp (disch := omega) only [ni_lt, ni_le, ni_eq, ni_cl, ni_in, nI_add, ni_mul, ni_and, ni_or, ni_xor, ni_dif, ni_bit, ni_b0, ni_b1, ni_nM, nM_ni, nM_lt, lt_nM, nM_le, le_nM, ni_shl, Nat.not_lt_zero, Nat.zero_add, Nat.add_zero, si_t, si_f, not_true_eq_false, not_false_eq_true, true_implies, false_implies, true_and, and_true, forall_const, hM2]
    refine ⟨fun q => ?_, fun q => ⟨by omega, ?_⟩⟩
    · have e : i = a 1 := by omega
      subst e
      exact hk
    · have ih := ih (by omega)
      rw [bset_if] at ih
      have hl := (hW.2.2 i (by omega)).2.2.1
      simp (disch := omega) only [ni_lt, ni_le, ni_eq, ni_cl, ni_in, nI_add, ni_mul, ni_and, ni_or, ni_xor, ni_dif, ni_bit, ni_b0, ni_b1, ni_nM, nM_ni, nM_lt, lt_nM, nM_le, le_nM, ni_shl, Nat.not_lt_zero, Nat.zero_add, Nat.add_zero, si_t, si_f, not_true_eq_false, not_false_eq_true, true_implies, false_implies, true_and, and_true, forall_const, hM2]
      refine ⟨fun q2 => ?_, fun q2 => ?_⟩
      · rw [if_neg q2] at ih; simpa using ih
      · rw [if_pos (Classical.byContradiction q2)] at ih; exact ih)
  apply en_X10_excusedFrom
  exact key 0 (Nat.zero_le _)
def nevS (a : Nat → Nat) (s x : Nat) : Nat := ndif x (outA a (aboA a) s)
theorem never_eq (a : Nat → Nat) : foldN (nevS a) (2 ^ a 0) (aboA a) = ndif (aboA a) (outA a (aboA a) (2 ^ a 0 - 1)) := by
  have hp2 := p2_pos (a 0)
  apply Nat.eq_of_testBit_eq
  intro i
  have h1 : ∀ n, (foldN (nevS a) n (aboA a)).testBit i = true ↔ ((aboA a).testBit i = true ∧ ∀ s, s < n → (outA a (aboA a) s).testBit i = false) := by
    intro n
    induction n with
    | zero => exact ⟨fun h => ⟨h, fun s hs => absurd hs (Nat.not_lt_zero _)⟩, fun h => h.1⟩
    | succ n ih =>
      rw [foldN_s]
      unfold nevS
      rw [tb_dif, Bool.and_eq_true]
      unfold nevS at ih
      rw [ih]
      constructor
      · rintro ⟨⟨h2, h3⟩, h4⟩
        refine ⟨h2, fun s hs => ?_⟩
        rcases Nat.lt_or_ge s n with z | z
        · exact h3 s z
        · have : s = n := by omega
          subst this
          simpa using h4
      · rintro ⟨h2, h3⟩
        refine ⟨⟨h2, fun s hs => h3 s (by omega)⟩, ?_⟩
        rw [h3 n (by omega)]; rfl
  have h2 : ∀ s, s < 2 ^ a 0 → (outA a (aboA a) s).testBit i = true → (outA a (aboA a) (2 ^ a 0 - 1)).testBit i = true := by
    intro s hs
    refine itr_mono (fun j hj => ?_) (fun _ z => z) (a 2) (fun _ z => z) i
    rw [tb_all]
    apply decide_eq_true
    apply Classical.byContradiction
    intro q
    rw [tb_hi hs (by omega)] at hj; cases hj
  rw [tb_dif]
  cases h3 : (foldN (nevS a) (2 ^ a 0) (aboA a)).testBit i
  · symm
    apply Classical.byContradiction
    intro q
    have q1 : (aboA a).testBit i = true ∧ (outA a (aboA a) (2 ^ a 0 - 1)).testBit i = false := by simpa using q
    have := (h1 (2 ^ a 0)).mpr ⟨q1.1, fun s hs => by
      cases z : (outA a (aboA a) s).testBit i
      · rfl
      · have := h2 s hs z
        rw [q1.2] at this; cases this⟩
    rw [h3] at this; cases this
  · have := (h1 (2 ^ a 0)).mp h3
    rw [this.1, this.2 (2 ^ a 0 - 1) (by omega)]; rfl
theorem s_neverM {E : am_E} {d : Nat} {K : am_K} {mi : Nat → Nat → Int32} {ml : Nat → Nat → Int64} {a : Nat → Nat} (hM : MA a mi) (hW : WA a) (hk : ∀ mi', frR mi mi' → K (some (.int (nI (ndif (aboA a) (outA a (aboA a) (2 ^ a 0 - 1)))))) (S0, am_si mi' 106 2 (nI 0), ml)) : cq E (d + 7) 292 [.ref 106] K mi ml := by
  obtain ⟨⟨x0, x1, x2, x3, x4, x5, x6, x7, x8⟩, y, z⟩ := id hW
  have w := WA_p2 hW
  have hp2 := p2_pos (a 0)
  have hab := abo_lt hW
  rw [← never_eq] at hk
  have key : ∀ i, i ≤ 2 ^ a 0 → ∀ mi', frR mi mi' → rn E (d + 6) 292 K 7 [.ref 106, .int (nI (foldN (nevS a) i (aboA a))), .int (nI i)] [] mi' ml := dn_ind (2 ^ a 0) (by
    intro i hi ih mi' hf
    have hM' := MA_fr hM hf
    have hM2 := hM'
    unfold MA at hM2
    apply rg_X10_never_7
    simp (disch := omega) only [ni_lt, ni_le, ni_eq, ni_cl, ni_in, nI_add, ni_mul, ni_and, ni_or, ni_xor, ni_dif, ni_bit, ni_b0, ni_b1, ni_nM, nM_ni, nM_lt, lt_nM, nM_le, le_nM, ni_shl, Nat.not_lt_zero, Nat.zero_add, Nat.add_zero, si_t, si_f, not_true_eq_false, not_false_eq_true, true_implies, false_implies, true_and, and_true, forall_const, hM2, ni_all]
    refine ⟨fun q => ?_, fun q => ?_⟩
    · have e : i = 2 ^ a 0 := by omega
      subst e
      exact hk mi' hf
    · apply s_aboardM hM' hW
      apply rg_X10_never_21
      apply s_outOfM hM' hW (by omega) hab
      intro mi2 hf2
      apply rg_X10_never_25
      simp (disch := omega) only [ni_lt, ni_le, ni_eq, ni_cl, ni_in, nI_add, ni_mul, ni_and, ni_or, ni_xor, ni_dif, ni_bit, ni_b0, ni_b1, ni_nM, nM_ni, nM_lt, lt_nM, nM_le, le_nM, ni_shl, Nat.not_lt_zero, Nat.zero_add, Nat.add_zero, si_t, si_f, not_true_eq_false, not_false_eq_true, true_implies, false_implies, true_and, and_true, forall_const]
      exact ih (by omega) mi2 (frR_tr hf hf2))
  apply en_X10_never
  apply s_aboardM hM hW
  apply rg_X10_never_4
  exact key 0 (Nat.zero_le _) mi frR_rfl
theorem s_lookoutsOf {E : am_E} {d : Nat} {K : am_K} {mi : Nat → Nat → Int32} {ml : Nat → Nat → Int64} {a : Nat → Nat} (hM : MA a mi) (hW : WA a) (hk : K (some (.int (nI (foldN (lookS a) (2 ^ a 1) (aboA a))))) (S0, mi, ml)) : cq E (d + 4) 305 [.ref 106] K mi ml := by
  obtain ⟨⟨x0, x1, x2, x3, x4, x5, x6, x7, x8⟩, y, z⟩ := id hW
  have w := WA_p2 hW
  have hp2 := p2_pos (a 1)
  have hab := abo_lt hW
  have hM2 := hM
  unfold MA at hM2
  have key : ∀ i, i ≤ 2 ^ a 1 → rn E (d + 3) 305 K 7 [.ref 106, .int (nI (foldN (lookS a) i (aboA a))), .int (nI i), am_mk, am_mk] [] mi ml := dn_ind (2 ^ a 1) (by
    intro i hi ih
    have hx : foldN (lookS a) i (aboA a) < 256 := foldN_lt (fun u x hu hx => by unfold lookS; split <;> assumption) (by omega) hab
    have hx2 : foldN (lookS a) i (aboA a) < i ∨ foldN (lookS a) i (aboA a) = aboA a := fold_in (fun u x => by unfold lookS; split <;> simp) i (aboA a)
    apply rg_X10_lookoutsOf_7
    have hl := and_lt (y := a 7) (show i < 2147483648 by omega)
    simp (disch := omega) only [ni_lt, ni_le, ni_eq, ni_cl, ni_in, nI_add, ni_mul, ni_and, ni_or, ni_xor, ni_dif, ni_bit, ni_b0, ni_b1, ni_nM, nM_ni, nM_lt, lt_nM, nM_le, le_nM, ni_shl, Nat.not_lt_zero, Nat.zero_add, Nat.add_zero, si_t, si_f, not_true_eq_false, not_false_eq_true, true_implies, false_implies, true_and, and_true, forall_const, hM2, ni_all]
    refine ⟨fun q => ?_, fun q => ?_⟩
    · have e : i = 2 ^ a 1 := by omega
      subst e
      exact hk
    · have ih := ih (by omega)
      rw [foldN_s] at ih
      generalize foldN (lookS a) i (aboA a) = x at *
      unfold lookS at ih
      have hda := dif_abo (a := a) (u := i) (by omega)
      have e1 := pc_le i
      have e2 := pc_le x
      refine ⟨fun q2 => ?_, fun q2 => ?_⟩
      · rw [if_neg (fun z => q2 (by rw [← hda]; exact z.1))] at ih
        exact ih
      · apply s_bits (by omega)
        apply rg_X10_lookoutsOf_31
        apply s_bits (by omega)
        apply rg_X10_lookoutsOf_35
        simp (disch := omega) only [ni_lt, ni_le, ni_eq, ni_cl, ni_in, nI_add, ni_mul, ni_and, ni_or, ni_xor, ni_dif, ni_bit, ni_b0, ni_b1, ni_nM, nM_ni, nM_lt, lt_nM, nM_le, le_nM, ni_shl, Nat.not_lt_zero, Nat.zero_add, Nat.add_zero, si_t, si_f, not_true_eq_false, not_false_eq_true, true_implies, false_implies, true_and, and_true, forall_const]
        refine ⟨fun q3 => ?_, fun q3 => ?_⟩
        · rw [if_neg (fun z => by omega)] at ih
          exact ih
        · apply s_bits (by omega)
          apply rg_X10_lookoutsOf_42
          apply s_bits (by omega)
          apply rg_X10_lookoutsOf_46
          have go : pc i < pc x → ∀ j, j ≤ a 1 → ∀ g : Bool, (g = true ↔ ∀ p, p < j → (aboA a).testBit p = true → i.testBit p = false → ¬ seesA a p &&& i = 0) → rn E (d + 3) 305 K 62 [.ref 106, .int (nI x), .int (nI i), .int (nI (b01 g)), .int (nI j)] [] mi ml := by
            intro hlt
            refine dn_ind (a 1) ?_
            intro j hj ih2 g hg
            apply rg_X10_lookoutsOf_62
            simp (disch := omega) only [ni_lt, ni_le, ni_eq, ni_cl, ni_in, nI_add, ni_mul, ni_and, ni_or, ni_xor, ni_dif, ni_bit, ni_b0, ni_b1, ni_nM, nM_ni, nM_lt, lt_nM, nM_le, le_nM, ni_shl, Nat.not_lt_zero, Nat.zero_add, Nat.add_zero, si_t, si_f, not_true_eq_false, not_false_eq_true, true_implies, false_implies, true_and, and_true, forall_const, hM2]
            refine ⟨fun q4 => ?_, fun q4 => ?_⟩
            · have e : j = a 1 := by omega
              subst e
              refine ⟨fun q5 => ?_, fun q5 => ?_⟩
              · rw [if_neg (fun z => by
                  have := hg.mpr z.2.2
                  rw [q5] at this; cases this)] at ih
                exact ih
              · rw [if_pos ⟨by rw [hda]; exact Classical.byContradiction q2, hlt, hg.mp (by simpa using q5)⟩] at ih
                exact ih
            · have ih2 := ih2 (by omega)
              have hab2 : (aboA a).testBit j = !(a 7).testBit j := by rw [tb_abo]; simp [show j < a 1 by omega]
              have hs2 := sees_lt hW j
              have hl2 := and_lt (y := i) hs2
              refine ⟨fun q5 => ?_, fun q5 => ⟨fun q6 => ⟨fun q7 => ?_, fun q7 => ?_⟩, fun q6 => ?_⟩⟩
              · subst q5
                exact ih2 false (by
                  constructor
                  · intro z; cases z
                  · intro z; exact hg.mpr (fun p hp => z p (by omega)))
              · have g1 : g = true := by simpa using q5
                apply s_seenByM hM hW (by omega)
                apply rg_X10_lookoutsOf_102
                simp (disch := omega) only [ni_lt, ni_le, ni_eq, ni_cl, ni_in, nI_add, ni_mul, ni_and, ni_or, ni_xor, ni_dif, ni_bit, ni_b0, ni_b1, ni_nM, nM_ni, nM_lt, lt_nM, nM_le, le_nM, ni_shl, Nat.not_lt_zero, Nat.zero_add, Nat.add_zero, si_t, si_f, not_true_eq_false, not_false_eq_true, true_implies, false_implies, true_and, and_true, forall_const]
                have hj1 : (aboA a).testBit j = true := by rw [hab2]; simpa using q6
                have hj2 : i.testBit j = false := by simpa using q7
                refine ⟨fun q8 => ih2 false ?_, fun q8 => ih2 true ?_⟩
                · constructor
                  · intro z; cases z
                  · intro z; exact absurd q8 (z j (by omega) hj1 hj2)
                · constructor
                  · intro _ p hp h3 h4
                    by_cases e : p = j
                    · subst e; exact q8
                    · exact hg.mp g1 p (by omega) h3 h4
                  · intro _; rfl
              · have g1 : g = true := by simpa using q5
                refine ih2 true ?_
                constructor
                · intro _ p hp h3 h4
                  by_cases e : p = j
                  · subst e; rw [Classical.byContradiction q7] at h4; cases h4
                  · exact hg.mp g1 p (by omega) h3 h4
                · intro _; rfl
              · have g1 : g = true := by simpa using q5
                refine ih2 true ?_
                constructor
                · intro _ p hp h3 h4
                  by_cases e : p = j
                  · subst e; rw [hab2, Classical.byContradiction q6] at h3; cases h3
                  · exact hg.mp g1 p (by omega) h3 h4
                · intro _; rfl
          have go0 : pc i < pc x → rn E (d + 3) 305 K 62 [.ref 106, .int (nI x), .int (nI i), .int (nI 1), .int (nI 0)] [] mi ml := fun hlt => go hlt 0 (Nat.zero_le _) true ⟨fun _ p hp => absurd hp (Nat.not_lt_zero _), fun _ => rfl⟩
          simp (disch := omega) only [ni_lt, ni_le, ni_eq, ni_cl, ni_in, nI_add, ni_mul, ni_and, ni_or, ni_xor, ni_dif, ni_bit, ni_b0, ni_b1, ni_nM, nM_ni, nM_lt, lt_nM, nM_le, le_nM, ni_shl, Nat.not_lt_zero, Nat.zero_add, Nat.add_zero, si_t, si_f, not_true_eq_false, not_false_eq_true, true_implies, false_implies, true_and, and_true, forall_const]
          refine ⟨fun q4 => go0 (by omega), fun q4 => ⟨fun q5 => ?_, fun q5 => ?_⟩⟩
          · exfalso
            rcases hx2 with z | z
            · omega
            · subst z
              have hsub : ∀ j, i.testBit j = true → (aboA a).testBit j = true := by
                intro j hj
                have q6 : i &&& a 7 = 0 := Classical.byContradiction q2
                rw [← hda] at q6
                have : (ndif i (aboA a)).testBit j = false := by rw [q6, Nat.zero_testBit]
                rw [tb_dif, hj] at this
                simpa using this
              have := pc_ssub hsub (by omega) (by omega) (by omega)
              omega
          · rw [if_neg (fun z => by omega)] at ih
            exact ih)
  apply en_X10_lookoutsOf
  apply s_aboardM hM hW
  apply rg_X10_lookoutsOf_4
  exact key 0 (Nat.zero_le _)
/-- couples, pair by pair -/
def couB (a : Nat → Nat) (p q : Nat) : Bool := (aboA a).testBit p && ((aboA a).testBit q && ((seesA a p).testBit q && (seesA a q).testBit p))
def couN (a : Nat → Nat) (p n : Nat) : Nat := nsum (fun q => b01 (decide (p < q) && couB a p q)) n
theorem cou_eq {a : Nat → Nat} (hW : WA a) {p : Nat} (hp : p < a 1) : couA a p = couN a p (a 1) := by
  have w1 := hW.1.2.1
  unfold couA couN
  split
  · next h =>
    have e : seesA a p &&& seenA a p &&& ndif (aboA a) (2 ^ (p + 1) - 1) = bset (fun q => decide (p < q) && couB a p q) (a 1) := by
      apply Nat.eq_of_testBit_eq
      intro i
      unfold seenA couB
      rw [Nat.testBit_and, Nat.testBit_and, tb_dif, tb_bset, tb_bset, tb_all, h]
      by_cases hi : i < a 1
      · by_cases h2 : p < i
        · simp [hi, h2, show ¬ i < p + 1 by omega]
          cases (seesA a p).testBit i <;> cases (seesA a i).testBit p <;> simp
        · simp [hi, h2, show i < p + 1 by omega]
      · simp [hi]
    rw [e, pc_bset _ (by omega)]
  · next h =>
    have : ∀ n, nsum (fun q => b01 (decide (p < q) && couB a p q)) n = 0 := by
      intro n
      induction n with
      | zero => rfl
      | succ n ih =>
        show nsum _ n + b01 (decide (p < n) && couB a p n) = 0
        rw [ih]
        unfold couB
        rw [show (aboA a).testBit p = false by simpa using h]
        simp [b01]
    exact (this _).symm
theorem s_couplesM {E : am_E} {d : Nat} {K : am_K} {mi : Nat → Nat → Int32} {ml : Nat → Nat → Int64} {a : Nat → Nat} (hM : MA a mi) (hW : WA a) (hk : K (some (.int (nI (nsum (couA a) (a 1))))) (S0, am_si mi 106 2 (nI 0), ml)) : cq E (d + 4) 308 [.ref 106] K mi ml := by
  obtain ⟨⟨x0, x1, x2, x3, x4, x5, x6, x7, x8⟩, y, z⟩ := id hW
  have w := WA_p2 hW
  have hM2 := hM
  unfold MA at hM2
  have habo : ∀ j, j < a 1 → (aboA a).testBit j = !(a 7).testBit j := fun j hj => by rw [tb_abo]; simp [hj]
  have key : ∀ i, i ≤ a 1 → rn E (d + 3) 308 K 4 [.ref 106, .int (nI (nsum (couA a) i)), .int (nI i), am_mk] [] mi ml := dn_ind (a 1) (by
    intro i hi ih
    apply rg_X10_couples_4
    simp (disch := omega) only [ni_lt, ni_le, ni_eq, ni_cl, ni_in, nI_add, ni_mul, ni_and, ni_or, ni_xor, ni_dif, ni_bit, ni_b0, ni_b1, ni_nM, nM_ni, nM_lt, lt_nM, nM_le, le_nM, ni_shl, Nat.not_lt_zero, Nat.zero_add, Nat.add_zero, si_t, si_f, not_true_eq_false, not_false_eq_true, true_implies, false_implies, true_and, and_true, forall_const, hM2]
    refine ⟨fun q => ?_, fun q => ?_⟩
    · have e : i = a 1 := by omega
      subst e
      exact hk
    · have ih := ih (by omega)
      have hsu : nsum (couA a) (i + 1) = nsum (couA a) i + couA a i := rfl
      rw [hsu, cou_eq hW (show i < a 1 by omega)] at ih
      have inner : ∀ j, j ≤ a 1 → i < j → rn E (d + 3) 308 K 18 [.ref 106, .int (nI (nsum (couA a) i + couN a i j)), .int (nI i), .int (nI j)] [] mi ml := dn_ind (a 1) (by
        intro j hj ih2 hij
        apply rg_X10_couples_18
        simp (disch := omega) only [ni_lt, ni_le, ni_eq, ni_cl, ni_in, nI_add, ni_mul, ni_and, ni_or, ni_xor, ni_dif, ni_bit, ni_b0, ni_b1, ni_nM, nM_ni, nM_lt, lt_nM, nM_le, le_nM, ni_shl, Nat.not_lt_zero, Nat.zero_add, Nat.add_zero, si_t, si_f, not_true_eq_false, not_false_eq_true, true_implies, false_implies, true_and, and_true, forall_const, hM2]
        refine ⟨fun q2 => ?_, fun q2 => ?_⟩
        · have e : j = a 1 := by omega
          subst e
          exact ih
        · have ih2 := ih2 (by omega) (by omega)
          have hcs : couN a i (j + 1) = couN a i j + b01 (decide (i < j) && couB a i j) := rfl
          rw [hcs, show decide (i < j) = true from decide_eq_true hij, Bool.true_and] at ih2
          unfold couB at ih2
          rw [habo i (by omega), habo j (by omega)] at ih2
          refine ⟨fun q3 => ⟨fun q4 => ?_, fun q4 => ?_⟩, fun q3 => ?_⟩
          · rw [show (a 7).testBit i = false by simpa using q3, show (a 7).testBit j = false by simpa using q4] at ih2
            apply s_seenByM hM hW (by omega)
            apply rg_X10_couples_51
            have hs2 := sees_lt hW i
            simp (disch := omega) only [ni_lt, ni_le, ni_eq, ni_cl, ni_in, nI_add, ni_mul, ni_and, ni_or, ni_xor, ni_dif, ni_bit, ni_b0, ni_b1, ni_nM, nM_ni, nM_lt, lt_nM, nM_le, le_nM, ni_shl, Nat.not_lt_zero, Nat.zero_add, Nat.add_zero, si_t, si_f, not_true_eq_false, not_false_eq_true, true_implies, false_implies, true_and, and_true, forall_const]
            refine ⟨fun q5 => ?_, fun q5 => ?_⟩
            · rw [show (seesA a i).testBit j = false by simpa using q5] at ih2
              simpa [b01] using ih2
            · rw [show (seesA a i).testBit j = true by simpa using q5] at ih2
              apply s_seenByM hM hW (by omega)
              apply rg_X10_couples_64
              have hs3 := sees_lt hW j
              simp (disch := omega) only [ni_lt, ni_le, ni_eq, ni_cl, ni_in, nI_add, ni_mul, ni_and, ni_or, ni_xor, ni_dif, ni_bit, ni_b0, ni_b1, ni_nM, nM_ni, nM_lt, lt_nM, nM_le, le_nM, ni_shl, Nat.not_lt_zero, Nat.zero_add, Nat.add_zero, si_t, si_f, not_true_eq_false, not_false_eq_true, true_implies, false_implies, true_and, and_true, forall_const]
              refine ⟨fun q6 => ?_, fun q6 => ?_⟩
              · rw [show (seesA a j).testBit i = false by simpa using q6] at ih2
                simpa [b01] using ih2
              · rw [show (seesA a j).testBit i = true by simpa using q6] at ih2
                simpa [b01, Nat.add_assoc] using ih2
          · rw [show (a 7).testBit j = true from Classical.byContradiction q4] at ih2
            simpa [b01] using ih2
          · rw [show (a 7).testBit i = true from Classical.byContradiction q3] at ih2
            simpa [b01] using ih2)
      have h0 : ∀ n, n ≤ i + 1 → couN a i n = 0 := by
        intro n
        induction n with
        | zero => intro _; rfl
        | succ n ih3 =>
          intro hn
          show couN a i n + b01 (decide (i < n) && couB a i n) = 0
          rw [ih3 (by omega), decide_eq_false (by omega)]
          rfl
      have := inner (i + 1) (by omega) (by omega)
      rw [h0 (i + 1) (Nat.le_refl _), Nat.add_zero] at this
      exact this)
  apply en_X10_couples
  exact key 0 (Nat.zero_le _)
