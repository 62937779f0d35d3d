/-! Rests are reached; the reference's study. -/
theorem pc_leN {u N : Nat} (hu : u < 2 ^ N) (hN : N ≤ 8) : pc u ≤ N := by
  rw [pc_cnt hu (by omega)]
  have := nsum_bd (f := fun i => b01 (u.testBit i)) (B := 1) (n := N) (fun k _ => by have := b01_lt (u.testBit k); omega)
  omega
theorem fix_up {f : Nat → Nat} {N : Nat} (hN : N ≤ 8) (hinc : ∀ u i, u.testBit i = true → (f u).testBit i = true) (hlt : ∀ u, u < 2 ^ N → f u < 2 ^ N) {u : Nat} (hu : u < 2 ^ N) : f (itr f N u) = itr f N u := by
  have h8 : 2 ^ N ≤ 256 := p2_le (k := 8) hN
  have hl : ∀ k, itr f k u < 2 ^ N := by
    intro k
    induction k with
    | zero => exact hu
    | succ k ih => rw [itr_succ]; exact hlt _ ih
  have key : ∀ k, f (itr f k u) = itr f k u ∨ k ≤ pc (itr f k u) := by
    intro k
    induction k with
    | zero => exact Or.inr (Nat.zero_le _)
    | succ k ih =>
      rw [itr_succ]
      rcases ih with h | h
      · left; rw [h, h]
      · by_cases e : f (itr f k u) = itr f k u
        · left; rw [e, e]
        · right
          have h1 := hl k
          have h2 := hlt _ h1
          have := pc_ssub (hinc (itr f k u)) (by omega) (by omega) (fun z => e z.symm)
          omega
  rcases key N with h | h
  · exact h
  · apply Classical.byContradiction
    intro e
    have h1 := hl N
    have h2 := hlt _ h1
    have h3 := pc_ssub (hinc (itr f N u)) (by omega) (by omega) (fun z => e z.symm)
    have h4 := pc_leN h2 hN
    omega
theorem fix_dn {f : Nat → Nat} {N : Nat} (hN : N ≤ 8) {u : Nat} (hu : u < 2 ^ N) (hdec : ∀ k i, (f (itr f k u)).testBit i = true → (itr f k u).testBit i = true) : f (itr f N u) = itr f N u := by
  have h8 : 2 ^ N ≤ 256 := p2_le (k := 8) hN
  have hl : ∀ k, itr f k u < 2 ^ N := by
    intro k
    induction k with
    | zero => exact hu
    | succ k ih =>
      rw [itr_succ]
      apply Nat.lt_pow_two_of_testBit
      intro i hi
      cases z : (f (itr f k u)).testBit i
      · rfl
      · have := hdec k i z
        rw [tb_hi ih hi] at this; cases this
  have key : ∀ k, f (itr f k u) = itr f k u ∨ pc (itr f k u) + k ≤ N := by
    intro k
    induction k with
    | zero =>
      right
      have e : itr f 0 u = u := rfl
      rw [e, Nat.add_zero]
      exact pc_leN hu hN
    | succ k ih =>
      have h1 := hl k
      have h2 := hl (k + 1)
      rw [itr_succ] at h2 ⊢
      rcases ih with h | h
      · left; rw [h, h]
      · by_cases e : f (itr f k u) = itr f k u
        · left; rw [e, e]
        · right
          have := pc_ssub (hdec k) (by omega) (by omega) e
          omega
  rcases key N with h | h
  · exact h
  · apply Classical.byContradiction
    intro e
    have h1 := hl N
    have h2 := hl (N + 1)
    rw [itr_succ] at h2
    have h3 := pc_ssub (hdec N) (by omega) (by omega) e
    omega
theorem rise_inc (a : Nat → Nat) (s c u i : Nat) (h : u.testBit i = true) : (riseA a s c u).testBit i = true := by
  unfold riseA; rw [Nat.testBit_or, h]; rfl
theorem rise_fix {a : Nat → Nat} (hW : WA a) (s c : Nat) {u : Nat} (hu : u < 2 ^ a 1) : riseA a s c (itr (riseA a s c) (a 1) u) = itr (riseA a s c) (a 1) u :=
  fix_up hW.1.2.1 (rise_inc a s c) (fun _ h => rise_lt h) hu
theorem rest9 {a : Nat → Nat} (hW : WA a) (s c : Nat) {u : Nat} (hu : u < 2 ^ a 1) : itr (riseA a s c) 9 u = itr (riseA a s c) (a 1) u := by
  have w1 := hW.1.2.1
  have := itr_stay (rise_fix hW s c hu) (9 - a 1)
  rw [show a 1 + (9 - a 1) = 9 by omega] at this
  exact this
theorem rose9 {a : Nat → Nat} (hW : WA a) (s c : Nat) {u : Nat} (hu : u < 2 ^ a 1) (p : Nat) : roseF (riseA a s c) u 9 p = roseF (riseA a s c) u (a 1) p := by
  have w1 := hW.1.2.1
  have := roseF_stay (rise_fix hW s c hu) p (9 - a 1)
  rw [show a 1 + (9 - a 1) = 9 by omega] at this
  exact this
theorem rnd9 {a : Nat → Nat} (hW : WA a) (s c : Nat) {u : Nat} (hu : u < 2 ^ a 1) : rndF (riseA a s c) u 9 = rndF (riseA a s c) u (a 1) := by
  have w1 := hW.1.2.1
  have := rndF_stay (rise_fix hW s c hu) (9 - a 1)
  rw [show a 1 + (9 - a 1) = 9 by omega] at this
  exact this
def gretM (a : Nat → Nat) (s u : Nat) : Nat := ndif u (bset (fun p => u.testBit p && decide (pc (seesA a p &&& u) < needA a s p)) (a 1))
theorem gret_eq {a : Nat → Nat} (s : Nat) {u : Nat} (hu : u < 2 ^ a 1) (h1 : ∀ i, u.testBit i = true → (aboA a).testBit i = true) (h2 : ∀ i, (contA a s (aboA a) u).testBit i = true → u.testBit i = true) : gretM a s u = contA a s (aboA a) u := by
  apply Nat.eq_of_testBit_eq
  intro i
  unfold gretM
  rw [tb_dif, tb_bset]
  have h2 := h2 i
  unfold contA at h2 ⊢
  rw [tb_bset] at h2 ⊢
  have h1 := h1 i
  by_cases hi : i < a 1
  · cases z : u.testBit i
    · rw [z] at h2
      cases q : (decide (i < a 1) && ((aboA a).testBit i && decide (needA a s i ≤ pc (seesA a i &&& u))))
      · rfl
      · exact absurd (h2 q) (by decide)
    · rw [h1 z]
      by_cases e : needA a s i ≤ pc (seesA a i &&& u)
      · simp [hi, e, show ¬ pc (seesA a i &&& u) < needA a s i by omega]
      · simp [hi, e, show pc (seesA a i &&& u) < needA a s i by omega]
  · rw [tb_hi hu (by omega)]
    simp [hi]
theorem gret_all {a : Nat → Nat} (s : Nat) : ∀ k, itr (gretM a s) k (aboA a) = itr (contA a s (aboA a)) k (aboA a) ∧ (∀ i, (itr (contA a s (aboA a)) k (aboA a)).testBit i = true → (aboA a).testBit i = true) ∧ (∀ i, (contA a s (aboA a) (itr (contA a s (aboA a)) k (aboA a))).testBit i = true → (itr (contA a s (aboA a)) k (aboA a)).testBit i = true) ∧ itr (contA a s (aboA a)) k (aboA a) < 2 ^ a 1 := by
  have hin : ∀ u i, (contA a s (aboA a) u).testBit i = true → (aboA a).testBit i = true := fun u i q => by
    unfold contA at q
    rw [tb_bset] at q
    simp only [Bool.and_eq_true] at q
    exact q.2.1
  intro k
  induction k with
  | zero => exact ⟨rfl, fun _ h => h, hin _, abo_lt2 a⟩
  | succ k ih =>
    obtain ⟨i1, i2, i3, i4⟩ := ih
    rw [itr_succ, itr_succ]
    refine ⟨?_, hin _, ?_, cont_lt _ _ _⟩
    · rw [i1]; exact gret_eq s i4 i2 i3
    · exact cont_mono (fun _ z => z) (fun _ z => z) i3
theorem gret9 {a : Nat → Nat} (hW : WA a) (s : Nat) : itr (gretM a s) 9 (aboA a) = itr (contA a s (aboA a)) (a 1) (aboA a) := by
  have w1 := hW.1.2.1
  rw [(gret_all s 9).1]
  have hfix := fix_dn (f := contA a s (aboA a)) w1 (abo_lt2 a) (fun k => (gret_all s k).2.2.1)
  have := itr_stay hfix (9 - a 1)
  rw [show a 1 + (9 - a 1) = 9 by omega] at this
  exact this
/-- a rest, as the reference says it -/
theorem rest_iff {a : Nat → Nat} (s : Nat) {u : Nat} (hu : u < 2 ^ a 1) (h0 : u &&& a 7 = 0) : contA a s (aboA a) u = u ↔ ∀ p, p < a 1 → (a 7).testBit p = false → (u.testBit p = decide (needA a s p ≤ pc (seesA a p &&& u))) := by
  constructor
  · intro h p hp h7
    have : (contA a s (aboA a) u).testBit p = u.testBit p := by rw [h]
    rw [← this]
    unfold contA
    rw [tb_bset, tb_abo, h7]
    simp [hp]
  · intro h
    apply Nat.eq_of_testBit_eq
    intro i
    unfold contA
    rw [tb_bset, tb_abo]
    by_cases hi : i < a 1
    · cases h7 : (a 7).testBit i
      · rw [h i hi h7]; simp [hi]
      · have : (u &&& a 7).testBit i = false := by rw [h0, Nat.zero_testBit]
        rw [Nat.testBit_and, h7] at this
        simp at this
        simp [this]
    · rw [tb_hi hu (by omega)]; simp [hi]
theorem rest_in {a : Nat → Nat} (s : Nat) {u : Nat} (h : contA a s (aboA a) u = u) : u &&& a 7 = 0 := by
  apply Nat.eq_of_testBit_eq
  intro i
  rw [Nat.testBit_and, Nat.zero_testBit]
  have : (contA a s (aboA a) u).testBit i = u.testBit i := by rw [h]
  rw [← this]
  unfold contA
  rw [tb_bset, tb_abo]
  cases (a 7).testBit i <;> simp
theorem dif_abo {a : Nat → Nat} {u : Nat} (hu : u < 2 ^ a 1) : ndif u (aboA a) = u &&& a 7 := by
  apply Nat.eq_of_testBit_eq
  intro i
  rw [tb_dif, tb_abo, Nat.testBit_and]
  by_cases hi : i < a 1
  · simp [hi]
  · rw [tb_hi hu (by omega)]; simp
theorem s_isRestM {E : am_E} {d : Nat} {K : am_K} {mi : Nat → Nat → Int32} {ml : Nat → Nat → Int64} {a : Nat → Nat} (hM : MA a mi) (hW : WA a) {s u : Nat} (hs : s < 64) (hu : u < 2 ^ a 1) (h0 : u &&& a 7 = 0) (hk : K (some (.int (nI (b01 (decide (contA a s (aboA a) u = u)))))) (S0, mi, ml)) : cq E (d + 5) 276 [.ref 106, .int (nI u), .int (nI s)] K mi ml := by
  obtain ⟨⟨x0, x1, x2, x3, x4, x5, x6, x7, x8⟩, y, z⟩ := id hW
  have w := WA_p2 hW
  have hM2 := hM
  unfold MA at hM2
  have key : ∀ i, i ≤ a 1 → (∀ p, p < i → (a 7).testBit p = false → (u.testBit p = decide (needA a s p ≤ pc (seesA a p &&& u)))) → rn E (d + 4) 276 K 2 [.ref 106, .int (nI u), .int (nI s), .int (nI i)] [] mi ml := dn_ind (a 1) (by
    intro i hi ih hl
    apply rg_X10_isRest_2
    simp (disch := omega) only [ni_lt, ni_le, ni_eq, ni_cl, ni_in, nI_add, ni_mul, ni_and, ni_or, ni_xor, ni_dif, ni_bit, ni_b0, ni_b1, ni_nM, nM_ni, nM_lt, lt_nM, nM_le, le_nM, ni_shl, Nat.not_lt_zero, Nat.zero_add, Nat.add_zero, si_t, si_f, not_true_eq_false, not_false_eq_true, true_implies, false_implies, true_and, and_true, forall_const, hM2]
    refine ⟨fun q => ?_, fun q => ?_⟩
    · have e := (rest_iff s hu h0).mpr (fun p hp => hl p (by omega))
      rw [decide_eq_true e] at hk
      exact hk
    · have ih := ih (by omega)
      have hs2 := sees_lt hW i
      have hl2 := and_lt (y := u) hs2
      have hn := needA_le hW s (show i < a 1 by omega)
      have hpc := pc_le (seesA a i &&& u)
      have go : (a 7).testBit i = false → cq E (d + 4) 246 [.ref 106, .int (nI i)] (kc E (d + 4) 276 K 31 [.ref 106, .int (nI u), .int (nI s), .int (nI i)] [.int (nI (b01 (u.testBit i)))]) mi ml := by
        intro q7
        apply s_seenByM hM hW (by omega)
        apply rg_X10_isRest_31
        rw [ni_and]
        apply s_bits (by omega)
        apply rg_X10_isRest_36
        apply s_needOf hM hW (by omega) hs
        apply rg_X10_isRest_42
        have no : ¬ (u.testBit i = decide (needA a s i ≤ pc (seesA a i &&& u))) → K (some (.int (nI 0))) (S0, mi, ml) := by
          intro hne
          have e : ¬ contA a s (aboA a) u = u := fun e => hne ((rest_iff s hu h0).mp e i (by omega) q7)
          rw [decide_eq_false e] at hk
          exact hk
        have yes : (u.testBit i = decide (needA a s i ≤ pc (seesA a i &&& u))) → rn E (d + 4) 276 K 2 [.ref 106, .int (nI u), .int (nI s), .int (nI (i + 1))] [] mi ml := by
          intro he
          refine ih (fun p hp h7 => ?_)
          by_cases e : p = i
          · subst e; exact he
          · exact hl p (by omega) h7
        simp (disch := omega) only [ni_lt, ni_le, ni_eq, ni_cl, ni_in, nI_add, ni_mul, ni_and, ni_or, ni_xor, ni_dif, ni_bit, ni_b0, ni_b1, ni_nM, nM_ni, nM_lt, lt_nM, nM_le, le_nM, ni_shl, Nat.not_lt_zero, Nat.zero_add, Nat.add_zero, si_t, si_f, not_true_eq_false, not_false_eq_true, true_implies, false_implies, true_and, and_true, forall_const]
        refine ⟨fun q2 => ⟨fun q3 => yes ?_, fun q3 => no ?_⟩, fun q2 => ⟨fun q3 => yes ?_, fun q3 => no ?_⟩⟩
        · rw [q3, decide_eq_false (by omega)]
        · rw [decide_eq_false (by omega)]; exact q3
        · rw [q3, decide_eq_true (by omega)]
        · rw [decide_eq_true (by omega)]; exact q3
      refine ⟨fun q2 => ?_, fun q2 => ?_⟩
      · have q7 : (a 7).testBit i = false := by simpa using q2
        have := go q7
        refine ⟨fun q3 => ?_, fun q3 => ?_⟩
        · rw [show u.testBit i = false by simpa using q3] at this; exact this
        · rw [show u.testBit i = true by simpa using q3] at this; exact this
      · have q7 : (a 7).testBit i = true := by simpa using q2
        refine ih (fun p hp h7 => ?_)
        by_cases e : p = i
        · subst e; rw [q7] at h7; cases h7
        · exact hl p (by omega) h7)
  apply en_X10_isRest
  exact key 0 (Nat.zero_le _) (fun p hp => absurd hp (Nat.not_lt_zero _))
theorem s_restsM {E : am_E} {d : Nat} {K : am_K} {mi : Nat → Nat → Int32} {ml : Nat → Nat → Int64} {a : Nat → Nat} (hM : MA a mi) (hW : WA a) {s : Nat} (hs : s < 64) (hk : K (some (.int (nI (nsum (fun u => b01 (decide (contA a s (aboA a) u = u))) (2 ^ a 1))))) (S0, am_si mi 106 2 (nI 0), ml)) : rn E (d + 5) 278 K 19 [.ref 106, .int (nI s), .int (nI 0), .int (nI 0)] [] mi ml := by
  obtain ⟨⟨x0, x1, x2, x3, x4, x5, x6, x7, x8⟩, y, z⟩ := id hW
  have w := WA_p2 hW
  have hp2 := p2_pos (a 1)
  have hM2 := hM
  unfold MA at hM2
  have key : ∀ i, i ≤ 2 ^ a 1 → rn E (d + 5) 278 K 19 [.ref 106, .int (nI s), .int (nI (nsum (fun u => b01 (decide (contA a s (aboA a) u = u))) i)), .int (nI i)] [] mi ml := dn_ind (2 ^ a 1) (by
    intro i hi ih
    apply rg_X10_rests_19
    have hl := and_lt (y := a 7) (show i < 2147483648 by omega)
    simp (disch := omega) only [ni_lt, ni_le, ni_eq, ni_cl, ni_in, nI_add, ni_mul, ni_and, ni_or, ni_xor, ni_dif, ni_bit, ni_b0, ni_b1, ni_nM, nM_ni, nM_lt, lt_nM, nM_le, le_nM, ni_shl, Nat.not_lt_zero, Nat.zero_add, Nat.add_zero, si_t, si_f, not_true_eq_false, not_false_eq_true, true_implies, false_implies, true_and, and_true, forall_const, hM2, ni_all]
    refine ⟨fun q => ?_, fun q => ?_⟩
    · have e : i = 2 ^ a 1 := by omega
      subst e
      exact hk
    · have ih := ih (by omega)
      have hsu : nsum (fun u => b01 (decide (contA a s (aboA a) u = u))) (i + 1) = nsum (fun u => b01 (decide (contA a s (aboA a) u = u))) i + b01 (decide (contA a s (aboA a) i = i)) := rfl
      rw [hsu] at ih
      refine ⟨fun q2 => ?_, fun q2 => ?_⟩
      · rw [decide_eq_false (fun z => q2 (rest_in s z))] at ih
        exact ih
      · apply s_isRestM hM hW hs (by omega) (Classical.byContradiction q2)
        apply rg_X10_rests_46
        simp (disch := omega) only [ni_lt, ni_le, ni_eq, ni_cl, ni_in, nI_add, ni_mul, ni_and, ni_or, ni_xor, ni_dif, ni_bit, ni_b0, ni_b1, ni_nM, nM_ni, nM_lt, lt_nM, nM_le, le_nM, ni_shl, Nat.not_lt_zero, Nat.zero_add, Nat.add_zero, si_t, si_f, not_true_eq_false, not_false_eq_true, true_implies, false_implies, true_and, and_true, forall_const]
        refine ⟨fun q3 => ?_, fun q3 => ?_⟩
        · rw [q3] at ih; exact ih
        · rw [show decide (contA a s (aboA a) i = i) = true by simpa using q3] at ih; exact ih)
  exact key 0 (Nat.zero_le _)
theorem s_greatestM {E : am_E} {d : Nat} {K : am_K} {mi : Nat → Nat → Int32} {ml : Nat → Nat → Int64} {a : Nat → Nat} (hM : MA a mi) (hW : WA a) {s : Nat} (hs : s < 64) (hk : K (some (.int (nI (itr (contA a s (aboA a)) (a 1) (aboA a))))) (S0, am_si mi 106 2 (nI 0), ml)) : rn E (d + 4) 279 K 22 [.ref 106, .int (nI s), .int (nI (aboA a)), .int (nI 0), am_mk, am_mk] [] mi ml := by
  obtain ⟨⟨x0, x1, x2, x3, x4, x5, x6, x7, x8⟩, y, z⟩ := id hW
  have w := WA_p2 hW
  have hM2 := hM
  unfold MA at hM2
  rw [← gret9 hW] at hk
  have hgl : ∀ k, itr (gretM a s) k (aboA a) < 2 ^ a 1 := fun k => by rw [(gret_all s k).1]; exact (gret_all s k).2.2.2
  have key : ∀ n, n ≤ 9 → rn E (d + 4) 279 K 22 [.ref 106, .int (nI s), .int (nI (itr (gretM a s) n (aboA a))), .int (nI n), am_mk, am_mk] [] mi ml := dn_ind 9 (by
    intro n hn ih
    apply rg_X10_greatest_22
    simp (disch := omega) only [ni_lt, ni_le, ni_eq, ni_cl, ni_in, nI_add, ni_mul, ni_and, ni_or, ni_xor, ni_dif, ni_bit, ni_b0, ni_b1, ni_nM, nM_ni, nM_lt, lt_nM, nM_le, le_nM, ni_shl, Nat.not_lt_zero, Nat.zero_add, Nat.add_zero, si_t, si_f, not_true_eq_false, not_false_eq_true, true_implies, false_implies, true_and, and_true, forall_const]
    refine ⟨fun q => ?_, fun q => ?_⟩
    · have e : n = 9 := by omega
      subst e
      exact hk
    · have ih := ih (by omega)
      rw [itr_succ] at ih
      have hgn := hgl n
      generalize itr (gretM a s) n (aboA a) = u at *
      have inner : ∀ i, i ≤ a 1 → rn E (d + 4) 279 K 34 [.ref 106, .int (nI s), .int (nI u), .int (nI n), .int (nI (bset (fun p => u.testBit p && decide (pc (seesA a p &&& u) < needA a s p)) i)), .int (nI i)] [] mi ml := dn_ind (a 1) (by
        intro i hi ih2
        apply rg_X10_greatest_34
        simp (disch := omega) only [ni_lt, ni_le, ni_eq, ni_cl, ni_in, nI_add, ni_mul, ni_and, ni_or, ni_xor, ni_dif, ni_bit, ni_b0, ni_b1, ni_nM, nM_ni, nM_lt, lt_nM, nM_le, le_nM, ni_shl, Nat.not_lt_zero, Nat.zero_add, Nat.add_zero, si_t, si_f, not_true_eq_false, not_false_eq_true, true_implies, false_implies, true_and, and_true, forall_const, hM2]
        refine ⟨fun q2 => ?_, fun q2 => ?_⟩
        · have e : i = a 1 := by omega
          subst e
          exact ih
        · have ih2 := ih2 (by omega)
          rw [bset_if] at ih2
          refine ⟨fun q3 => ?_, fun q3 => ?_⟩
          · rw [show u.testBit i = false by simpa using q3] at ih2
            simpa using ih2
          · rw [show u.testBit i = true by simpa using q3] at ih2
            apply s_seenByM hM hW (by omega)
            apply rg_X10_greatest_61
            have hs2 := sees_lt hW i
            have hl2 := and_lt (y := u) hs2
            rw [ni_and]
            apply s_bits (by omega)
            apply rg_X10_greatest_66
            apply s_needOf hM hW (by omega) hs
            apply rg_X10_greatest_73
            have hn2 := needA_le hW s (show i < a 1 by omega)
            have hpc := pc_le (seesA a i &&& u)
            simp (disch := omega) only [ni_lt, ni_le, ni_eq, ni_cl, ni_in, nI_add, ni_mul, ni_and, ni_or, ni_xor, ni_dif, ni_bit, ni_b0, ni_b1, ni_nM, nM_ni, nM_lt, lt_nM, nM_le, le_nM, ni_shl, Nat.not_lt_zero, Nat.zero_add, Nat.add_zero, si_t, si_f, not_true_eq_false, not_false_eq_true, true_implies, false_implies, true_and, and_true, forall_const]
            refine ⟨fun q4 => ?_, fun q4 => ?_⟩
            · rw [decide_eq_false (by omega)] at ih2
              simpa using ih2
            · rw [decide_eq_true (by omega)] at ih2
              simpa using ih2)
      exact inner 0 (Nat.zero_le _))
  exact key 0 (Nat.zero_le _)
theorem fold_in {f : Nat → Nat → Nat} (h : ∀ u x, f u x = u ∨ f u x = x) : ∀ n x, foldN f n x < n ∨ foldN f n x = x
  | 0, _ => Or.inr rfl
  | n + 1, x => by
    rw [foldN_s]
    rcases h n (foldN f n x) with e | e
    · left; omega
    · rw [e]
      rcases fold_in h n x with z | z
      · left; omega
      · exact Or.inr z
theorem s_seedsOf {E : am_E} {d : Nat} {K : am_K} {mi : Nat → Nat → Int32} {ml : Nat → Nat → Int64} {a : Nat → Nat} (hM : MA a mi) (hW : WA a) {s : Nat} (hs : s < 64) (hk : ∀ mi', frR mi mi' → K (some (.int (nI (foldN (seedS a s) (2 ^ a 1) (aboA a))))) (S0, mi', ml)) : cq E (d + 6) 280 [.ref 106, .int (nI s)] K mi ml := by
  obtain ⟨⟨x0, x1, x2, x3, x4, x5, x6, x7, x8⟩, y, z⟩ := id hW
  have w := WA_p2 hW
  have hp2 := p2_pos (a 1)
  have hab := abo_lt hW
  have key : ∀ i, i ≤ 2 ^ a 1 → ∀ mi', frR mi mi' → rn E (d + 5) 280 K 7 [.ref 106, .int (nI s), .int (nI (foldN (seedS a s) i (aboA a))), .int (nI i)] [] mi' ml := dn_ind (2 ^ a 1) (by
    intro i hi ih mi' hf
    have hM' := MA_fr hM hf
    have hM2 := hM'
    unfold MA at hM2
    have hx : foldN (seedS a s) i (aboA a) < 256 := foldN_lt (fun u x hu hx => by unfold seedS; split <;> assumption) (by omega) hab
    have hx2 : foldN (seedS a s) i (aboA a) < i ∨ foldN (seedS a s) i (aboA a) = aboA a := fold_in (fun u x => by unfold seedS; split <;> simp) i (aboA a)
    apply rg_X10_seedsOf_7
    have hl := and_lt (y := a 7) (show i < 2147483648 by omega)
    simp (disch := omega) only [ni_lt, ni_le, ni_eq, ni_cl, ni_in, nI_add, ni_mul, ni_and, ni_or, ni_xor, ni_dif, ni_bit, ni_b0, ni_b1, ni_nM, nM_ni, nM_lt, lt_nM, nM_le, le_nM, ni_shl, Nat.not_lt_zero, Nat.zero_add, Nat.add_zero, si_t, si_f, not_true_eq_false, not_false_eq_true, true_implies, false_implies, true_and, and_true, forall_const, hM2, ni_all]
    refine ⟨fun q => ?_, fun q => ?_⟩
    · have e : i = 2 ^ a 1 := by omega
      subst e
      exact hk mi' hf
    · have ih := ih (by omega)
      rw [foldN_s] at ih
      generalize foldN (seedS a s) i (aboA a) = x at *
      unfold seedS at ih
      have hda := dif_abo (a := a) (u := i) (by omega)
      have e1 := pc_le i
      have e2 := pc_le x
      refine ⟨fun q2 => ?_, fun q2 => ?_⟩
      · rw [if_neg (fun z => q2 (by rw [← hda]; exact z.1))] at ih
        exact ih mi' hf
      · apply s_bits (by omega)
        apply rg_X10_seedsOf_31
        apply s_bits (by omega)
        apply rg_X10_seedsOf_35
        simp (disch := omega) only [ni_lt, ni_le, ni_eq, ni_cl, ni_in, nI_add, ni_mul, ni_and, ni_or, ni_xor, ni_dif, ni_bit, ni_b0, ni_b1, ni_nM, nM_ni, nM_lt, lt_nM, nM_le, le_nM, ni_shl, Nat.not_lt_zero, Nat.zero_add, Nat.add_zero, si_t, si_f, not_true_eq_false, not_false_eq_true, true_implies, false_implies, true_and, and_true, forall_const]
        refine ⟨fun q3 => ?_, fun q3 => ?_⟩
        · rw [if_neg (by omega)] at ih
          exact ih mi' hf
        · apply s_bits (by omega)
          apply rg_X10_seedsOf_42
          apply s_bits (by omega)
          apply rg_X10_seedsOf_46
          have go : pc i < pc x → cq E (d + 5) 244 [.ref 106] (kc E (d + 5) 280 K 62 [.ref 106, .int (nI s), .int (nI x), .int (nI i)] [.ref 106]) mi' ml := by
            intro hlt
            apply s_aboardM hM' hW
            apply rg_X10_seedsOf_62
            apply s_risingOf hM' hW hs hab (by omega) (by omega)
            intro mi2 hf2 _ _
            apply rg_X10_seedsOf_69
            apply s_aboardM (MA_fr hM' hf2) hW
            apply rg_X10_seedsOf_73
            rw [rest9 hW s (aboA a) (show i < 2 ^ a 1 by omega)]
            have hu := itr_lt (a := a) (s := s) (c := aboA a) (a 1) (up := i) (by omega)
            simp (disch := omega) only [ni_lt, ni_le, ni_eq, ni_cl, ni_in, nI_add, ni_mul, ni_and, ni_or, ni_xor, ni_dif, ni_bit, ni_b0, ni_b1, ni_nM, nM_ni, nM_lt, lt_nM, nM_le, le_nM, ni_shl, Nat.not_lt_zero, Nat.zero_add, Nat.add_zero, si_t, si_f, not_true_eq_false, not_false_eq_true, true_implies, false_implies, true_and, and_true, forall_const]
            have ih := ih mi2 (frR_tr hf hf2)
            refine ⟨fun q4 => ?_, fun q4 => ?_⟩
            · rw [if_neg (fun z => q4 z.2.2)] at ih; exact ih
            · rw [if_pos ⟨by rw [hda]; exact Classical.byContradiction q2, hlt, Classical.byContradiction q4⟩] at ih
              exact ih
          simp (disch := omega) only [ni_lt, ni_le, ni_eq, ni_cl, ni_in, nI_add, ni_mul, ni_and, ni_or, ni_xor, ni_dif, ni_bit, ni_b0, ni_b1, ni_nM, nM_ni, nM_lt, lt_nM, nM_le, le_nM, ni_shl, Nat.not_lt_zero, Nat.zero_add, Nat.add_zero, si_t, si_f, not_true_eq_false, not_false_eq_true, true_implies, false_implies, true_and, and_true, forall_const]
          refine ⟨fun q4 => go (by omega), fun q4 => ⟨fun q5 => ?_, fun q5 => ?_⟩⟩
          · exfalso
            rcases hx2 with z | z
            · omega
            · subst z
              have hsub : ∀ j, i.testBit j = true → (aboA a).testBit j = true := by
                intro j hj
                have q6 : i &&& a 7 = 0 := Classical.byContradiction q2
                rw [← hda] at q6
                have : (ndif i (aboA a)).testBit j = false := by rw [q6, Nat.zero_testBit]
                rw [tb_dif, hj] at this
                simpa using this
              have := pc_ssub hsub (by omega) (by omega) (by omega)
              omega
          · rw [if_neg (by omega)] at ih
            exact ih mi' hf)
  apply en_X10_seedsOf
  apply s_aboardM hM hW
  apply rg_X10_seedsOf_4
  exact key 0 (Nat.zero_le _) mi frR_rfl
theorem s_weightOfM {E : am_E} {d : Nat} {K : am_K} {mi : Nat → Nat → Int32} {ml : Nat → Nat → Int64} {a : Nat → Nat} (hM : MA a mi) (hW : WA a) {p s : Nat} (hp : p < a 1) (hs : s < 64) (hk : ∀ mi', frR mi mi' → K (some (.int (nI (weiA a s p)))) (S0, mi', ml)) : cq E (d + 7) 283 [.ref 106, .int (nI p), .int (nI s)] K mi ml := by
  have w1 := hW.1.2.1
  have w := WA_p2 hW
  have hab := abo_lt hW
  have hd : ndif (aboA a) (1 <<< p) < 256 := dif_lt (n := 8) hab
  have h1 := out_lt a (aboA a) s
  have h2 := out_lt a (ndif (aboA a) (1 <<< p)) s
  have h3 := dif_lt (b := 1 <<< p) h1
  apply en_X10_weightOf
  apply s_aboardM hM hW
  apply rg_X10_weightOf_5
  apply s_outOfM hM hW hs hab
  intro mi1 hf1
  have hM1 := MA_fr hM hf1
  apply rg_X10_weightOf_9
  apply s_aboardM hM1 hW
  apply rg_X10_weightOf_21
  simp (disch := omega) only [ni_lt, ni_le, ni_eq, ni_cl, ni_in, nI_add, ni_mul, ni_and, ni_or, ni_xor, ni_dif, ni_bit, ni_b0, ni_b1, ni_nM, nM_ni, nM_lt, lt_nM, nM_le, le_nM, ni_shl, Nat.not_lt_zero, Nat.zero_add, Nat.add_zero, si_t, si_f, not_true_eq_false, not_false_eq_true, true_implies, false_implies, true_and, and_true, forall_const]
  apply s_outOfM hM1 hW hs hd
  intro mi2 hf2
  apply rg_X10_weightOf_31
  apply s_bits (by omega)
  apply rg_X10_weightOf_37
  apply s_bits (by omega)
  apply rg_X10_weightOf_42
  rw [ni_sub (wei_ok a s p)]
  exact hk mi2 (frR_tr hf1 hf2)
theorem s_keystoneM {E : am_E} {d : Nat} {K : am_K} {mi : Nat → Nat → Int32} {ml : Nat → Nat → Int64} {a : Nat → Nat} (hM : MA a mi) (hW : WA a) {s : Nat} (hs : s < 64) (hk : ∀ mi', frR mi mi' → K (some (.int (nP (foldN (keyS a s) (a 1) 0)))) (S0, am_si mi' 106 2 (nI (if foldN (keyS a s) (a 1) 0 = 0 then 6 else 0)), ml)) : rn E (d + 7) 285 K 19 [.ref 106, .int (nI s), .int nM, .int (nI 0)] [] mi ml := by
  obtain ⟨⟨x0, x1, x2, x3, x4, x5, x6, x7, x8⟩, y, z⟩ := id hW
  have w := WA_p2 hW
  have key : ∀ i, i ≤ a 1 → ∀ mi', frR mi mi' → rn E (d + 7) 285 K 19 [.ref 106, .int (nI s), .int (nP (foldN (keyS a s) i 0)), .int (nI i)] [] mi' ml := dn_ind (a 1) (by
    intro i hi ih mi' hf
    have hM' := MA_fr hM hf
    have hM2 := hM'
    unfold MA at hM2
    have hxi : foldN (keyS a s) i 0 ≤ i := foldN_le (fun u x hx => by unfold keyS; split <;> omega) i
    apply rg_X10_keystone_19
    simp (disch := omega) only [ni_lt, ni_le, ni_eq, ni_cl, ni_in, nI_add, ni_mul, ni_and, ni_or, ni_xor, ni_dif, ni_bit, ni_b0, ni_b1, ni_nM, nM_ni, nM_lt, lt_nM, nM_le, le_nM, ni_shl, Nat.not_lt_zero, Nat.zero_add, Nat.add_zero, si_t, si_f, not_true_eq_false, not_false_eq_true, true_implies, false_implies, true_and, and_true, forall_const, hM2]
    refine ⟨fun q => ?_, fun q => ?_⟩
    · have e : i = a 1 := by omega
      subst e
      have hk := hk mi' hf
      generalize foldN (keyS a s) (a 1) 0 = x at *
      match x, hxi, hk with
      | 0, _, hk => exact ⟨fun q2 => absurd rfl q2, fun _ => hk⟩
      | k + 1, hxi, hk =>
        rw [nP_s, if_neg (by omega)] at hk
        rw [nP_s]
        exact ⟨fun _ => hk, fun q2 => absurd (fun z => (ni_nM (by omega)).mp z) q2⟩
    · have ih := ih (by omega)
      rw [foldN_s] at ih
      have hab : (aboA a).testBit i = !(a 7).testBit i := by rw [tb_abo]; simp [show i < a 1 by omega]
      generalize foldN (keyS a s) i 0 = x at *
      unfold keyS at ih
      rw [hab] at ih
      refine ⟨fun q2 => ?_, fun q2 => ?_⟩
      · have q3 : (a 7).testBit i = false := by simpa using q2
        rw [q3] at ih
        match x, hxi, ih with
        | 0, _, ih =>
          have ih := ih mi' hf
          rw [if_pos (show (!false) = true ∧ ((0 : Nat) = 0 ∨ _) from ⟨rfl, Or.inl rfl⟩)] at ih
          exact ⟨fun _ => ih, fun q4 => absurd rfl q4⟩
        | k + 1, hxi, ih =>
          rw [nP_s]
          simp (disch := omega) only [ni_lt, ni_le, ni_eq, ni_cl, ni_in, nI_add, ni_mul, ni_and, ni_or, ni_xor, ni_dif, ni_bit, ni_b0, ni_b1, ni_nM, nM_ni, nM_lt, lt_nM, nM_le, le_nM, ni_shl, Nat.not_lt_zero, Nat.zero_add, Nat.add_zero, si_t, si_f, not_true_eq_false, not_false_eq_true, true_implies, false_implies, true_and, and_true, forall_const]
          apply s_weightOfM hM' hW (by omega) hs
          intro mi2 hf2
          apply rg_X10_keystone_48
          apply s_weightOfM (MA_fr hM' hf2) hW (by omega) hs
          intro mi3 hf3
          apply rg_X10_keystone_54
          have ih := ih mi3 (frR_tr hf (frR_tr hf2 hf3))
          have l1 := wei_le a s i
          have l2 := wei_le a s k
          simp (disch := omega) only [ni_lt, ni_le, ni_eq, ni_cl, ni_in, nI_add, ni_mul, ni_and, ni_or, ni_xor, ni_dif, ni_bit, ni_b0, ni_b1, ni_nM, nM_ni, nM_lt, lt_nM, nM_le, le_nM, ni_shl, Nat.not_lt_zero, Nat.zero_add, Nat.add_zero, si_t, si_f, not_true_eq_false, not_false_eq_true, true_implies, false_implies, true_and, and_true, forall_const]
          refine ⟨fun q4 => ?_, fun q4 => ?_⟩
          · rw [if_neg (by
              intro z
              have h5 : k + 1 - 1 = k := rfl
              rw [h5] at z
              omega)] at ih
            exact ih
          · rw [if_pos ⟨rfl, Or.inr (by show weiA a s k < _; omega)⟩] at ih
            exact ih
      · have q3 : (a 7).testBit i = true := by simpa using q2
        rw [q3, if_neg (fun z => absurd z.1 (by decide))] at ih
        exact ih mi' hf)
  exact key 0 (Nat.zero_le _) mi frR_rfl
theorem s_luring {E : am_E} {d : Nat} {K : am_K} {mi : Nat → Nat → Int32} {ml : Nat → Nat → Int64} {a : Nat → Nat} (hM : MA a mi) (hW : WA a) {p : Nat} (hp : p < a 1) (hk : ∀ mi', frR mi mi' → K (some (.int (nP (foldN (lureS a p) (2 ^ a 0) 0)))) (S0, mi', ml)) : cq E (d + 7) 286 [.ref 106, .int (nI p)] K mi ml := by
  obtain ⟨⟨x0, x1, x2, x3, x4, x5, x6, x7, x8⟩, y, z⟩ := id hW
  have w := WA_p2 hW
  have hp2 := p2_pos (a 0)
  have hab := abo_lt hW
  have key : ∀ i, i ≤ 2 ^ a 0 → ∀ mi', frR mi mi' → rn E (d + 6) 286 K 4 [.ref 106, .int (nI p), .int (nP (foldN (lureS a p) i 0)), .int (nI i)] [] mi' ml := dn_ind (2 ^ a 0) (by
    intro i hi ih mi' hf
    have hM' := MA_fr hM hf
    have hM2 := hM'
    unfold MA at hM2
    apply rg_X10_luring_4
    simp (disch := omega) only [ni_lt, ni_le, ni_eq, ni_cl, ni_in, nI_add, ni_mul, ni_and, ni_or, ni_xor, ni_dif, ni_bit, ni_b0, ni_b1, ni_nM, nM_ni, nM_lt, lt_nM, nM_le, le_nM, ni_shl, Nat.not_lt_zero, Nat.zero_add, Nat.add_zero, si_t, si_f, not_true_eq_false, not_false_eq_true, true_implies, false_implies, true_and, and_true, forall_const, hM2, ni_all]
    refine ⟨fun q => ?_, fun q => ?_⟩
    · have e : i = 2 ^ a 0 := by omega
      subst e
      exact hk mi' hf
    · have hx : foldN (lureS a p) i 0 ≤ i := foldN_le (fun u x hx => by
        unfold lureS; split <;> omega) i
      have ih := ih (by omega)
      rw [foldN_s] at ih
      generalize foldN (lureS a p) i 0 = x at *
      unfold lureS at ih
      have fin : (x = 0 ∨ pc i < pc (x - 1)) → cq E (d + 6) 244 [.ref 106] (kc E (d + 6) 286 K 34 [.ref 106, .int (nI p), .int (nP x), .int (nI i)] [.ref 106, .ref 106]) mi' ml := by
        intro hx0
        apply s_aboardM hM' hW
        apply rg_X10_luring_34
        apply s_outOfM hM' hW (by omega) hab
        intro mi2 hf2
        apply rg_X10_luring_38
        have h1 := out_lt a (aboA a) i
        have ih := ih mi2 (frR_tr hf hf2)
        simp (disch := omega) only [ni_lt, ni_le, ni_eq, ni_cl, ni_in, nI_add, ni_mul, ni_and, ni_or, ni_xor, ni_dif, ni_bit, ni_b0, ni_b1, ni_nM, nM_ni, nM_lt, lt_nM, nM_le, le_nM, ni_shl, Nat.not_lt_zero, Nat.zero_add, Nat.add_zero, si_t, si_f, not_true_eq_false, not_false_eq_true, true_implies, false_implies, true_and, and_true, forall_const]
        refine ⟨fun q2 => ?_, fun q2 => ?_⟩
        · rw [if_neg (fun z => q2 z.2)] at ih
          exact ih
        · rw [if_pos ⟨hx0, Classical.byContradiction q2⟩] at ih
          exact ih
      match x, hx, ih, fin with
      | 0, hx, ih, fin => exact ⟨fun _ => fin (Or.inl rfl), fun q2 => absurd rfl q2⟩
      | y + 1, hx, ih, fin =>
        have hp1 := pc_le i
        have hp2 := pc_le y
        rw [nP_s] at fin ⊢
        simp (disch := omega) only [ni_lt, ni_le, ni_eq, ni_cl, ni_in, nI_add, ni_mul, ni_and, ni_or, ni_xor, ni_dif, ni_bit, ni_b0, ni_b1, ni_nM, nM_ni, nM_lt, lt_nM, nM_le, le_nM, ni_shl, Nat.not_lt_zero, Nat.zero_add, Nat.add_zero, si_t, si_f, not_true_eq_false, not_false_eq_true, true_implies, false_implies, true_and, and_true, forall_const]
        apply s_bits (by omega)
        apply rg_X10_luring_21
        apply s_bits (by omega)
        apply rg_X10_luring_25
        simp (disch := omega) only [ni_lt, ni_le, ni_eq, ni_cl, ni_in, nI_add, ni_mul, ni_and, ni_or, ni_xor, ni_dif, ni_bit, ni_b0, ni_b1, ni_nM, nM_ni, nM_lt, lt_nM, nM_le, le_nM, ni_shl, Nat.not_lt_zero, Nat.zero_add, Nat.add_zero, si_t, si_f, not_true_eq_false, not_false_eq_true, true_implies, false_implies, true_and, and_true, forall_const]
        refine ⟨fun q3 => ?_, fun q3 => fin (Or.inr (by show _ < pc y; omega))⟩
        have ih := ih mi' hf
        rw [if_neg (by
          intro z
          have h5 : y + 1 - 1 = y := rfl
          rw [h5] at z
          omega)] at ih
        exact ih)
  apply en_X10_luring
  exact key 0 (Nat.zero_le _) mi frR_rfl
theorem s_bestOmensM {E : am_E} {d : Nat} {K : am_K} {mi : Nat → Nat → Int32} {ml : Nat → Nat → Int64} {a : Nat → Nat} (hM : MA a mi) (hW : WA a) (hk : ∀ mi', frR mi mi' → K (some (.int (nI (foldN (bestS a) (2 ^ a 0) 0)))) (S0, mi', ml)) : cq E (d + 7) 289 [.ref 106] K mi ml := by
  obtain ⟨⟨x0, x1, x2, x3, x4, x5, x6, x7, x8⟩, y, z⟩ := id hW
  have w := WA_p2 hW
  have hp2 := p2_pos (a 0)
  have hab := abo_lt hW
  have key : ∀ i, i ≤ 2 ^ a 0 → 1 ≤ i → ∀ mi', frR mi mi' → rn E (d + 6) 289 K 4 [.ref 106, .int (nI (foldN (bestS a) i 0)), .int (nI i), am_mk] [] mi' ml := dn_ind (2 ^ a 0) (by
    intro i hi ih h1 mi' hf
    have hM' := MA_fr hM hf
    have hM2 := hM'
    unfold MA at hM2
    apply rg_X10_bestOmens_4
    simp (disch := omega) only [ni_lt, ni_le, ni_eq, ni_cl, ni_in, nI_add, ni_mul, ni_and, ni_or, ni_xor, ni_dif, ni_bit, ni_b0, ni_b1, ni_nM, nM_ni, nM_lt, lt_nM, nM_le, le_nM, ni_shl, Nat.not_lt_zero, Nat.zero_add, Nat.add_zero, si_t, si_f, not_true_eq_false, not_false_eq_true, true_implies, false_implies, true_and, and_true, forall_const, hM2, ni_all]
    refine ⟨fun q => ?_, fun q => ?_⟩
    · have e : i = 2 ^ a 0 := by omega
      subst e
      exact hk mi' hf
    · have hx : foldN (bestS a) i 0 < 64 := foldN_lt (B := 64) (fun u x hu hx => by unfold bestS; split <;> assumption) (by omega) (by omega)
      have ih := ih (by omega) (by omega)
      rw [foldN_s] at ih
      generalize foldN (bestS a) i 0 = x at *
      unfold bestS at ih
      have l1 := out_lt a (aboA a) i
      have l2 := out_lt a (aboA a) x
      have e1 := pc_le (outA a (aboA a) x)
      have e2 := pc_le (outA a (aboA a) i)
      have e3 := pc_le x
      have e4 := pc_le i
      apply s_aboardM hM' hW
      apply rg_X10_bestOmens_17
      apply s_outOfM hM' hW (by omega) hab
      intro mi2 hf2
      have hM3 := MA_fr hM' hf2
      apply rg_X10_bestOmens_21
      apply s_bits (by omega)
      apply rg_X10_bestOmens_24
      apply s_aboardM hM3 hW
      apply rg_X10_bestOmens_29
      apply s_outOfM hM3 hW (by omega) hab
      intro mi3 hf3
      apply rg_X10_bestOmens_33
      apply s_bits (by omega)
      apply rg_X10_bestOmens_36
      have ih := ih mi3 (frR_tr hf (frR_tr hf2 hf3))
      rw [ni_gt0 (by omega) (by omega)]
      refine ⟨fun q2 => ?_, fun q2 => ⟨fun q3 => ?_, fun q3 => ?_⟩⟩
      · rw [if_pos (Or.inl q2)] at ih
        simp (disch := omega) only [ni_lt, ni_le, ni_eq, ni_cl, ni_in, nI_add, ni_mul, ni_and, ni_or, ni_xor, ni_dif, ni_bit, ni_b0, ni_b1, ni_nM, nM_ni, nM_lt, lt_nM, nM_le, le_nM, ni_shl, Nat.not_lt_zero, Nat.zero_add, Nat.add_zero, si_t, si_f, not_true_eq_false, not_false_eq_true, true_implies, false_implies, true_and, and_true, forall_const]
        exact ih
      · rw [if_neg (by
          rintro (z | ⟨z, -⟩)
          · omega
          · rw [z] at q3
            exact q3 (by rw [ni_sub (Nat.le_refl _), Nat.sub_self]))] at ih
        simp (disch := omega) only [ni_lt, ni_le, ni_eq, ni_cl, ni_in, nI_add, ni_mul, ni_and, ni_or, ni_xor, ni_dif, ni_bit, ni_b0, ni_b1, ni_nM, nM_ni, nM_lt, lt_nM, nM_le, le_nM, ni_shl, Nat.not_lt_zero, Nat.zero_add, Nat.add_zero, si_t, si_f, not_true_eq_false, not_false_eq_true, true_implies, false_implies, true_and, and_true, forall_const]
        exact ih
      · have q4 : pc (outA a (aboA a) i) = pc (outA a (aboA a) x) := by
          have := Classical.byContradiction q3
          have h5 := ni_subI (h := pc (outA a (aboA a) i)) (s := pc (outA a (aboA a) x)) (by omega) (by omega)
          rw [this] at h5
          have h6 : (nI 0).toInt = 0 := by decide
          omega
        apply s_bits (by omega)
        apply rg_X10_bestOmens_50
        apply s_bits (by omega)
        apply rg_X10_bestOmens_54
        simp (disch := omega) only [ni_lt, ni_le, ni_eq, ni_cl, ni_in, nI_add, ni_mul, ni_and, ni_or, ni_xor, ni_dif, ni_bit, ni_b0, ni_b1, ni_nM, nM_ni, nM_lt, lt_nM, nM_le, le_nM, ni_shl, Nat.not_lt_zero, Nat.zero_add, Nat.add_zero, si_t, si_f, not_true_eq_false, not_false_eq_true, true_implies, false_implies, true_and, and_true, forall_const]
        refine ⟨fun q5 => ?_, fun q5 => ?_⟩
        · rw [if_neg (by omega)] at ih; exact ih
        · rw [if_pos (Or.inr ⟨q4, by omega⟩)] at ih; exact ih)
  apply en_X10_bestOmens
  have e : foldN (bestS a) 1 0 = 0 := by
    show bestS a 0 0 = 0
    unfold bestS
    split <;> rfl
  have := key 1 (by omega) (by omega) mi frR_rfl
  rw [e] at this
  exact this
