/-! What would be: the class's study of the ship (12). -/
def nP (n : Nat) : Int32 := match n with
  | 0 => nM
  | k + 1 => nI k
theorem nP_s (k : Nat) : nP (k + 1) = nI k := rfl
def foldN (f : Nat → Nat → Nat) : Nat → Nat → Nat
  | 0, x => x
  | n + 1, x => f n (foldN f n x)
theorem foldN_s (f : Nat → Nat → Nat) (n x : Nat) : foldN f (n + 1) x = f n (foldN f n x) := rfl
theorem CB12 {a : Nat → Nat} {mi : Nat → Nat → Int32} (h : CB 12 a mi) : (mi 12 0 = nI (a 2) ∧ mi 12 1 = nI (a 3) ∧ mi 12 2 = nI (a 4) ∧ mi 12 3 = nI (a 5) ∧ mi 12 4 = nI (a 0) ∧ mi 12 5 = nI (a 1) ∧ mi 12 6 = nI (a 6) ∧ mi 12 7 = nI (aboA a)) ∧ (∀ o, o < a 0 → mi 13 o = nI (a (10 + o))) ∧ (∀ p, p < a 1 → mi 15 p = nI (a (16 + 4 * p))) ∧ (∀ p, p < a 1 → mi 16 p = nI (a (16 + 4 * p + 1))) ∧ (∀ p, p < a 1 → mi 17 p = nI (a (16 + 4 * p + 2))) ∧ (∀ p, p < a 1 → mi 18 p = nI (seesA a p)) :=
  ⟨h.1, h.2.1, fun p hp => (h.2.2 p hp).1, fun p hp => (h.2.2 p hp).2.1, fun p hp => (h.2.2 p hp).2.2.1, fun p hp => (h.2.2 p hp).2.2.2⟩
theorem s_roundOfRising {E : am_E} {d : Nat} {K : am_K} {mi : Nat → Nat → Int32} {ml : Nat → Nat → Int64} {a : Nat → Nat} (hC : CB 12 a mi) (hW : WA a) {p s : Nat} (hp : p < a 1) (hs : s < 64) (hk : ∀ mi', fr1 20 mi mi' → CB 12 a mi' → K (some (.int (if roseF (riseA a s (aboA a)) 0 (a 1) p = 0 then nM else nI (roseF (riseA a s (aboA a)) 0 (a 1) p)))) (S0, mi', ml)) : cq E (d + 3) 51 [.ref 55, .int (nI p), .int (nI s)] K mi ml := by
  have w1 := hW.1.2.1
  have w := WA_p2 hW
  apply en_X4_roundOfRising
  apply s_measure bt_12 hC hW hs
  intro mi' hf hC' hN
  obtain ⟨⟨c0, c1, c2, c3, c4, c5, c6, c7⟩, cp, ch, ct, cx, cs⟩ := CB12 hC'
  have hk := hk mi' hf hC'
  apply rg_X4_roundOfRising_8
  have key : ∀ i, i ≤ a 1 → (∀ j, j ≤ i → roseF (riseA a s (aboA a)) 0 j p = 0) → (itr (riseA a s (aboA a)) i 0).testBit p = false → rn E (d + 2) 51 K 13 [.ref 55, .int (nI p), am_mk, .int (nI (itr (riseA a s (aboA a)) i 0)), .int (nI (i + 1))] [] mi' ml := dn_ind (a 1) (by
    intro i hi ih h0 hb
    have hu := itr_lt (a := a) (s := s) (c := aboA a) i (up := 0) (by have := p2_pos (a 1); omega)
    have hu2 := itr_lt (a := a) (s := s) (c := aboA a) (i + 1) (up := 0) (by have := p2_pos (a 1); omega)
    apply rg_X4_roundOfRising_13
    simp (disch := omega) only [ni_lt, ni_le, ni_eq, ni_cl, ni_in, nI_add, ni_mul, ni_and, ni_or, ni_xor, ni_dif, ni_bit, ni_b0, ni_b1, ni_nM, nM_ni, nM_lt, lt_nM, nM_le, le_nM, ni_shl, Nat.not_lt_zero, Nat.zero_add, Nat.add_zero, si_t, si_f, not_true_eq_false, not_false_eq_true, true_implies, false_implies, true_and, and_true, forall_const, c5]
    refine ⟨fun q => ?_, fun q => ?_⟩
    · have e : i = a 1 := by omega
      subst e
      rw [h0 _ (Nat.le_refl _), if_pos rfl] at hk
      exact hk
    · rw [c7]
      apply s_content bt_12 hC' hW hN (abo_lt hW)
      apply rg_X4_roundOfRising_41
      have e : nI (itr (riseA a s (aboA a)) i 0) ||| nI (contA a s (aboA a) (itr (riseA a s (aboA a)) i 0)) = nI (itr (riseA a s (aboA a)) (i + 1) 0) := by
        rw [ni_or, itr_succ]; rfl
      rw [e]
      simp (disch := omega) only [ni_lt, ni_le, ni_eq, ni_cl, ni_in, nI_add, ni_mul, ni_and, ni_or, ni_xor, ni_dif, ni_bit, ni_b0, ni_b1, ni_nM, nM_ni, nM_lt, lt_nM, nM_le, le_nM, ni_shl, Nat.not_lt_zero, Nat.zero_add, Nat.add_zero, si_t, si_f, not_true_eq_false, not_false_eq_true, true_implies, false_implies, true_and, and_true, forall_const]
      have hr : roseF (riseA a s (aboA a)) 0 (i + 1) p = if (itr (riseA a s (aboA a)) (i + 1) 0).testBit p && !(itr (riseA a s (aboA a)) i 0).testBit p then i + 1 else roseF (riseA a s (aboA a)) 0 i p := rfl
      refine ⟨fun q2 => ?_, fun q2 => ?_⟩
      · refine ih (by omega) (fun j hj => ?_) q2
        rcases Nat.lt_or_ge j (i + 1) with z | z
        · exact h0 j (by omega)
        · have : j = i + 1 := by omega
          subst this
          rw [hr, q2, h0 i (Nat.le_refl _)]
          rfl
      · have q3 : (itr (riseA a s (aboA a)) (i + 1) 0).testBit p = true := by simpa using q2
        rw [q3, hb] at hr
        have hst : ∀ k, (itr (riseA a s (aboA a)) (i + 1 + k) 0).testBit p = true ∧ roseF (riseA a s (aboA a)) 0 (i + 1 + k) p = i + 1 := by
          intro k
          induction k with
          | zero => exact ⟨q3, by simpa using hr⟩
          | succ k ih2 =>
            constructor
            · rw [← Nat.add_assoc, itr_succ]
              unfold riseA
              rw [Nat.testBit_or]
              show ((itr (riseA a s (aboA a)) (i + 1 + k) 0).testBit p || _) = true
              rw [ih2.1]; rfl
            · show (if (itr (riseA a s (aboA a)) (i + 1 + k + 1) 0).testBit p && !(itr (riseA a s (aboA a)) (i + 1 + k) 0).testBit p then _ else roseF (riseA a s (aboA a)) 0 (i + 1 + k) p) = _
              rw [ih2.1, ih2.2]
              simp
        have := (hst (a 1 - (i + 1))).2
        rw [show i + 1 + (a 1 - (i + 1)) = a 1 by omega] at this
        rw [this, if_neg (by omega)] at hk
        exact hk)
  exact key 0 (by omega) (fun j hj => by have : j = 0 := by omega
                                         subst this; rfl) (by exact Nat.zero_testBit p)
theorem s_restSet {E : am_E} {d : Nat} {K : am_K} {mi : Nat → Nat → Int32} {ml : Nat → Nat → Int64} {a : Nat → Nat} (hC : CB 12 a mi) (hW : WA a) {s : Nat} (hs : s < 64) (hk : ∀ mi', fr1 20 mi mi' → CB 12 a mi' → K (some (.int (nI (itr (riseA a s (aboA a)) (a 1) 0)))) (S0, mi', ml)) : cq E (d + 4) 52 [.ref 55, .int (nI s)] K mi ml := by
  have w1 := hW.1.2.1
  apply en_X4_restSet
  apply s_measure bt_12 hC hW hs
  intro mi' hf hC' hN
  apply rg_X4_restSet_8
  rw [hC'.1.2.2.2.2.2.1, hC'.1.2.2.2.2.2.2.2]
  apply s_upBehind bt_12 hC' hW hN (abo_lt hW) (by have := p2_pos (a 1); omega) (by omega)
  apply rg_X4_restSet_30
  exact hk mi' hf hC'
theorem rndF_all {f : Nat → Nat} {up : Nat} : ∀ i, (∀ j, j < i → ¬ itr f (j + 1) up = itr f j up) → rndF f up i = i
  | 0, _ => rfl
  | i + 1, h => by
    show (if itr f (i + 1) up = itr f i up then rndF f up i else i + 1) = _
    rw [if_neg (h i (by omega))]
theorem s_roundsToRest {E : am_E} {d : Nat} {K : am_K} {mi : Nat → Nat → Int32} {ml : Nat → Nat → Int64} {a : Nat → Nat} (hC : CB 12 a mi) (hW : WA a) {s : Nat} (hs : s < 64) (hk : ∀ mi', fr1 20 mi mi' → CB 12 a mi' → K (some (.int (nI (rndF (riseA a s (aboA a)) 0 (a 1))))) (S0, mi', ml)) : cq E (d + 3) 53 [.ref 55, .int (nI s)] K mi ml := by
  have w1 := hW.1.2.1
  have w := WA_p2 hW
  apply en_X4_roundsToRest
  apply s_measure bt_12 hC hW hs
  intro mi' hf hC' hN
  obtain ⟨⟨c0, c1, c2, c3, c4, c5, c6, c7⟩, cp, ch, ct, cx, cs⟩ := CB12 hC'
  have hk := hk mi' hf hC'
  apply rg_X4_roundsToRest_8
  have key : ∀ i, i ≤ a 1 → (∀ j, j < i → ¬ itr (riseA a s (aboA a)) (j + 1) 0 = itr (riseA a s (aboA a)) j 0) → rn E (d + 2) 53 K 12 [.ref 55, am_mk, .int (nI (itr (riseA a s (aboA a)) i 0)), .int (nI i), am_mk] [] mi' ml := dn_ind (a 1) (by
    intro i hi ih h0
    have hu := itr_lt (a := a) (s := s) (c := aboA a) i (up := 0) (by have := p2_pos (a 1); omega)
    have hu2 := itr_lt (a := a) (s := s) (c := aboA a) (i + 1) (up := 0) (by have := p2_pos (a 1); omega)
    apply rg_X4_roundsToRest_12
    simp (disch := omega) only [ni_lt, ni_le, ni_eq, ni_cl, ni_in, nI_add, ni_mul, ni_and, ni_or, ni_xor, ni_dif, ni_bit, ni_b0, ni_b1, ni_nM, nM_ni, nM_lt, lt_nM, nM_le, le_nM, ni_shl, Nat.not_lt_zero, Nat.zero_add, Nat.add_zero, si_t, si_f, not_true_eq_false, not_false_eq_true, true_implies, false_implies, true_and, and_true, forall_const, c5]
    refine ⟨fun q => ?_, fun q => ?_⟩
    · have e : i = a 1 := by omega
      subst e
      rw [rndF_all _ h0] at hk
      exact hk
    · rw [c7]
      apply s_content bt_12 hC' hW hN (abo_lt hW)
      apply rg_X4_roundsToRest_39
      have e : nI (itr (riseA a s (aboA a)) i 0) ||| nI (contA a s (aboA a) (itr (riseA a s (aboA a)) i 0)) = nI (itr (riseA a s (aboA a)) (i + 1) 0) := by
        rw [ni_or, itr_succ]; rfl
      rw [e]
      simp (disch := omega) only [ni_lt, ni_le, ni_eq, ni_cl, ni_in, nI_add, ni_mul, ni_and, ni_or, ni_xor, ni_dif, ni_bit, ni_b0, ni_b1, ni_nM, nM_ni, nM_lt, lt_nM, nM_le, le_nM, ni_shl, Nat.not_lt_zero, Nat.zero_add, Nat.add_zero, si_t, si_f, not_true_eq_false, not_false_eq_true, true_implies, false_implies, true_and, and_true, forall_const]
      refine ⟨fun q2 => ?_, fun q2 => ?_⟩
      · refine ih (by omega) (fun j hj => ?_)
        rcases Nat.lt_or_ge j i with z | z
        · exact h0 j z
        · have : j = i := by omega
          subst this
          exact q2
      · have q3 := Classical.byContradiction q2
        rw [itr_succ] at q3
        have := rndF_stay q3 (a 1 - i)
        rw [show i + (a 1 - i) = a 1 by omega, rndF_all _ h0] at this
        rw [this] at hk
        exact hk)
  exact key 0 (by omega) (fun j hj => absurd hj (Nat.not_lt_zero _))
theorem s_isRest {E : am_E} {d : Nat} {K : am_K} {mi : Nat → Nat → Int32} {ml : Nat → Nat → Int64} {a : Nat → Nat} (hC : CB 12 a mi) (hW : WA a) {s u : Nat} (hs : s < 64) (hu : u < 256) (hk : ∀ mi', fr1 20 mi mi' → CB 12 a mi' → K (some (.int (nI (b01 (decide (contA a s (aboA a) u = u)))))) (S0, mi', ml)) : cq E (d + 3) 54 [.ref 55, .int (nI u), .int (nI s)] K mi ml := by
  have w := WA_p2 hW
  apply en_X4_isRest
  apply s_measure bt_12 hC hW hs
  intro mi' hf hC' hN
  apply rg_X4_isRest_8
  rw [hC'.1.2.2.2.2.2.2.2]
  apply s_content bt_12 hC' hW hN (abo_lt hW)
  apply rg_X4_isRest_23
  have hl := cont_lt (a := a) s (aboA a) u
  simp (disch := omega) only [ni_lt, ni_le, ni_eq, ni_cl, ni_in, nI_add, ni_mul, ni_and, ni_or, ni_xor, ni_dif, ni_bit, ni_b0, ni_b1, ni_nM, nM_ni, nM_lt, lt_nM, nM_le, le_nM, ni_shl, Nat.not_lt_zero, Nat.zero_add, Nat.add_zero, si_t, si_f, not_true_eq_false, not_false_eq_true, true_implies, false_implies, true_and, and_true, forall_const]
  have hk := hk mi' hf hC'
  refine ⟨fun q => ?_, fun q => ?_⟩
  · rw [decide_eq_false q] at hk; exact hk
  · rw [decide_eq_true (Classical.byContradiction q)] at hk; exact hk
theorem s_countRests {E : am_E} {d : Nat} {K : am_K} {mi : Nat → Nat → Int32} {ml : Nat → Nat → Int64} {a : Nat → Nat} (hC : CB 12 a mi) (hW : WA a) {s : Nat} (hs : s < 64) (hk : ∀ mi', fr1 20 mi mi' → CB 12 a mi' → K (some (.int (nI (nsum (fun u => b01 (decide (contA a s (aboA a) u = u))) (2 ^ a 1))))) (S0, mi', ml)) : cq E (d + 3) 55 [.ref 55, .int (nI s)] K mi ml := by
  have w1 := hW.1.2.1
  have w := WA_p2 hW
  apply en_X4_countRests
  apply s_measure bt_12 hC hW hs
  intro mi' hf hC' hN
  obtain ⟨⟨c0, c1, c2, c3, c4, c5, c6, c7⟩, cp, ch, ct, cx, cs⟩ := CB12 hC'
  have hk := hk mi' hf hC'
  apply rg_X4_countRests_8
  have key : ∀ i, i ≤ 2 ^ a 1 → rn E (d + 2) 55 K 12 [.ref 55, am_mk, .int (nI (nsum (fun u => b01 (decide (contA a s (aboA a) u = u))) i)), .int (nI i)] [] mi' ml := dn_ind (2 ^ a 1) (by
    intro i hi ih
    apply rg_X4_countRests_12
    simp (disch := omega) only [ni_lt, ni_le, ni_eq, ni_cl, ni_in, nI_add, ni_mul, ni_and, ni_or, ni_xor, ni_dif, ni_bit, ni_b0, ni_b1, ni_nM, nM_ni, nM_lt, lt_nM, nM_le, le_nM, ni_shl, Nat.not_lt_zero, Nat.zero_add, Nat.add_zero, si_t, si_f, not_true_eq_false, not_false_eq_true, true_implies, false_implies, true_and, and_true, forall_const, c5, Nat.one_shiftLeft]
    refine ⟨fun q => ?_, fun q => ?_⟩
    · have e : i = 2 ^ a 1 := by omega
      subst e
      exact hk
    · rw [c7]
      apply s_content bt_12 hC' hW hN (abo_lt hW)
      apply rg_X4_countRests_40
      have hl := cont_lt (a := a) s (aboA a) i
      have ih := ih (by omega)
      simp (disch := omega) only [ni_lt, ni_le, ni_eq, ni_cl, ni_in, nI_add, ni_mul, ni_and, ni_or, ni_xor, ni_dif, ni_bit, ni_b0, ni_b1, ni_nM, nM_ni, nM_lt, lt_nM, nM_le, le_nM, ni_shl, Nat.not_lt_zero, Nat.zero_add, Nat.add_zero, si_t, si_f, not_true_eq_false, not_false_eq_true, true_implies, false_implies, true_and, and_true, forall_const]
      unfold nsum at ih
      refine ⟨fun q2 => ?_, fun q2 => ?_⟩
      · rw [decide_eq_false q2] at ih; exact ih
      · rw [decide_eq_true (Classical.byContradiction q2)] at ih; exact ih)
  exact key 0 (Nat.zero_le _)
theorem s_greatestRest {E : am_E} {d : Nat} {K : am_K} {mi : Nat → Nat → Int32} {ml : Nat → Nat → Int64} {a : Nat → Nat} (hC : CB 12 a mi) (hW : WA a) {s : Nat} (hs : s < 64) (hk : ∀ mi', fr1 20 mi mi' → CB 12 a mi' → K (some (.int (nI (itr (contA a s (aboA a)) (a 1) (aboA a))))) (S0, mi', ml)) : cq E (d + 3) 56 [.ref 55, .int (nI s)] K mi ml := by
  have w1 := hW.1.2.1
  have w := WA_p2 hW
  apply en_X4_greatestRest
  apply s_measure bt_12 hC hW hs
  intro mi' hf hC' hN
  obtain ⟨⟨c0, c1, c2, c3, c4, c5, c6, c7⟩, cp, ch, ct, cx, cs⟩ := CB12 hC'
  have hk := hk mi' hf hC'
  apply rg_X4_greatestRest_8
  have key : ∀ i, i ≤ a 1 → rn E (d + 2) 56 K 18 [.ref 55, am_mk, .int (nI (itr (contA a s (aboA a)) i (aboA a))), .int (nI i)] [] mi' ml := dn_ind (a 1) (by
    intro i hi ih
    apply rg_X4_greatestRest_18
    simp (disch := omega) only [ni_lt, ni_le, ni_eq, ni_cl, ni_in, nI_add, ni_mul, ni_and, ni_or, ni_xor, ni_dif, ni_bit, ni_b0, ni_b1, ni_nM, nM_ni, nM_lt, lt_nM, nM_le, le_nM, ni_shl, Nat.not_lt_zero, Nat.zero_add, Nat.add_zero, si_t, si_f, not_true_eq_false, not_false_eq_true, true_implies, false_implies, true_and, and_true, forall_const, c5]
    refine ⟨fun q => ?_, fun q => ?_⟩
    · have e : i = a 1 := by omega
      subst e
      exact hk
    · rw [c7]
      apply s_content bt_12 hC' hW hN (abo_lt hW)
      apply rg_X4_greatestRest_44
      have ih := ih (by omega)
      rw [itr_succ] at ih
      simp (disch := omega) only [ni_lt, ni_le, ni_eq, ni_cl, ni_in, nI_add, ni_mul, ni_and, ni_or, ni_xor, ni_dif, ni_bit, ni_b0, ni_b1, ni_nM, nM_ni, nM_lt, lt_nM, nM_le, le_nM, ni_shl, Nat.not_lt_zero, Nat.zero_add, Nat.add_zero, si_t, si_f, not_true_eq_false, not_false_eq_true, true_implies, false_implies, true_and, and_true, forall_const]
      exact ih)
  rw [c7]
  exact key 0 (Nat.zero_le _)
def seedS (a : Nat → Nat) (s u x : Nat) : Nat := if ndif u (aboA a) = 0 ∧ pc u < pc x ∧ itr (riseA a s (aboA a)) (a 1) u = aboA a then u else x
theorem foldN_lt {f : Nat → Nat → Nat} {B : Nat} (h : ∀ u x, u < B → x < B → f u x < B) : ∀ {n x}, n ≤ B → x < B → foldN f n x < B
  | 0, _, _, hx => hx
  | n + 1, _, hn, hx => h _ _ (by omega) (foldN_lt h (by omega) hx)
theorem s_fewestSeeds {E : am_E} {d : Nat} {K : am_K} {mi : Nat → Nat → Int32} {ml : Nat → Nat → Int64} {a : Nat → Nat} (hC : CB 12 a mi) (hW : WA a) {s : Nat} (hs : s < 64) (hk : ∀ mi', fr1 20 mi mi' → CB 12 a mi' → K (some (.int (nI (foldN (seedS a s) (2 ^ a 1) (aboA a))))) (S0, mi', ml)) : cq E (d + 4) 57 [.ref 55, .int (nI s)] K mi ml := by
  have w1 := hW.1.2.1
  have w := WA_p2 hW
  have hab := abo_lt hW
  apply en_X4_fewestSeeds
  apply s_measure bt_12 hC hW hs
  intro mi' hf hC' hN
  obtain ⟨⟨c0, c1, c2, c3, c4, c5, c6, c7⟩, cp, ch, ct, cx, cs⟩ := CB12 hC'
  have hk := hk mi' hf hC'
  apply rg_X4_fewestSeeds_8
  have key : ∀ i, i ≤ 2 ^ a 1 → rn E (d + 3) 57 K 18 [.ref 55, am_mk, .int (nI (foldN (seedS a s) i (aboA a))), .int (nI i)] [] mi' ml := dn_ind (2 ^ a 1) (by
    intro i hi ih
    have hx : foldN (seedS a s) i (aboA a) < 256 := foldN_lt (fun u x hu hx => by unfold seedS; split <;> assumption) (by omega) hab
    apply rg_X4_fewestSeeds_18
    have hd : ndif i (aboA a) < 2147483648 := by
      have := dif_lt (a := i) (b := aboA a) (n := 9) (by omega); omega
    have hp1 := pc_le i
    have hp2 := pc_le (foldN (seedS a s) i (aboA a))
    simp (disch := omega) only [ni_lt, ni_le, ni_eq, ni_cl, ni_in, nI_add, ni_mul, ni_and, ni_or, ni_xor, ni_dif, ni_bit, ni_b0, ni_b1, ni_nM, nM_ni, nM_lt, lt_nM, nM_le, le_nM, ni_shl, Nat.not_lt_zero, Nat.zero_add, Nat.add_zero, si_t, si_f, not_true_eq_false, not_false_eq_true, true_implies, false_implies, true_and, and_true, forall_const, c5, c7, Nat.one_shiftLeft, bc_pc]
    refine ⟨fun q => ?_, fun q => ?_⟩
    · have e : i = 2 ^ a 1 := by omega
      subst e
      exact hk
    · have ih := ih (by omega)
      rw [foldN_s] at ih
      generalize foldN (seedS a s) i (aboA a) = x at *
      unfold seedS at ih
      refine ⟨fun q2 => ?_, fun q2 => ⟨fun q3 => ?_, fun q3 => ?_⟩⟩
      · rw [if_neg (fun z => q2 z.1)] at ih; exact ih
      · rw [if_neg (fun z => by omega)] at ih; exact ih
      · apply s_upBehind bt_12 hC' hW hN (abo_lt hW) (by omega) (by omega)
        apply rg_X4_fewestSeeds_75
        have hu := itr_lt (a := a) (s := s) (c := aboA a) (a 1) (up := i) (by omega)
        simp (disch := omega) only [ni_lt, ni_le, ni_eq, ni_cl, ni_in, nI_add, ni_mul, ni_and, ni_or, ni_xor, ni_dif, ni_bit, ni_b0, ni_b1, ni_nM, nM_ni, nM_lt, lt_nM, nM_le, le_nM, ni_shl, Nat.not_lt_zero, Nat.zero_add, Nat.add_zero, si_t, si_f, not_true_eq_false, not_false_eq_true, true_implies, false_implies, true_and, and_true, forall_const, c7]
        refine ⟨fun q4 => ?_, fun q4 => ?_⟩
        · rw [if_neg (fun z => q4 z.2.2)] at ih; exact ih
        · rw [if_pos ⟨Classical.byContradiction q2, by omega, Classical.byContradiction q4⟩] at ih; exact ih)
  rw [c7]
  exact key 0 (Nat.zero_le _)
