/-! The abstract boat: a k as the reference lays it (0 omens, 1 people, 2 plank, 3 habit, 4 odds, 5 calls, 6 shown, 7 out, 10.. pulls, 16+4p hold, sat, excused, blind); the class's boat at b holds it. -/
def seesA (a : Nat → Nat) (p : Nat) : Nat := ndif (ndif (2 ^ a 1 - 1) (a (16 + 4 * p + 3))) (1 <<< p)
def aboA (a : Nat → Nat) : Nat := ndif (2 ^ a 1 - 1) (a 7)
def WA (a : Nat → Nat) : Prop := (a 0 ≤ 6 ∧ a 1 ≤ 8 ∧ 1 ≤ a 2 ∧ a 2 ≤ 9 ∧ a 3 ≤ 3 ∧ a 4 ≤ 16 ∧ a 5 ≤ 99999 ∧ a 6 < 2 ^ a 0 ∧ a 7 < 2 ^ a 1) ∧ (∀ o, o < a 0 → 1 ≤ a (10 + o) ∧ a (10 + o) ≤ 5) ∧ (∀ p, p < a 1 → a (16 + 4 * p) ≤ 9 ∧ a (16 + 4 * p + 1) ≤ 99999 ∧ a (16 + 4 * p + 2) < 2 ^ a 0 ∧ a (16 + 4 * p + 3) < 2 ^ a 1 ∧ (a (16 + 4 * p + 3)).testBit p = false)
def CB (b : Nat) (a : Nat → Nat) (mi : Nat → Nat → Int32) : Prop := (mi b 0 = nI (a 2) ∧ mi b 1 = nI (a 3) ∧ mi b 2 = nI (a 4) ∧ mi b 3 = nI (a 5) ∧ mi b 4 = nI (a 0) ∧ mi b 5 = nI (a 1) ∧ mi b 6 = nI (a 6) ∧ mi b 7 = nI (aboA a)) ∧ (∀ o, o < a 0 → mi (b + 1) o = nI (a (10 + o))) ∧ (∀ p, p < a 1 → mi (b + 3) p = nI (a (16 + 4 * p)) ∧ mi (b + 4) p = nI (a (16 + 4 * p + 1)) ∧ mi (b + 5) p = nI (a (16 + 4 * p + 2)) ∧ mi (b + 6) p = nI (seesA a p))
/-- all cells but one are as they were -/
def fr1 (c : Nat) (mi mi' : Nat → Nat → Int32) : Prop := ∀ k, k ≠ c → mi' k = mi k
theorem fr1_rfl {c : Nat} {mi : Nat → Nat → Int32} : fr1 c mi mi := fun _ _ => rfl
theorem fr1_tr {c : Nat} {mi mi' mi'' : Nat → Nat → Int32} (h : fr1 c mi mi') (h2 : fr1 c mi' mi'') : fr1 c mi mi'' := fun k hk => by rw [h2 k hk, h k hk]
theorem CB_fr {b : Nat} {a : Nat → Nat} {mi mi' : Nat → Nat → Int32} (h : CB b a mi) (hf : fr1 (b + 8) mi mi') : CB b a mi' := by
  unfold CB at *
  rw [hf b (by omega), hf (b + 1) (by omega), hf (b + 3) (by omega), hf (b + 4) (by omega), hf (b + 5) (by omega), hf (b + 6) (by omega)]
  exact h
theorem WA_p2 {a : Nat → Nat} (h : WA a) : 2 ^ a 0 ≤ 64 ∧ 2 ^ a 1 ≤ 256 := ⟨p2_le (k := 6) h.1.1, p2_le (k := 8) h.1.2.1⟩
theorem p2_pos (n : Nat) : 1 ≤ 2 ^ n := Nat.one_le_two_pow
theorem all_lt (n : Nat) : 2 ^ n - 1 < 2 ^ n := by have := p2_pos n; omega
theorem sees_lt {a : Nat → Nat} (h : WA a) (p : Nat) : seesA a p < 256 := Nat.lt_of_lt_of_le (dif_lt (dif_lt (all_lt _))) (WA_p2 h).2
theorem abo_lt {a : Nat → Nat} (h : WA a) : aboA a < 256 := Nat.lt_of_lt_of_le (dif_lt (all_lt _)) (WA_p2 h).2
theorem abo_lt2 (a : Nat → Nat) : aboA a < 2 ^ a 1 := dif_lt (all_lt _)
theorem tb_abo (a : Nat → Nat) (p : Nat) : (aboA a).testBit p = (decide (p < a 1) && !(a 7).testBit p) := by
  unfold aboA
  rw [tb_dif, tb_all]
theorem tb_sees (a : Nat → Nat) (p q : Nat) : (seesA a p).testBit q = (decide (q < a 1) && !(a (16 + 4 * p + 3)).testBit q && !decide (q = p)) := by
  unfold seesA
  rw [tb_dif, tb_dif, tb_all, tb_1shl]
/-- the pull of a set of omens on who excuses x -/
def pullS (a : Nat → Nat) (x s : Nat) (n : Nat) : Nat := nsum (fun o => if (ndif s x).testBit o then a (10 + o) else 0) n
theorem pullS_s (a : Nat → Nat) (x s i : Nat) : pullS a x s (i + 1) = pullS a x s i + (if (ndif s x).testBit i then a (10 + i) else 0) := rfl
theorem pullS_le {a : Nat → Nat} (h : WA a) (x s : Nat) : ∀ {n}, n ≤ a 0 → pullS a x s n ≤ 30 := by
  intro n hn
  have h1 : nsum (fun o => if (ndif s x).testBit o then a (10 + o) else 0) n ≤ n * 5 := nsum_bd (fun k hk => by
    split
    · exact (h.2.1 k (by omega)).2
    · omega)
  have := h.1.1
  have : n * 5 ≤ 6 * 5 := Nat.mul_le_mul_right 5 (by omega)
  unfold pullS
  omega
def needF (a : Nat → Nat) (h x s : Nat) : Nat := h - pullS a x s (a 0)
def needA (a : Nat → Nat) (s p : Nat) : Nat := needF a (a (16 + 4 * p)) (a (16 + 4 * p + 2)) s
theorem needF_le (a : Nat → Nat) {h : Nat} (x s : Nat) (hh : h ≤ 9) : needF a h x s ≤ 9 := by unfold needF; omega
theorem s_needWith {E : am_E} {d : Nat} {K : am_K} {mi : Nat → Nat → Int32} {ml : Nat → Nat → Int64} {b : Nat} (hb : bt b) {a : Nat → Nat} (hC : CB b a mi) (hW : WA a) {h p s : Nat} (hh : h ≤ 9) (hp : p < a 1) (hs : s < 64) (hk : K (some (.int (nI (needF a h (a (16 + 4 * p + 2)) s)))) (S0, mi, ml)) : cq E (d + 1) 23 [.ref b, .int (nI h), .int (nI p), .int (nI s)] K mi ml := by
  obtain ⟨⟨c0, c1, c2, c3, c4, c5, c6, c7⟩, cp, cq⟩ := hC
  have w0 := hW.1.1
  have w1 := hW.1.2.1
  obtain ⟨-, -, cx, -⟩ := cq p hp
  generalize a (16 + 4 * p + 2) = x at *
  have hf : ndif s x < 64 := dif_lt (n := 6) hs
  have key : ∀ i, i ≤ a 0 → rn E d 23 K 18 [.ref b, am_mk, am_mk, am_mk, .int (nI (ndif s x)), .int (nI h - nI (pullS a x s i)), .int (nI i)] [] mi ml := dn_ind (a 0) (by
    intro i hi ih
    have hl := pullS_le hW x s hi
    apply rg_X0_needWith_18 hb
    simp (disch := omega) only [ni_lt, ni_le, ni_eq, ni_cl, ni_in, nI_add, ni_mul, ni_and, ni_or, ni_xor, ni_dif, ni_bit, ni_b0, ni_b1, ni_nM, nM_ni, nM_lt, lt_nM, nM_le, le_nM, ni_shl, Nat.not_lt_zero, Nat.zero_add, Nat.add_zero, si_t, si_f, not_true_eq_false, not_false_eq_true, true_implies, false_implies, true_and, and_true, forall_const, c4, ni_le0]
    refine ⟨fun q => ?_, fun q => ?_⟩
    · have e : i = a 0 := by omega
      subst e
      refine ⟨fun q2 => ?_, fun q2 => ?_⟩
      · have : needF a h x s = 0 := by unfold needF; omega
        rw [← this]; exact hk
      · rw [ni_sub (by omega)]; exact hk
    · have ih := ih (by omega)
      refine ⟨fun q2 => ?_, fun q2 => ⟨by omega, ?_⟩⟩
      · have : pullS a x s (i + 1) = pullS a x s i := by
          rw [pullS_s, if_neg (by rw [q2]; decide)]; rfl
        rw [this] at ih
        exact ih
      · rw [cp i (by omega), nI_subsub]
        have : pullS a x s (i + 1) = pullS a x s i + a (10 + i) := by
          rw [pullS_s, if_pos (by simpa using q2)]
        rw [this] at ih
        exact ih)
  apply en_X0_needWith hb
  simp (disch := omega) only [ni_lt, ni_le, ni_eq, ni_cl, ni_in, nI_add, ni_mul, ni_and, ni_or, ni_xor, ni_dif, ni_bit, ni_b0, ni_b1, ni_nM, nM_ni, nM_lt, lt_nM, nM_le, le_nM, ni_shl, Nat.not_lt_zero, Nat.zero_add, Nat.add_zero, si_t, si_f, not_true_eq_false, not_false_eq_true, true_implies, false_implies, true_and, and_true, forall_const, cx]
  refine ⟨by omega, ?_⟩
  have := key 0 (by omega)
  rw [show nI h - nI (pullS a x s 0) = nI h from by rw [ni_sub (by exact Nat.zero_le _)]; rfl] at this
  exact this
/-- the needs that were measured lie in the cell b + 8 -/
def NB (b : Nat) (a : Nat → Nat) (s : Nat) (mi : Nat → Nat → Int32) : Prop := ∀ p, p < a 1 → mi (b + 8) p = nI (needA a s p)
theorem s_measure {E : am_E} {d : Nat} {K : am_K} {mi : Nat → Nat → Int32} {ml : Nat → Nat → Int64} {b : Nat} (hb : bt b) {a : Nat → Nat} (hC : CB b a mi) (hW : WA a) {s : Nat} (hs : s < 64) (hk : ∀ mi', fr1 (b + 8) mi mi' → CB b a mi' → NB b a s mi' → K none (S0, mi', ml)) : cq E (d + 2) 25 [.ref b, .int (nI s)] K mi ml := by
  have w1 := hW.1.2.1
  have key : ∀ i, i ≤ a 1 → ∀ mi', fr1 (b + 8) mi mi' → (∀ p, p < i → mi' (b + 8) p = nI (needA a s p)) → rn E (d + 1) 25 K 2 [.ref b, .int (nI s), .int (nI i)] [] mi' ml := dn_ind (a 1) (by
    intro i hi ih mi' hf hn
    have hC' := CB_fr hC hf
    obtain ⟨⟨c0, c1, c2, c3, c4, c5, c6, c7⟩, cp, cr⟩ := id hC'
    apply rg_X0_measureNeeds_2 hb
    simp (disch := omega) only [ni_lt, ni_le, ni_eq, ni_cl, ni_in, nI_add, ni_mul, ni_and, ni_or, ni_xor, ni_dif, ni_bit, ni_b0, ni_b1, ni_nM, nM_ni, nM_lt, lt_nM, nM_le, le_nM, ni_shl, Nat.not_lt_zero, Nat.zero_add, Nat.add_zero, si_t, si_f, not_true_eq_false, not_false_eq_true, true_implies, false_implies, true_and, and_true, forall_const, c5]
    refine ⟨fun q => ?_, fun q => ⟨by omega, ?_⟩⟩
    · exact hk mi' hf hC' (fun p hp => hn p (by omega))
    · have ih := ih (by omega)
      obtain ⟨ch, -, -, -⟩ := cr i (by omega)
      have hw := (hW.2.2 i (by omega)).1
      rw [ch]
      apply s_needWith hb hC' hW hw (by omega) hs
      apply rg_X0_measureNeeds_27 hb
      simp (disch := omega) only [ni_lt, ni_le, ni_eq, ni_cl, ni_in, nI_add, ni_mul, ni_and, ni_or, ni_xor, ni_dif, ni_bit, ni_b0, ni_b1, ni_nM, nM_ni, nM_lt, lt_nM, nM_le, le_nM, ni_shl, Nat.not_lt_zero, Nat.zero_add, Nat.add_zero, si_t, si_f, not_true_eq_false, not_false_eq_true, true_implies, false_implies, true_and, and_true, forall_const]
      refine ⟨by omega, ih _ ?_ ?_⟩
      · intro k hk
        rw [← hf k hk]
        funext j
        show (if k = b + 8 then _ else _) = _
        rw [if_neg hk]
      · intro p hp
        show (if b + 8 = b + 8 then _ else _) = _
        rw [if_pos rfl]
        split
        · next e => subst e; rfl
        · exact hn p (by omega))
  apply en_X0_measureNeeds hb
  exact key 0 (by omega) mi fr1_rfl (fun p hp => absurd hp (Nat.not_lt_zero _))
def contA (a : Nat → Nat) (s c up : Nat) : Nat := bset (fun p => c.testBit p && decide (needA a s p ≤ pc (seesA a p &&& up))) (a 1)
theorem and_lt {x y n : Nat} (h : x < n) : x &&& y < n := Nat.lt_of_le_of_lt Nat.and_le_left h
theorem needA_le {a : Nat → Nat} (hW : WA a) (s : Nat) {p : Nat} (hp : p < a 1) : needA a s p ≤ 9 := needF_le _ _ _ (hW.2.2 p hp).1
theorem s_content {E : am_E} {d : Nat} {K : am_K} {mi : Nat → Nat → Int32} {ml : Nat → Nat → Int64} {b : Nat} (hb : bt b) {a : Nat → Nat} (hC : CB b a mi) (hW : WA a) {s c up : Nat} (hN : NB b a s mi) (hc : c < 256) (hk : K (some (.int (nI (contA a s c up)))) (S0, mi, ml)) : cq E (d + 2) 26 [.ref b, .int (nI c), .int (nI up)] K mi ml := by
  obtain ⟨⟨c0, c1, c2, c3, c4, c5, c6, c7⟩, cp, cr⟩ := hC
  have w1 := hW.1.2.1
  have key : ∀ i, i ≤ a 1 → rn E (d + 1) 26 K 5 [.ref b, .int (nI c), .int (nI up), .int (nI (bset (fun p => c.testBit p && decide (needA a s p ≤ pc (seesA a p &&& up))) i)), .int (nI i)] [] mi ml := dn_ind (a 1) (by
    intro i hi ih
    apply rg_X0_content_5 hb
    simp (disch := omega) only [ni_lt, ni_le, ni_eq, ni_cl, ni_in, nI_add, ni_mul, ni_and, ni_or, ni_xor, ni_dif, ni_bit, ni_b0, ni_b1, ni_nM, nM_ni, nM_lt, lt_nM, nM_le, le_nM, ni_shl, Nat.not_lt_zero, Nat.zero_add, Nat.add_zero, si_t, si_f, not_true_eq_false, not_false_eq_true, true_implies, false_implies, true_and, and_true, forall_const, c5]
    refine ⟨fun q => ?_, fun q => ?_⟩
    · have e : i = a 1 := by omega
      subst e
      exact hk
    · have ih := ih (by omega)
      rw [bset_if] at ih
      obtain ⟨-, -, -, cs⟩ := cr i (by omega)
      have hs := sees_lt hW i
      have hn := needA_le hW s (show i < a 1 by omega)
      have hpc := pc_le (seesA a i &&& up)
      have hl := and_lt (y := up) hs
      rw [cs, hN i (by omega), ni_and, bc_pc (by omega)]
      simp (disch := omega) only [ni_lt, ni_le, ni_eq, ni_cl, ni_in, nI_add, ni_mul, ni_and, ni_or, ni_xor, ni_dif, ni_bit, ni_b0, ni_b1, ni_nM, nM_ni, nM_lt, lt_nM, nM_le, le_nM, ni_shl, Nat.not_lt_zero, Nat.zero_add, Nat.add_zero, si_t, si_f, not_true_eq_false, not_false_eq_true, true_implies, false_implies, true_and, and_true, forall_const]
      refine ⟨fun q2 => ?_, fun q2 => ⟨by omega, by omega, fun q3 => ?_, fun q3 => ?_⟩⟩
      · rw [q2] at ih
        simpa using ih
      · rw [show decide (needA a s i ≤ pc (seesA a i &&& up)) = false from decide_eq_false (by omega)] at ih
        simpa using ih
      · rw [show decide (needA a s i ≤ pc (seesA a i &&& up)) = true from decide_eq_true (by omega)] at ih
        simpa [q2] using ih)
  apply en_X0_content hb
  exact key 0 (by omega)
def riseA (a : Nat → Nat) (s c up : Nat) : Nat := up ||| contA a s c up
theorem cont_lt {a : Nat → Nat} (s c up : Nat) : contA a s c up < 2 ^ a 1 := bset_lt _ _
theorem rise_lt {a : Nat → Nat} {s c up : Nat} (h : up < 2 ^ a 1) : riseA a s c up < 2 ^ a 1 := Nat.or_lt_two_pow h (cont_lt s c up)
theorem itr_lt {a : Nat → Nat} {s c : Nat} : ∀ n {up}, up < 2 ^ a 1 → itr (riseA a s c) n up < 2 ^ a 1
  | 0, _, h => h
  | n + 1, _, h => itr_lt n (rise_lt h)
theorem s_upBehind {E : am_E} {d : Nat} {K : am_K} {mi : Nat → Nat → Int32} {ml : Nat → Nat → Int64} {b : Nat} (hb : bt b) {a : Nat → Nat} (hC : CB b a mi) (hW : WA a) {s c up m : Nat} (hN : NB b a s mi) (hc : c < 256) (hu : up < 2 ^ a 1) (hm : m < 100) (hk : K (some (.int (nI (itr (riseA a s c) m up)))) (S0, mi, ml)) : cq E (d + 3) 27 [.ref b, .int (nI c), .int (nI up), .int (nI m)] K mi ml := by
  have w := WA_p2 hW
  have key : ∀ i, i ≤ m → ∀ u, u < 2 ^ a 1 → itr (riseA a s c) (m - i) u = itr (riseA a s c) m up → rn E (d + 2) 27 K 6 [.ref b, .int (nI c), am_mk, .int (nI m), .int (nI u), .int (nI i), am_mk] [] mi ml := dn_ind m (by
    intro i hi ih u hu e
    apply rg_X0_upBehind_6 hb
    simp (disch := omega) only [ni_lt, ni_le, ni_eq, ni_cl, ni_in, nI_add, ni_mul, ni_and, ni_or, ni_xor, ni_dif, ni_bit, ni_b0, ni_b1, ni_nM, nM_ni, nM_lt, lt_nM, nM_le, le_nM, ni_shl, Nat.not_lt_zero, Nat.zero_add, Nat.add_zero, si_t, si_f, not_true_eq_false, not_false_eq_true, true_implies, false_implies, true_and, and_true, forall_const]
    refine ⟨fun q => ?_, fun q => ?_⟩
    · rw [show m - i = 0 by omega] at e
      rw [← e] at hk
      exact hk
    · apply s_content hb hC hW hN hc
      apply rg_X0_upBehind_21 hb
      have hr := rise_lt (s := s) (c := c) hu
      rw [ni_or]
      show (¬ nI (riseA a s c u) = nI u → rn E (d + 2) 27 K 6 [.ref b, .int (nI c), am_mk, .int (nI m), .int (nI (riseA a s c u)), .int (nI i + nI 1), am_mk] [] mi ml) ∧ (¬ ¬ nI (riseA a s c u) = nI u → _)
      simp (disch := omega) only [ni_lt, ni_le, ni_eq, ni_cl, ni_in, nI_add, ni_mul, ni_and, ni_or, ni_xor, ni_dif, ni_bit, ni_b0, ni_b1, ni_nM, nM_ni, nM_lt, lt_nM, nM_le, le_nM, ni_shl, Nat.not_lt_zero, Nat.zero_add, Nat.add_zero, si_t, si_f, not_true_eq_false, not_false_eq_true, true_implies, false_implies, true_and, and_true, forall_const]
      refine ⟨fun q2 => ?_, fun q2 => ?_⟩
      · refine ih (by omega) _ hr ?_
        rw [← e, show m - i = (m - (i + 1)) + 1 by omega]
        rfl
      · have : riseA a s c u = u := Classical.byContradiction q2
        rw [itr_fix this] at e
        rw [← e] at hk
        exact hk)
  apply en_X0_upBehind hb
  exact key 0 (by omega) up hu rfl
def outA (a : Nat → Nat) (c s : Nat) : Nat := itr (riseA a s c) (a 2) 0
theorem out_lt (a : Nat → Nat) (c s : Nat) : outA a c s < 2 ^ a 1 := itr_lt _ (by have := p2_pos (a 1); omega)
theorem s_outOf {E : am_E} {d : Nat} {K : am_K} {mi : Nat → Nat → Int32} {ml : Nat → Nat → Int64} {b : Nat} (hb : bt b) {a : Nat → Nat} (hC : CB b a mi) (hW : WA a) {s c : Nat} (hs : s < 64) (hc : c < 256) (hk : ∀ mi', fr1 (b + 8) mi mi' → CB b a mi' → K (some (.int (nI (outA a c s)))) (S0, mi', ml)) : cq E (d + 4) 28 [.ref b, .int (nI c), .int (nI s)] K mi ml := by
  have w2 := hW.1.2.2.2.1
  apply en_X0_outOf hb
  apply s_measure hb hC hW hs
  intro mi' hf hC' hN
  apply rg_X0_outOf_5 hb
  rw [hC'.1.1]
  apply s_upBehind hb hC' hW hN hc (by have := p2_pos (a 1); omega) (by omega)
  apply rg_X0_outOf_15 hb
  exact hk mi' hf hC'
