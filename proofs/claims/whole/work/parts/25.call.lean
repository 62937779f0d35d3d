/-! A call: in the abstract, in the class, in the reference. -/
def outN (a : Nat → Nat) : Nat := a 7 ||| outA a (aboA a) (a 6)
def callQ (a : Nat → Nat) (i k : Nat) : Nat := if 16 ≤ k ∧ k < 16 + 4 * i ∧ (outN a).testBit ((k - 16) / 4) = false then (if k % 4 = 0 then min 9 (a k + a 3) else if k % 4 = 1 then a k + 1 else a k) else a k
def callA (a : Nat → Nat) (k : Nat) : Nat := if k = 5 then a 5 + 1 else if k = 7 then outN a else callQ a (a 1) k
theorem callA_lo (a : Nat → Nat) {k : Nat} (h : k < 16) (h5 : k ≠ 5) (h7 : k ≠ 7) : callA a k = a k := by
  unfold callA callQ
  rw [if_neg h5, if_neg h7, if_neg (by omega)]
theorem callA_5 (a : Nat → Nat) : callA a 5 = a 5 + 1 := rfl
theorem callA_7 (a : Nat → Nat) : callA a 7 = outN a := rfl
theorem callQ_p (a : Nat → Nat) {i p : Nat} (j : Nat) (hj : j < 4) : callQ a i (16 + 4 * p + j) = if p < i ∧ (outN a).testBit p = false then (if j = 0 then min 9 (a (16 + 4 * p + j) + a 3) else if j = 1 then a (16 + 4 * p + j) + 1 else a (16 + 4 * p + j)) else a (16 + 4 * p + j) := by
  unfold callQ
  rw [show (16 + 4 * p + j - 16) / 4 = p by omega, show (16 + 4 * p + j) % 4 = j by omega]
  by_cases h : p < i
  · by_cases h2 : (outN a).testBit p = false
    · have c1 : 16 ≤ 16 + 4 * p + j ∧ 16 + 4 * p + j < 16 + 4 * i ∧ (outN a).testBit p = false := ⟨by omega, by omega, h2⟩
      have c2 : p < i ∧ (outN a).testBit p = false := ⟨h, h2⟩
      rw [if_pos c1, if_pos c2]
    · rw [if_neg (fun z => h2 z.2.2), if_neg (fun z => h2 z.2)]
  · rw [if_neg (fun z => h (by omega)), if_neg (fun z => h z.1)]
theorem callA_p (a : Nat → Nat) {p : Nat} (j : Nat) (hj : j < 4) : callA a (16 + 4 * p + j) = callQ a (a 1) (16 + 4 * p + j) := by
  unfold callA
  rw [if_neg (by omega), if_neg (by omega)]
theorem outN_lt {a : Nat → Nat} (h : WA a) : outN a < 2 ^ a 1 := Nat.or_lt_two_pow h.1.2.2.2.2.2.2.2.2 (out_lt a _ _)
theorem WA_call {a : Nat → Nat} (h : WA a) (h5 : a 5 < 99999) (hs : ∀ p, p < a 1 → a (16 + 4 * p + 1) < 99999) : WA (callA a) := by
  obtain ⟨⟨x0, x1, x2, x3, x4, x5, x6, x7, x8⟩, y, z⟩ := id h
  have e1 : callA a 1 = a 1 := callA_lo a (by omega) (by omega) (by omega)
  have e0 : callA a 0 = a 0 := callA_lo a (by omega) (by omega) (by omega)
  refine ⟨⟨?_, ?_, ?_, ?_, ?_, ?_, ?_, ?_, ?_⟩, ?_, ?_⟩
  · rw [e0]; exact x0
  · rw [e1]; exact x1
  · rw [callA_lo a (by omega) (by omega) (by omega)]; exact x2
  · rw [callA_lo a (by omega) (by omega) (by omega)]; exact x3
  · rw [callA_lo a (by omega) (by omega) (by omega)]; exact x4
  · rw [callA_lo a (by omega) (by omega) (by omega)]; exact x5
  · rw [callA_5]; omega
  · rw [callA_lo a (by omega) (by omega) (by omega), e0]; exact x7
  · rw [callA_7, e1]; exact outN_lt h
  · intro o ho
    rw [e0] at ho
    rw [callA_lo a (by omega) (by omega) (by omega)]; exact y o ho
  · intro p hp
    rw [e1] at hp ⊢
    obtain ⟨z1, z2, z3, z4, z5⟩ := z p hp
    have q0 := callA_p a (p := p) 0 (by omega)
    have q1 := callA_p a (p := p) 1 (by omega)
    have q2 := callA_p a (p := p) 2 (by omega)
    have q3 := callA_p a (p := p) 3 (by omega)
    rw [callQ_p a 0 (by omega)] at q0
    rw [callQ_p a 1 (by omega)] at q1
    rw [callQ_p a 2 (by omega)] at q2
    rw [callQ_p a 3 (by omega)] at q3
    simp only [Nat.add_zero, if_true] at q0
    simp only [Nat.one_ne_zero, if_true, if_false] at q1
    simp only [show ¬ (2 : Nat) = 0 by omega, show ¬ (2 : Nat) = 1 by omega, if_false, ite_self] at q2
    simp only [show ¬ (3 : Nat) = 0 by omega, show ¬ (3 : Nat) = 1 by omega, if_false, ite_self] at q3
    have hz := hs p hp
    refine ⟨?_, ?_, ?_, ?_, ?_⟩
    · rw [q0]; split <;> omega
    · rw [q1]; split <;> omega
    · rw [q2, e0]; exact z3
    · rw [q3]; exact z4
    · rw [q3]; exact z5
theorem sees_call (a : Nat → Nat) (p : Nat) : seesA (callA a) p = seesA a p := by
  unfold seesA
  have q3 := callA_p a (p := p) 3 (by omega)
  rw [callQ_p a 3 (by omega)] at q3
  simp only [show ¬ (3 : Nat) = 0 by omega, show ¬ (3 : Nat) = 1 by omega, if_false, ite_self] at q3
  rw [q3, callA_lo a (by omega) (by omega) (by omega)]
theorem abo_call (a : Nat → Nat) : aboA (callA a) = ndif (aboA a) (outA a (aboA a) (a 6)) := by
  apply Nat.eq_of_testBit_eq
  intro i
  rw [tb_abo, tb_dif, tb_abo, callA_7, callA_lo a (by omega) (by omega) (by omega)]
  unfold outN
  rw [Nat.testBit_or]
  cases (a 7).testBit i <;> simp
/-- what a call leaves changed, beside the needs -/
def frC (b : Nat) (mi mi' : Nat → Nat → Int32) : Prop := ∀ k, (k < b ∨ b + 8 < k) → mi' k = mi k
theorem s_makeCall {E : am_E} {d : Nat} {K : am_K} {mi : Nat → Nat → Int32} {ml : Nat → Nat → Int64} {b : Nat} (hb : bt b) {a : Nat → Nat} (hC : CB b a mi) (hW : WA a) (hk : ∀ mi', frC b mi mi' → CB b (callA a) mi' → K (some (.int (nI (outA a (aboA a) (a 6))))) (S0, mi', ml)) : cq E (d + 4) 30 [.ref b] K mi ml := by
  obtain ⟨⟨x0, x1, x2, x3, x4, x5, x6, x7, x8⟩, y, z⟩ := id hW
  have w := WA_p2 hW
  apply en_X0_makeCall hb
  rw [hC.1.2.2.2.2.2.2.1]
  apply s_measure hb hC hW (by omega)
  intro mi1 hf1 hC1 hN
  apply rg_X0_makeCall_8 hb
  rw [hC1.1.2.2.2.2.2.2.2, hC1.1.1]
  apply s_upBehind hb hC1 hW hN (abo_lt hW) (by have := p2_pos (a 1); omega) (by omega)
  apply rg_X0_makeCall_21 hb
  show rn E (d + 3) 30 K 36 [.ref b, .int (nI (outA a (aboA a) (a 6))), .int (nI 0)] [] (am_si mi1 b 7 (mi1 b 7 &&& (nI (outA a (aboA a) (a 6)) ^^^ nM))) ml
  rw [hC1.1.2.2.2.2.2.2.2, ni_dif, ← abo_call]
  have hab : aboA (callA a) < 256 := by rw [abo_call]; exact dif_lt (n := 8) (abo_lt hW)
  have key : ∀ i, i ≤ a 1 → ∀ mi', frC b mi mi' → (mi' b = am_si mi1 b 7 (nI (aboA (callA a))) b) → mi' (b + 1) = mi1 (b + 1) → mi' (b + 5) = mi1 (b + 5) → mi' (b + 6) = mi1 (b + 6) → (∀ p, p < a 1 → mi' (b + 3) p = nI (callQ a i (16 + 4 * p)) ∧ mi' (b + 4) p = nI (callQ a i (16 + 4 * p + 1))) → rn E (d + 3) 30 K 36 [.ref b, .int (nI (outA a (aboA a) (a 6))), .int (nI i)] [] mi' ml := dn_ind (a 1) (by
    intro i hi ih mi' hf h0 h1 h5 h6 h34
    obtain ⟨⟨c0, c1, c2, c3, c4, c5, c6, c7⟩, cp, cr⟩ := id hC1
    have t1 : mi' b 1 = nI (a 3) := by rw [h0, si_f (by omega)]; exact c1
    have t3 : mi' b 3 = nI (a 5) := by rw [h0, si_f (by omega)]; exact c3
    have t5 : mi' b 5 = nI (a 1) := by rw [h0, si_f (by omega)]; exact c5
    have t7 : mi' b 7 = nI (aboA (callA a)) := by rw [h0, si_t (by omega)]
    apply rg_X0_makeCall_36 hb
    simp (disch := omega) only [ni_lt, ni_le, ni_eq, ni_cl, ni_in, nI_add, ni_mul, ni_and, ni_or, ni_xor, ni_dif, ni_bit, ni_b0, ni_b1, ni_nM, nM_ni, nM_lt, lt_nM, nM_le, le_nM, ni_shl, Nat.not_lt_zero, Nat.zero_add, Nat.add_zero, si_t, si_f, not_true_eq_false, not_false_eq_true, true_implies, false_implies, true_and, and_true, forall_const, t1, t3, t5, t7]
    refine ⟨fun q => ?_, fun q => ?_⟩
    · have e : i = a 1 := by omega
      subst e
      apply hk
      · intro k hk
        funext j
        rw [si_f (by omega), hf k hk]
      · have e1 : callA a 1 = a 1 := callA_lo a (by omega) (by omega) (by omega)
        have e0 : callA a 0 = a 0 := callA_lo a (by omega) (by omega) (by omega)
        refine ⟨⟨?_, ?_, ?_, ?_, ?_, ?_, ?_, ?_⟩, ?_, ?_⟩
        · rw [si_f (by omega), h0, si_f (by omega), c0, callA_lo a (by omega) (by omega) (by omega)]
        · rw [si_f (by omega), t1, callA_lo a (by omega) (by omega) (by omega)]
        · rw [si_f (by omega), h0, si_f (by omega), c2, callA_lo a (by omega) (by omega) (by omega)]
        · rw [si_t (by omega), callA_5]
        · rw [si_f (by omega), h0, si_f (by omega), c4, e0]
        · rw [si_f (by omega), t5, e1]
        · rw [si_f (by omega), h0, si_f (by omega), c6, callA_lo a (by omega) (by omega) (by omega)]
        · rw [si_f (by omega), t7]
        · intro o ho
          rw [e0] at ho
          rw [si_f (by omega), h1, cp o ho, callA_lo a (by omega) (by omega) (by omega)]
        · intro p hp
          rw [e1] at hp
          have q0 := callA_p a (p := p) 0 (by omega)
          have q1 := callA_p a (p := p) 1 (by omega)
          have q2 := callA_p a (p := p) 2 (by omega)
          rw [callQ_p a 2 (by omega)] at q2
          simp only [show ¬ (2 : Nat) = 0 by omega, show ¬ (2 : Nat) = 1 by omega, if_false, ite_self] at q2
          refine ⟨?_, ?_, ?_, ?_⟩
          · rw [si_f (by omega), (h34 p hp).1]; exact congrArg nI q0.symm
          · rw [si_f (by omega), (h34 p hp).2, q1]
          · rw [si_f (by omega), h5, (cr p hp).2.2.1, q2]
          · rw [si_f (by omega), h6, (cr p hp).2.2.2, sees_call]
    · obtain ⟨g3, g4⟩ := h34 i (by omega)
      have hb7 : (aboA (callA a)).testBit i = !(outN a).testBit i := by
        rw [tb_abo, callA_7, callA_lo a (by omega) (by omega) (by omega)]
        simp [show i < a 1 by omega]
      have v0 : callQ a i (16 + 4 * i) = a (16 + 4 * i) := by
        have := callQ_p a (i := i) (p := i) 0 (by omega)
        rw [if_neg (by omega)] at this; exact this
      have v1 : callQ a i (16 + 4 * i + 1) = a (16 + 4 * i + 1) := by
        have := callQ_p a (i := i) (p := i) 1 (by omega)
        rw [if_neg (by omega)] at this; exact this
      obtain ⟨z1, z2, z3, z4, z5⟩ := z i (by omega)
      refine ⟨fun q2 => ?_, fun q2 => ⟨by omega, by omega, by omega, by omega, ?_⟩⟩
      · refine ih (by omega) mi' hf h0 h1 h5 h6 (fun p hp => ?_)
        have hq : (outN a).testBit i = true := by rw [hb7] at q2; simpa using q2
        have r0 := callQ_p a (i := i + 1) (p := p) 0 (by omega)
        have r1 := callQ_p a (i := i + 1) (p := p) 1 (by omega)
        have s0 := callQ_p a (i := i) (p := p) 0 (by omega)
        have s1 := callQ_p a (i := i) (p := p) 1 (by omega)
        have e : (p < i + 1 ∧ (outN a).testBit p = false) ↔ (p < i ∧ (outN a).testBit p = false) := by
          constructor
          · intro ⟨u, v⟩
            refine ⟨?_, v⟩
            rcases Nat.lt_or_ge p i with t | t
            · exact t
            · have : p = i := by omega
              subst this
              rw [hq] at v; cases v
          · intro ⟨u, v⟩; exact ⟨by omega, v⟩
        simp only [e] at r0 r1
        have f0 : callQ a (i + 1) (16 + 4 * p) = callQ a i (16 + 4 * p) := r0.trans s0.symm
        have f1 : callQ a (i + 1) (16 + 4 * p + 1) = callQ a i (16 + 4 * p + 1) := r1.trans s1.symm
        rw [f0, f1]
        exact h34 p hp
      · have hq : (outN a).testBit i = false := by rw [hb7] at q2; simpa using q2
        rw [g3, v0, g4, v1]
        have hmin : (if 9 < a (16 + 4 * i) + a 3 then nI 9 else nI (a (16 + 4 * i) + a 3)) = nI (min 9 (a (16 + 4 * i) + a 3)) := by
          split
          · rw [Nat.min_eq_left (by omega)]
          · rw [Nat.min_eq_right (by omega)]
        simp (disch := omega) only [ni_lt, ni_le, ni_eq, ni_cl, ni_in, nI_add, ni_mul, ni_and, ni_or, ni_xor, ni_dif, ni_bit, ni_b0, ni_b1, ni_nM, nM_ni, nM_lt, lt_nM, nM_le, le_nM, ni_shl, Nat.not_lt_zero, Nat.zero_add, Nat.add_zero, si_t, si_f, not_true_eq_false, not_false_eq_true, true_implies, false_implies, true_and, and_true, forall_const]
        rw [hmin]
        refine ih (by omega) _ ?_ ?_ ?_ ?_ ?_ (fun p hp => ?_)
        · intro k hk
          funext j
          rw [si_f (by omega), si_f (by omega), hf k hk]
        · rw [← h0]; funext j; rw [si_f (by omega), si_f (by omega)]
        · rw [← h1]; funext j; rw [si_f (by omega), si_f (by omega)]
        · rw [← h5]; funext j; rw [si_f (by omega), si_f (by omega)]
        · rw [← h6]; funext j; rw [si_f (by omega), si_f (by omega)]
        · have r0 := callQ_p a (i := i + 1) (p := p) 0 (by omega)
          have r1 := callQ_p a (i := i + 1) (p := p) 1 (by omega)
          have s0 := callQ_p a (i := i) (p := p) 0 (by omega)
          have s1 := callQ_p a (i := i) (p := p) 1 (by omega)
          by_cases hpi : p = i
          · subst hpi
            rw [si_f (by omega), si_t (by omega), si_t (by omega)]
            rw [if_pos ⟨by omega, hq⟩] at r0 r1
            constructor
            · exact congrArg nI r0.symm
            · exact congrArg nI r1.symm
          · rw [si_f (by omega), si_f (by omega), si_f (by omega), si_f (by omega)]
            have e : (p < i + 1 ∧ (outN a).testBit p = false) ↔ (p < i ∧ (outN a).testBit p = false) := by
              constructor
              · intro ⟨u, v⟩; exact ⟨by omega, v⟩
              · intro ⟨u, v⟩; exact ⟨by omega, v⟩
            simp only [e] at r0 r1
            have f0 : callQ a (i + 1) (16 + 4 * p) = callQ a i (16 + 4 * p) := r0.trans s0.symm
            have f1 : callQ a (i + 1) (16 + 4 * p + 1) = callQ a i (16 + 4 * p + 1) := r1.trans s1.symm
            rw [f0, f1]
            exact h34 p hp)
  have hz : ∀ p, p < a 1 → mi1 (b + 3) p = nI (callQ a 0 (16 + 4 * p)) ∧ mi1 (b + 4) p = nI (callQ a 0 (16 + 4 * p + 1)) := fun p hp => by
    have r0 := callQ_p a (i := 0) (p := p) 0 (by omega)
    have r1 := callQ_p a (i := 0) (p := p) 1 (by omega)
    rw [if_neg (by omega)] at r0 r1
    have r0' : callQ a 0 (16 + 4 * p) = a (16 + 4 * p) := r0
    rw [r0', r1]
    exact ⟨(hC1.2.2 p hp).1, (hC1.2.2 p hp).2.1⟩
  refine key 0 (by omega) _ ?_ rfl ?_ ?_ ?_ (fun p hp => ?_)
  · intro k hk
    funext j
    rw [si_f (by omega), hf1 k (by omega)]
  · funext j; rw [si_f (by omega)]
  · funext j; rw [si_f (by omega)]
  · funext j; rw [si_f (by omega)]
  · rw [si_f (by omega), si_f (by omega)]; exact hz p hp
/-- what a call of the reference leaves changed -/
def frD (mi mi' : Nat → Nat → Int32) : Prop := ∀ k j, ¬ (k = 115 ∨ k = 106 ∧ j = 25 ∨ k = 107 ∧ j < 48 ∧ j ≠ 8) → mi' k j = mi k j
theorem s_calling {E : am_E} {d : Nat} {K : am_K} {mi : Nat → Nat → Int32} {ml : Nat → Nat → Int64} {a : Nat → Nat} (hM : MA a mi) (hW : WA a) (hk : ∀ mi', frD mi mi' → MA (callA a) mi' → K (some (.int (nI (outA a (aboA a) (a 6))))) (S0, mi', ml)) : cq E (d + 7) 258 [.ref 106] K mi ml := by
  obtain ⟨⟨x0, x1, x2, x3, x4, x5, x6, x7, x8⟩, y, z⟩ := id hW
  have w := WA_p2 hW
  apply en_X10_calling
  apply s_aboardM hM hW
  apply rg_X10_calling_5
  rw [hM 6 (by omega) (by omega)]
  apply s_outOfM hM hW (by omega) (abo_lt hW)
  intro mi1 hf1
  have hM1 := MA_fr hM hf1
  apply rg_X10_calling_15
  rw [hM1 7 (by omega) (by omega), ni_or]
  show rn E (d + 6) 258 K 29 [.ref 106, .int (nI (outA a (aboA a) (a 6))), .int (nI 0)] [] (am_si mi1 107 7 (nI (outN a))) ml
  have hon := outN_lt hW
  have key : ∀ i, i ≤ a 1 → ∀ mi', frD mi mi' → (∀ k, k < 48 → k ≠ 8 → mi' 107 k = nI (if k = 7 then outN a else callQ a i k)) → rn E (d + 6) 258 K 29 [.ref 106, .int (nI (outA a (aboA a) (a 6))), .int (nI i)] [] mi' ml := dn_ind (a 1) (by
    intro i hi ih mi' hf h
    have t1 : mi' 107 1 = nI (a 1) := h 1 (by omega) (by omega)
    have t3 : mi' 107 3 = nI (a 3) := h 3 (by omega) (by omega)
    have t5 : mi' 107 5 = nI (a 5) := h 5 (by omega) (by omega)
    have t7 : mi' 107 7 = nI (outN a) := h 7 (by omega) (by omega)
    apply rg_X10_calling_29
    simp (disch := omega) only [ni_lt, ni_le, ni_eq, ni_cl, ni_in, nI_add, ni_mul, ni_and, ni_or, ni_xor, ni_dif, ni_bit, ni_b0, ni_b1, ni_nM, nM_ni, nM_lt, lt_nM, nM_le, le_nM, ni_shl, Nat.not_lt_zero, Nat.zero_add, Nat.add_zero, si_t, si_f, not_true_eq_false, not_false_eq_true, true_implies, false_implies, true_and, and_true, forall_const, t1, t3, t5, t7]
    refine ⟨fun q => ?_, fun q => ?_⟩
    · have e : i = a 1 := by omega
      subst e
      apply hk
      · intro k j hkj
        rw [si_f (by omega)]; exact hf k j hkj
      · intro k hk h8
        by_cases h5 : k = 5
        · subst h5; rw [si_t ⟨rfl, rfl⟩, callA_5]
        · rw [si_f (by omega), h k hk h8]
          unfold callA
          rw [if_neg h5]
    · have v0 : callQ a i (16 + 4 * i) = a (16 + 4 * i) := by
        have := callQ_p a (i := i) (p := i) 0 (by omega)
        rw [if_neg (by omega)] at this; exact this
      have v1 : callQ a i (16 + 4 * i + 1) = a (16 + 4 * i + 1) := by
        have := callQ_p a (i := i) (p := i) 1 (by omega)
        rw [if_neg (by omega)] at this; exact this
      have g3 : mi' 107 (16 + 4 * i) = nI (a (16 + 4 * i)) := by rw [h _ (by omega) (by omega), if_neg (by omega), v0]
      have g4 : mi' 107 (16 + 4 * i + 1) = nI (a (16 + 4 * i + 1)) := by rw [h _ (by omega) (by omega), if_neg (by omega), v1]
      obtain ⟨z1, z2, z3, z4, z5⟩ := z i (by omega)
      refine ⟨fun q2 => ⟨by omega, by omega, by omega, by omega, ?_⟩, fun q2 => ?_⟩
      · have hq : (outN a).testBit i = false := by simpa using q2
        rw [g3, g4]
        have hmin : (if a (16 + 4 * i) + a 3 < 9 then nI (a (16 + 4 * i) + a 3) else nI 9) = nI (min 9 (a (16 + 4 * i) + a 3)) := by
          split
          · rw [Nat.min_eq_right (by omega)]
          · rw [Nat.min_eq_left (by omega)]
        simp (disch := omega) only [ni_lt, ni_le, ni_eq, ni_cl, ni_in, nI_add, ni_mul, ni_and, ni_or, ni_xor, ni_dif, ni_bit, ni_b0, ni_b1, ni_nM, nM_ni, nM_lt, lt_nM, nM_le, le_nM, ni_shl, Nat.not_lt_zero, Nat.zero_add, Nat.add_zero, si_t, si_f, not_true_eq_false, not_false_eq_true, true_implies, false_implies, true_and, and_true, forall_const]
        rw [hmin]
        refine ih (by omega) _ ?_ (fun k hk h8 => ?_)
        · intro k j hkj
          rw [si_f (by omega), si_f (by omega)]; exact hf k j hkj
        · by_cases e0 : k = 16 + 4 * i
          · subst e0
            rw [si_f (by omega), si_t ⟨rfl, rfl⟩, if_neg (by omega)]
            have r0 := callQ_p a (i := i + 1) (p := i) 0 (by omega)
            rw [if_pos ⟨by omega, hq⟩] at r0
            exact congrArg nI r0.symm
          · by_cases e1 : k = 16 + 4 * i + 1
            · subst e1
              rw [si_t ⟨rfl, rfl⟩, if_neg (by omega)]
              have r0 := callQ_p a (i := i + 1) (p := i) 1 (by omega)
              rw [if_pos ⟨by omega, hq⟩] at r0
              exact congrArg nI r0.symm
            · rw [si_f (by omega), si_f (by omega), h k hk h8]
              congr 1
              split
              · rfl
              · unfold callQ
                by_cases e2 : 16 ≤ k ∧ k < 16 + 4 * i
                · by_cases e3 : (outN a).testBit ((k - 16) / 4) = false
                  · rw [if_pos (show 16 ≤ k ∧ k < 16 + 4 * i ∧ (outN a).testBit ((k - 16) / 4) = false from ⟨e2.1, e2.2, e3⟩), if_pos (show 16 ≤ k ∧ k < 16 + 4 * (i + 1) ∧ (outN a).testBit ((k - 16) / 4) = false from ⟨e2.1, by omega, e3⟩)]
                  · rw [if_neg (fun z => e3 z.2.2), if_neg (fun z => e3 z.2.2)]
                · rw [if_neg (fun z => e2 ⟨z.1, z.2.1⟩)]
                  split
                  · rw [if_neg (by omega), if_neg (by omega)]
                  · rfl
      · have hq : (outN a).testBit i = true := by simpa using q2
        refine ih (by omega) mi' hf (fun k hk h8 => ?_)
        rw [h k hk h8]
        congr 1
        split
        · rfl
        · unfold callQ
          by_cases e2 : 16 ≤ k ∧ k < 16 + 4 * i
          · by_cases e3 : (outN a).testBit ((k - 16) / 4) = false
            · rw [if_pos (show 16 ≤ k ∧ k < 16 + 4 * i ∧ (outN a).testBit ((k - 16) / 4) = false from ⟨e2.1, e2.2, e3⟩), if_pos (show 16 ≤ k ∧ k < 16 + 4 * (i + 1) ∧ (outN a).testBit ((k - 16) / 4) = false from ⟨e2.1, by omega, e3⟩)]
            · rw [if_neg (fun z => e3 z.2.2), if_neg (fun z => e3 z.2.2)]
          · rw [if_neg (fun z => e2 ⟨z.1, z.2.1⟩)]
            split
            · next z =>
              have : (k - 16) / 4 = i := by omega
              rw [this, hq] at z
              exact absurd z.2.2 (by decide)
            · rfl)
  refine key 0 (by omega) _ ?_ (fun k hk h8 => ?_)
  · intro k j hkj
    rw [si_f (by omega), hf1 k j (by omega)]
  · by_cases e : k = 7
    · subst e; rw [si_t ⟨rfl, rfl⟩]; rfl
    · rw [si_f (by omega), if_neg e, hM1 k hk h8]
      unfold callQ
      rw [if_neg (by omega)]
