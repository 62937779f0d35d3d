theorem foldN_le {f : Nat → Nat → Nat} (h : ∀ u x, x ≤ u → f u x ≤ u + 1) : ∀ n, foldN f n 0 ≤ n
  | 0 => Nat.le_refl _
  | n + 1 => h n _ (foldN_le h n)
theorem s_satInAll {E : am_E} {d : Nat} {K : am_K} {mi : Nat → Nat → Int32} {ml : Nat → Nat → Int64} {a : Nat → Nat} (hC : CB 12 a mi) (hW : WA a) (hk : K (some (.int (nI (nsum (fun p => a (16 + 4 * p + 1)) (a 1))))) (S0, mi, ml)) : cq E (d + 1) 18 [.ref 12] K mi ml := by
  have w1 := hW.1.2.1
  obtain ⟨⟨c0, c1, c2, c3, c4, c5, c6, c7⟩, cp, ch, ct, cx, cs⟩ := CB12 hC
  have key : ∀ i, i ≤ a 1 → rn E d 18 K 4 [.ref 12, .int (nI (nsum (fun p => a (16 + 4 * p + 1)) i)), .int (nI i)] [] mi ml := dn_ind (a 1) (by
    intro i hi ih
    apply rg_X0_satInAll_4 bt_12
    simp (disch := omega) only [ni_lt, ni_le, ni_eq, ni_cl, ni_in, nI_add, ni_mul, ni_and, ni_or, ni_xor, ni_dif, ni_bit, ni_b0, ni_b1, ni_nM, nM_ni, nM_lt, lt_nM, nM_le, le_nM, ni_shl, Nat.not_lt_zero, Nat.zero_add, Nat.add_zero, si_t, si_f, not_true_eq_false, not_false_eq_true, true_implies, false_implies, true_and, and_true, forall_const, c5]
    refine ⟨fun q => ?_, fun q => ⟨by omega, ?_⟩⟩
    · have e : i = a 1 := by omega
      subst e
      exact hk
    · have e : mi (12 + 4) i = nI (a (16 + 4 * i + 1)) := ct i (by omega)
      rw [e, nI_add]
      exact ih (by omega))
  apply en_X0_satInAll bt_12
  exact key 0 (Nat.zero_le _)
theorem or_b01 (x : Nat) (b : Bool) (n : Nat) : x ||| (b01 b) <<< n = if b then x ||| 1 <<< n else x := by
  cases b
  · simp [b01]
  · simp [b01]
theorem s_excusedFrom {E : am_E} {d : Nat} {K : am_K} {mi : Nat → Nat → Int32} {ml : Nat → Nat → Int64} {a : Nat → Nat} (hC : CB 12 a mi) (hW : WA a) {o : Nat} (ho : o < 6) (hk : K (some (.int (nI (bset (fun p => (a (16 + 4 * p + 2)).testBit o) (a 1))))) (S0, mi, ml)) : cq E (d + 1) 19 [.ref 12, .int (nI o)] K mi ml := by
  have w1 := hW.1.2.1
  have w := WA_p2 hW
  obtain ⟨⟨c0, c1, c2, c3, c4, c5, c6, c7⟩, cp, ch, ct, cx, cs⟩ := CB12 hC
  have key : ∀ i, i ≤ a 1 → rn E d 19 K 4 [.ref 12, .int (nI o), .int (nI (bset (fun p => (a (16 + 4 * p + 2)).testBit o) i)), .int (nI i)] [] mi ml := dn_ind (a 1) (by
    intro i hi ih
    apply rg_X0_excusedFrom_4 bt_12
    simp (disch := omega) only [ni_lt, ni_le, ni_eq, ni_cl, ni_in, nI_add, ni_mul, ni_and, ni_or, ni_xor, ni_dif, ni_bit, ni_b0, ni_b1, ni_nM, nM_ni, nM_lt, lt_nM, nM_le, le_nM, ni_shl, Nat.not_lt_zero, Nat.zero_add, Nat.add_zero, si_t, si_f, not_true_eq_false, not_false_eq_true, true_implies, false_implies, true_and, and_true, forall_const, c5]
    refine ⟨fun q => ?_, fun q => ⟨by omega, ?_⟩⟩
    · have e : i = a 1 := by omega
      subst e
      exact hk
    · have e : mi (12 + 5) i = nI (a (16 + 4 * i + 2)) := cx i (by omega)
      have hl := (hW.2.2 i (by omega)).2.2.1
      rw [e]
      simp (disch := omega) only [ni_lt, ni_le, ni_eq, ni_cl, ni_in, nI_add, ni_mul, ni_and, ni_or, ni_xor, ni_dif, ni_bit, ni_b0, ni_b1, ni_nM, nM_ni, nM_lt, lt_nM, nM_le, le_nM, ni_shl, Nat.not_lt_zero, Nat.zero_add, Nat.add_zero, si_t, si_f, not_true_eq_false, not_false_eq_true, true_implies, false_implies, true_and, and_true, forall_const]
      rw [or_b01]
      exact ih (by omega))
  apply en_X0_excusedFrom bt_12
  exact key 0 (Nat.zero_le _)
def seenA (a : Nat → Nat) (p : Nat) : Nat := bset (fun q => (seesA a q).testBit p) (a 1)
theorem s_seenBy {E : am_E} {d : Nat} {K : am_K} {mi : Nat → Nat → Int32} {ml : Nat → Nat → Int64} {a : Nat → Nat} (hC : CB 12 a mi) (hW : WA a) {o : Nat} (ho : o < 8) (hk : K (some (.int (nI (seenA a o)))) (S0, mi, ml)) : cq E (d + 1) 20 [.ref 12, .int (nI o)] K mi ml := by
  have w1 := hW.1.2.1
  have w := WA_p2 hW
  obtain ⟨⟨c0, c1, c2, c3, c4, c5, c6, c7⟩, cp, ch, ct, cx, cs⟩ := CB12 hC
  have key : ∀ i, i ≤ a 1 → rn E d 20 K 4 [.ref 12, .int (nI o), .int (nI (bset (fun q => (seesA a q).testBit o) i)), .int (nI i)] [] mi ml := dn_ind (a 1) (by
    intro i hi ih
    apply rg_X0_seenBy_4 bt_12
    simp (disch := omega) only [ni_lt, ni_le, ni_eq, ni_cl, ni_in, nI_add, ni_mul, ni_and, ni_or, ni_xor, ni_dif, ni_bit, ni_b0, ni_b1, ni_nM, nM_ni, nM_lt, lt_nM, nM_le, le_nM, ni_shl, Nat.not_lt_zero, Nat.zero_add, Nat.add_zero, si_t, si_f, not_true_eq_false, not_false_eq_true, true_implies, false_implies, true_and, and_true, forall_const, c5]
    refine ⟨fun q => ?_, fun q => ⟨by omega, ?_⟩⟩
    · have e : i = a 1 := by omega
      subst e
      exact hk
    · have e : mi (12 + 6) i = nI (seesA a i) := cs i (by omega)
      have hl := sees_lt hW i
      rw [e]
      simp (disch := omega) only [ni_lt, ni_le, ni_eq, ni_cl, ni_in, nI_add, ni_mul, ni_and, ni_or, ni_xor, ni_dif, ni_bit, ni_b0, ni_b1, ni_nM, nM_ni, nM_lt, lt_nM, nM_le, le_nM, ni_shl, Nat.not_lt_zero, Nat.zero_add, Nat.add_zero, si_t, si_f, not_true_eq_false, not_false_eq_true, true_implies, false_implies, true_and, and_true, forall_const]
      rw [or_b01]
      exact ih (by omega))
  apply en_X0_seenBy bt_12
  exact key 0 (Nat.zero_le _)
theorem s_needBy {E : am_E} {d : Nat} {K : am_K} {mi : Nat → Nat → Int32} {ml : Nat → Nat → Int64} {a : Nat → Nat} (hC : CB 12 a mi) (hW : WA a) {p s : Nat} (hp : p < a 1) (hs : s < 64) (hk : K (some (.int (nI (needA a s p)))) (S0, mi, ml)) : cq E (d + 2) 24 [.ref 12, .int (nI p), .int (nI s)] K mi ml := by
  have w1 := hW.1.2.1
  obtain ⟨⟨c0, c1, c2, c3, c4, c5, c6, c7⟩, cp, ch, ct, cx, cs⟩ := CB12 hC
  apply en_X0_needBy bt_12
  have e : mi (12 + 3) p = nI (a (16 + 4 * p)) := ch p hp
  simp (disch := omega) only [ni_lt, ni_le, ni_eq, ni_cl, ni_in, nI_add, ni_mul, ni_and, ni_or, ni_xor, ni_dif, ni_bit, ni_b0, ni_b1, ni_nM, nM_ni, nM_lt, lt_nM, nM_le, le_nM, ni_shl, Nat.not_lt_zero, Nat.zero_add, Nat.add_zero, si_t, si_f, not_true_eq_false, not_false_eq_true, true_implies, false_implies, true_and, and_true, forall_const, e]
  refine ⟨by omega, ?_⟩
  apply s_needWith bt_12 hC hW (hW.2.2 p hp).1 hp hs
  apply rg_X0_needBy_12 bt_12
  exact hk
/-- more of a company rise where more are in it, and by more omens -/
theorem needF_mono (a : Nat → Nat) (h x : Nat) {s t : Nat} (hst : ∀ i, s.testBit i = true → t.testBit i = true) : needF a h x t ≤ needF a h x s := by
  unfold needF pullS
  have : nsum (fun o => if (ndif s x).testBit o then a (10 + o) else 0) (a 0) ≤ nsum (fun o => if (ndif t x).testBit o then a (10 + o) else 0) (a 0) := by
    apply nsum_le
    intro k _
    rw [tb_dif, tb_dif]
    have := hst k
    cases h1 : s.testBit k
    · simp
    · rw [this h1]; exact Nat.le_refl _
  omega
theorem and_sub {x u v : Nat} (h : ∀ i, u.testBit i = true → v.testBit i = true) (i : Nat) : (x &&& u).testBit i = true → (x &&& v).testBit i = true := by
  rw [Nat.testBit_and, Nat.testBit_and]
  intro q
  rw [Bool.and_eq_true] at q ⊢
  exact ⟨q.1, h i q.2⟩
theorem cont_mono {a : Nat → Nat} {s t c e u v : Nat} (hst : ∀ i, s.testBit i = true → t.testBit i = true) (hce : ∀ i, c.testBit i = true → e.testBit i = true) (huv : ∀ i, u.testBit i = true → v.testBit i = true) (i : Nat) : (contA a s c u).testBit i = true → (contA a t e v).testBit i = true := by
  unfold contA
  rw [tb_bset, tb_bset]
  intro q
  simp only [Bool.and_eq_true, decide_eq_true_eq] at q ⊢
  obtain ⟨q1, q2, q3⟩ := q
  refine ⟨q1, hce i q2, ?_⟩
  have h1 : needA a t i ≤ needA a s i := needF_mono a _ _ hst
  have h2 := pc_sub (and_sub (x := seesA a i) huv)
  omega
theorem rise_mono {a : Nat → Nat} {s t c e u v : Nat} (hst : ∀ i, s.testBit i = true → t.testBit i = true) (hce : ∀ i, c.testBit i = true → e.testBit i = true) (huv : ∀ i, u.testBit i = true → v.testBit i = true) (i : Nat) : (riseA a s c u).testBit i = true → (riseA a t e v).testBit i = true := by
  unfold riseA
  rw [Nat.testBit_or, Nat.testBit_or, Bool.or_eq_true, Bool.or_eq_true]
  rintro (q | q)
  · exact Or.inl (huv i q)
  · exact Or.inr (cont_mono hst hce huv i q)
theorem itr_mono {a : Nat → Nat} {s t c e : Nat} (hst : ∀ i, s.testBit i = true → t.testBit i = true) (hce : ∀ i, c.testBit i = true → e.testBit i = true) : ∀ n {u v}, (∀ i, u.testBit i = true → v.testBit i = true) → ∀ i, (itr (riseA a s c) n u).testBit i = true → (itr (riseA a t e) n v).testBit i = true
  | 0, _, _, h => h
  | n + 1, _, _, h => itr_mono hst hce n (rise_mono hst hce h)
theorem itr_in {a : Nat → Nat} {s c : Nat} : ∀ n {u}, (∀ i, u.testBit i = true → c.testBit i = true) → ∀ i, (itr (riseA a s c) n u).testBit i = true → c.testBit i = true
  | 0, _, h => h
  | n + 1, u, h => itr_in n (fun i q => by
      unfold riseA contA at q
      rw [Nat.testBit_or, tb_bset, Bool.or_eq_true] at q
      rcases q with q | q
      · exact h i q
      · simp only [Bool.and_eq_true] at q; exact q.2.1)
def weiA (a : Nat → Nat) (s p : Nat) : Nat := pc (ndif (outA a (aboA a) s) (1 <<< p)) - pc (outA a (ndif (aboA a) (1 <<< p)) s)
theorem wei_ok (a : Nat → Nat) (s p : Nat) : pc (outA a (ndif (aboA a) (1 <<< p)) s) ≤ pc (ndif (outA a (aboA a) s) (1 <<< p)) := by
  apply pc_sub
  intro i q
  rw [tb_dif]
  have h1 := itr_in (a := a) (s := s) (c := ndif (aboA a) (1 <<< p)) (a 2) (u := 0) (fun i q => by rw [Nat.zero_testBit] at q; cases q) i q
  rw [tb_dif, Bool.and_eq_true] at h1
  have h2 := itr_mono (a := a) (s := s) (t := s) (c := ndif (aboA a) (1 <<< p)) (e := aboA a) (fun _ z => z) (fun i z => by rw [tb_dif, Bool.and_eq_true] at z; exact z.1) (a 2) (u := 0) (v := 0) (fun _ z => z) i q
  rw [Bool.and_eq_true]
  exact ⟨h2, h1.2⟩
theorem out_in (a : Nat → Nat) (c s i : Nat) : (outA a c s).testBit i = true → c.testBit i = true :=
  itr_in (a 2) (fun i q => by rw [Nat.zero_testBit] at q; cases q) i
theorem dif_and (x y z : Nat) (h : ∀ i, x.testBit i = true → y.testBit i = true) : x &&& ndif y z = ndif x z := by
  apply Nat.eq_of_testBit_eq
  intro i
  rw [Nat.testBit_and, tb_dif, tb_dif]
  have := h i
  cases h1 : x.testBit i
  · rfl
  · rw [this h1]; rfl
theorem s_weightOf {E : am_E} {d : Nat} {K : am_K} {mi : Nat → Nat → Int32} {ml : Nat → Nat → Int64} {a : Nat → Nat} (hC : CB 12 a mi) (hW : WA a) {p s : Nat} (hp : p < a 1) (hs : s < 64) (hk : ∀ mi', fr1 20 mi mi' → CB 12 a mi' → K (some (.int (nI (weiA a s p)))) (S0, mi', ml)) : cq E (d + 5) 59 [.ref 55, .int (nI p), .int (nI s)] K mi ml := by
  have w1 := hW.1.2.1
  have w := WA_p2 hW
  have hab := abo_lt hW
  obtain ⟨⟨c0, c1, c2, c3, c4, c5, c6, c7⟩, cp, ch, ct, cx, cs⟩ := CB12 hC
  have hd : ndif (aboA a) (1 <<< p) < 256 := dif_lt (n := 8) hab
  apply en_X4_weightOf
  simp (disch := omega) only [ni_lt, ni_le, ni_eq, ni_cl, ni_in, nI_add, ni_mul, ni_and, ni_or, ni_xor, ni_dif, ni_bit, ni_b0, ni_b1, ni_nM, nM_ni, nM_lt, lt_nM, nM_le, le_nM, ni_shl, Nat.not_lt_zero, Nat.zero_add, Nat.add_zero, si_t, si_f, not_true_eq_false, not_false_eq_true, true_implies, false_implies, true_and, and_true, forall_const, c7]
  apply s_outOf bt_12 hC hW hs hab
  intro mi1 hf1 hC1
  apply rg_X4_weightOf_29
  apply s_outOf bt_12 hC1 hW hs hd
  intro mi2 hf2 hC2
  apply rg_X4_weightOf_42
  rw [ni_and, dif_and _ _ _ (out_in a (aboA a) s)]
  have h1 := out_lt a (aboA a) s
  have h2 := out_lt a (ndif (aboA a) (1 <<< p)) s
  have h3 := dif_lt (b := 1 <<< p) h1
  rw [bc_pc (by omega), bc_pc (by omega), ni_sub (wei_ok a s p)]
  exact hk mi2 (fr1_tr hf1 hf2) hC2
def keyS (a : Nat → Nat) (s p x : Nat) : Nat := if (aboA a).testBit p = true ∧ (x = 0 ∨ weiA a s (x - 1) < weiA a s p) then p + 1 else x
theorem wei_le (a : Nat → Nat) (s p : Nat) : weiA a s p ≤ 10 := by
  have := pc_le (ndif (outA a (aboA a) s) (1 <<< p))
  unfold weiA
  omega
theorem nM_le_nM : (nM ≤ nM) ↔ True := by decide
theorem s_heaviest {E : am_E} {d : Nat} {K : am_K} {mi : Nat → Nat → Int32} {ml : Nat → Nat → Int64} {a : Nat → Nat} (hC : CB 12 a mi) (hW : WA a) {s : Nat} (hs : s < 64) (hk : ∀ mi', fr1 20 mi mi' → CB 12 a mi' → K (some (.int (nP (foldN (keyS a s) (a 1) 0)))) (S0, mi', ml)) : cq E (d + 6) 60 [.ref 55, .int (nI s)] K mi ml := by
  have w1 := hW.1.2.1
  have w := WA_p2 hW
  have hab := abo_lt hW
  have key : ∀ i, i ≤ a 1 → ∀ mi', fr1 20 mi mi' → CB 12 a mi' → rn E (d + 5) 60 K 7 [.ref 55, .int (nI s), .int (nP (foldN (keyS a s) i 0)), .int (if foldN (keyS a s) i 0 = 0 then nM else nI (weiA a s (foldN (keyS a s) i 0 - 1))), .int (nI i), am_mk] [] mi' ml := dn_ind (a 1) (by
    intro i hi ih mi' hf hC'
    obtain ⟨⟨c0, c1, c2, c3, c4, c5, c6, c7⟩, cp, ch, ct, cx, cs⟩ := CB12 hC'
    apply rg_X4_heaviest_7
    simp (disch := omega) only [ni_lt, ni_le, ni_eq, ni_cl, ni_in, nI_add, ni_mul, ni_and, ni_or, ni_xor, ni_dif, ni_bit, ni_b0, ni_b1, ni_nM, nM_ni, nM_lt, lt_nM, nM_le, le_nM, ni_shl, Nat.not_lt_zero, Nat.zero_add, Nat.add_zero, si_t, si_f, not_true_eq_false, not_false_eq_true, true_implies, false_implies, true_and, and_true, forall_const, c5, c7]
    refine ⟨fun q => ?_, fun q => ?_⟩
    · have e : i = a 1 := by omega
      subst e
      exact hk mi' hf hC'
    · have ih := ih (by omega)
      rw [foldN_s] at ih
      have hwx := wei_le a s (foldN (keyS a s) i 0 - 1)
      have hwi := wei_le a s i
      generalize foldN (keyS a s) i 0 = x at *
      unfold keyS at ih
      refine ⟨fun q2 => ?_, fun q2 => ?_⟩
      · have ih := ih mi' hf hC'
        rw [if_neg (fun z => by rw [q2] at z; exact absurd z.1 (by decide))] at ih
        refine ⟨fun _ => ih, fun q3 => absurd ?_ q3⟩
        split
        · decide
        · rw [nM_le (by omega)]; trivial
      · have q4 : (aboA a).testBit i = true := by simpa using q2
        apply s_weightOf hC' hW (by omega) hs
        intro mi2 hf2 hC2
        have ih := ih mi2 (fr1_tr hf hf2) hC2
        apply rg_X4_heaviest_38
        by_cases hx : x = 0
        · subst hx
          rw [if_pos (show (aboA a).testBit i = true ∧ ((0 : Nat) = 0 ∨ _) from ⟨q4, Or.inl rfl⟩), if_neg (by omega)] at ih
          simp only [if_true]
          simp (disch := omega) only [ni_lt, ni_le, ni_eq, ni_cl, ni_in, nI_add, ni_mul, ni_and, ni_or, ni_xor, ni_dif, ni_bit, ni_b0, ni_b1, ni_nM, nM_ni, nM_lt, lt_nM, nM_le, le_nM, ni_shl, Nat.not_lt_zero, Nat.zero_add, Nat.add_zero, si_t, si_f, not_true_eq_false, not_false_eq_true, true_implies, false_implies, true_and, and_true, forall_const]
          exact ih
        · rw [if_neg hx]
          simp (disch := omega) only [ni_lt, ni_le, ni_eq, ni_cl, ni_in, nI_add, ni_mul, ni_and, ni_or, ni_xor, ni_dif, ni_bit, ni_b0, ni_b1, ni_nM, nM_ni, nM_lt, lt_nM, nM_le, le_nM, ni_shl, Nat.not_lt_zero, Nat.zero_add, Nat.add_zero, si_t, si_f, not_true_eq_false, not_false_eq_true, true_implies, false_implies, true_and, and_true, forall_const]
          refine ⟨fun q5 => ?_, fun q5 => ?_⟩
          · rw [if_neg (show ¬ ((aboA a).testBit i = true ∧ (x = 0 ∨ weiA a s (x - 1) < weiA a s i)) by omega), if_neg hx] at ih
            exact ih
          · rw [if_pos (show ((aboA a).testBit i = true ∧ (x = 0 ∨ weiA a s (x - 1) < weiA a s i)) from ⟨q4, Or.inr (by omega)⟩), if_neg (by omega)] at ih
            exact ih)
  apply en_X4_heaviest
  exact key 0 (Nat.zero_le _) mi fr1_rfl hC
theorem s_countOut {E : am_E} {d : Nat} {K : am_K} {mi : Nat → Nat → Int32} {ml : Nat → Nat → Int64} {a : Nat → Nat} (hC : CB 12 a mi) (hW : WA a) {s : Nat} (hs : s < 64) (hk : ∀ mi', fr1 20 mi mi' → CB 12 a mi' → K (some (.int (nI (pc (outA a (aboA a) s))))) (S0, mi', ml)) : cq E (d + 5) 61 [.ref 55, .int (nI s)] K mi ml := by
  have w := WA_p2 hW
  apply en_X4_countOut
  rw [hC.1.2.2.2.2.2.2.2]
  apply s_outOf bt_12 hC hW hs (abo_lt hW)
  intro mi1 hf1 hC1
  apply rg_X4_countOut_15
  have h1 := out_lt a (aboA a) s
  rw [bc_pc (by omega)]
  exact hk mi1 hf1 hC1
def lureS (a : Nat → Nat) (p u x : Nat) : Nat := if (x = 0 ∨ pc u < pc (x - 1)) ∧ (outA a (aboA a) u).testBit p = true then u + 1 else x
theorem s_fewestLures {E : am_E} {d : Nat} {K : am_K} {mi : Nat → Nat → Int32} {ml : Nat → Nat → Int64} {a : Nat → Nat} (hC : CB 12 a mi) (hW : WA a) {p : Nat} (hp : p < a 1) (hk : ∀ mi', fr1 20 mi mi' → CB 12 a mi' → K (some (.int (nP (foldN (lureS a p) (2 ^ a 0) 0)))) (S0, mi', ml)) : cq E (d + 5) 62 [.ref 55, .int (nI p)] K mi ml := by
  have w0 := hW.1.1
  have w1 := hW.1.2.1
  have w := WA_p2 hW
  have hab := abo_lt hW
  have key : ∀ i, i ≤ 2 ^ a 0 → ∀ mi', fr1 20 mi mi' → CB 12 a mi' → rn E (d + 4) 62 K 4 [.ref 55, .int (nI p), .int (nP (foldN (lureS a p) i 0)), .int (nI i)] [] mi' ml := dn_ind (2 ^ a 0) (by
    intro i hi ih mi' hf hC'
    obtain ⟨⟨c0, c1, c2, c3, c4, c5, c6, c7⟩, cp, ch, ct, cx, cs⟩ := CB12 hC'
    apply rg_X4_fewestLures_4
    simp (disch := omega) only [ni_lt, ni_le, ni_eq, ni_cl, ni_in, nI_add, ni_mul, ni_and, ni_or, ni_xor, ni_dif, ni_bit, ni_b0, ni_b1, ni_nM, nM_ni, nM_lt, lt_nM, nM_le, le_nM, ni_shl, Nat.not_lt_zero, Nat.zero_add, Nat.add_zero, si_t, si_f, not_true_eq_false, not_false_eq_true, true_implies, false_implies, true_and, and_true, forall_const, c4, c7, Nat.one_shiftLeft]
    refine ⟨fun q => ?_, fun q => ?_⟩
    · have e : i = 2 ^ a 0 := by omega
      subst e
      exact hk mi' hf hC'
    · have hx : foldN (lureS a p) i 0 ≤ i := foldN_le (fun u x hx => by
        unfold lureS; split <;> omega) i
      have ih := ih (by omega)
      rw [foldN_s] at ih
      generalize foldN (lureS a p) i 0 = x at *
      unfold lureS at ih
      have fin : (x = 0 ∨ pc i < pc (x - 1)) → cq E (d + 4) 28 [.ref 12, .int (nI (aboA a)), .int (nI i)] (kc E (d + 4) 62 K 45 [.ref 55, .int (nI p), .int (nP x), .int (nI i)] []) mi' ml := by
        intro hx0
        apply s_outOf bt_12 hC' hW (by omega) hab
        intro mi2 hf2 hC2
        apply rg_X4_fewestLures_45
        have h1 := out_lt a (aboA a) i
        have ih := ih mi2 (fr1_tr hf hf2) hC2
        simp (disch := omega) only [ni_lt, ni_le, ni_eq, ni_cl, ni_in, nI_add, ni_mul, ni_and, ni_or, ni_xor, ni_dif, ni_bit, ni_b0, ni_b1, ni_nM, nM_ni, nM_lt, lt_nM, nM_le, le_nM, ni_shl, Nat.not_lt_zero, Nat.zero_add, Nat.add_zero, si_t, si_f, not_true_eq_false, not_false_eq_true, true_implies, false_implies, true_and, and_true, forall_const]
        refine ⟨fun q2 => ?_, fun q2 => ?_⟩
        · rw [if_neg (fun z => by rw [q2] at z; exact absurd z.2 (by decide))] at ih
          exact ih
        · rw [if_pos ⟨hx0, by simpa using q2⟩] at ih
          exact ih
      match x, hx, ih, fin with
      | 0, hx, ih, fin => exact ⟨fun _ => fin (Or.inl rfl), fun q2 => absurd rfl q2⟩
      | y + 1, hx, ih, fin =>
        have hp1 := pc_le i
        have hp2 := pc_le y
        rw [nP_s] at fin ⊢
        simp (disch := omega) only [ni_lt, ni_le, ni_eq, ni_cl, ni_in, nI_add, ni_mul, ni_and, ni_or, ni_xor, ni_dif, ni_bit, ni_b0, ni_b1, ni_nM, nM_ni, nM_lt, lt_nM, nM_le, le_nM, ni_shl, Nat.not_lt_zero, Nat.zero_add, Nat.add_zero, si_t, si_f, not_true_eq_false, not_false_eq_true, true_implies, false_implies, true_and, and_true, forall_const, bc_pc]
        refine ⟨fun q3 => ?_, fun q3 => fin (Or.inr (by simpa using q3))⟩
        have ih := ih mi' hf hC'
        rw [if_neg (by
          intro z
          have h5 : y + 1 - 1 = y := rfl
          rw [h5] at z
          omega)] at ih
        exact ih)
  apply en_X4_fewestLures
  exact key 0 (Nat.zero_le _) mi fr1_rfl hC
def bestS (a : Nat → Nat) (u x : Nat) : Nat := if pc (outA a (aboA a) x) < pc (outA a (aboA a) u) ∨ (pc (outA a (aboA a) u) = pc (outA a (aboA a) x) ∧ pc u < pc x) then u else x
theorem s_bestOmens {E : am_E} {d : Nat} {K : am_K} {mi : Nat → Nat → Int32} {ml : Nat → Nat → Int64} {a : Nat → Nat} (hC : CB 12 a mi) (hW : WA a) (hk : ∀ mi', fr1 20 mi mi' → CB 12 a mi' → K (some (.int (nI (foldN (bestS a) (2 ^ a 0) 0)))) (S0, mi', ml)) : cq E (d + 6) 63 [.ref 55] K mi ml := by
  have w0 := hW.1.1
  have w1 := hW.1.2.1
  have w := WA_p2 hW
  have hab := abo_lt hW
  have key : ∀ i, i ≤ 2 ^ a 0 → 1 ≤ i → ∀ mi', fr1 20 mi mi' → CB 12 a mi' → rn E (d + 5) 63 K 6 [.ref 55, .int (nI (foldN (bestS a) i 0)), .int (nI (pc (outA a (aboA a) (foldN (bestS a) i 0)))), .int (nI i), am_mk] [] mi' ml := dn_ind (2 ^ a 0) (by
    intro i hi ih h1 mi' hf hC'
    obtain ⟨⟨c0, c1, c2, c3, c4, c5, c6, c7⟩, cp, ch, ct, cx, cs⟩ := CB12 hC'
    apply rg_X4_bestOmens_6
    simp (disch := omega) only [ni_lt, ni_le, ni_eq, ni_cl, ni_in, nI_add, ni_mul, ni_and, ni_or, ni_xor, ni_dif, ni_bit, ni_b0, ni_b1, ni_nM, nM_ni, nM_lt, lt_nM, nM_le, le_nM, ni_shl, Nat.not_lt_zero, Nat.zero_add, Nat.add_zero, si_t, si_f, not_true_eq_false, not_false_eq_true, true_implies, false_implies, true_and, and_true, forall_const, c4, c7, Nat.one_shiftLeft]
    refine ⟨fun q => ?_, fun q => ?_⟩
    · have e : i = 2 ^ a 0 := by omega
      subst e
      exact hk mi' hf hC'
    · have hx : foldN (bestS a) i 0 < 64 := foldN_lt (B := 64) (fun u x hu hx => by unfold bestS; split <;> assumption) (by omega) (by omega)
      have ih := ih (by omega) (by omega)
      rw [foldN_s] at ih
      generalize foldN (bestS a) i 0 = x at *
      unfold bestS at ih
      apply s_countOut hC' hW (by omega)
      intro mi2 hf2 hC2
      apply rg_X4_bestOmens_24
      have ih := ih mi2 (fr1_tr hf hf2) hC2
      have e1 := pc_le (outA a (aboA a) x)
      have e2 := pc_le (outA a (aboA a) i)
      have e3 := pc_le x
      have e4 := pc_le i
      simp (disch := omega) only [ni_lt, ni_le, ni_eq, ni_cl, ni_in, nI_add, ni_mul, ni_and, ni_or, ni_xor, ni_dif, ni_bit, ni_b0, ni_b1, ni_nM, nM_ni, nM_lt, lt_nM, nM_le, le_nM, ni_shl, Nat.not_lt_zero, Nat.zero_add, Nat.add_zero, si_t, si_f, not_true_eq_false, not_false_eq_true, true_implies, false_implies, true_and, and_true, forall_const, bc_pc]
      refine ⟨fun q2 => ?_, fun q2 => ⟨fun q3 => ?_, fun q3 => ⟨fun q4 => ?_, fun q4 => ?_⟩⟩⟩
      · rw [if_pos (Or.inl q2)] at ih; exact ih
      · rw [if_neg (by omega)] at ih; exact ih
      · rw [if_neg (by omega)] at ih; exact ih
      · rw [if_pos (Or.inr (by omega))] at ih; exact ih)
  apply en_X4_bestOmens
  obtain ⟨⟨c0, c1, c2, c3, c4, c5, c6, c7⟩, cp, ch, ct, cx, cs⟩ := CB12 hC
  apply rg_X4_bestOmens_6
  have := p2_pos (a 0)
  simp (disch := omega) only [ni_lt, ni_le, ni_eq, ni_cl, ni_in, nI_add, ni_mul, ni_and, ni_or, ni_xor, ni_dif, ni_bit, ni_b0, ni_b1, ni_nM, nM_ni, nM_lt, lt_nM, nM_le, le_nM, ni_shl, Nat.not_lt_zero, Nat.zero_add, Nat.add_zero, si_t, si_f, not_true_eq_false, not_false_eq_true, true_implies, false_implies, true_and, and_true, forall_const, c4, c7, Nat.one_shiftLeft]
  refine ⟨fun q => by omega, fun q => ?_⟩
  apply s_countOut hC hW (by omega)
  intro mi2 hf2 hC2
  apply rg_X4_bestOmens_24
  have e2 := pc_le (outA a (aboA a) 0)
  simp (disch := omega) only [ni_lt, ni_le, ni_eq, ni_cl, ni_in, nI_add, ni_mul, ni_and, ni_or, ni_xor, ni_dif, ni_bit, ni_b0, ni_b1, ni_nM, nM_ni, nM_lt, lt_nM, nM_le, le_nM, ni_shl, Nat.not_lt_zero, Nat.zero_add, Nat.add_zero, si_t, si_f, not_true_eq_false, not_false_eq_true, true_implies, false_implies, true_and, and_true, forall_const]
  have e : foldN (bestS a) 1 0 = 0 := by
    show bestS a 0 0 = 0
    unfold bestS
    split <;> rfl
  have := key 1 (by omega) (by omega) mi2 hf2 hC2
  rw [e] at this
  exact this
theorem s_neverOut {E : am_E} {d : Nat} {K : am_K} {mi : Nat → Nat → Int32} {ml : Nat → Nat → Int64} {a : Nat → Nat} (hC : CB 12 a mi) (hW : WA a) (hk : ∀ mi', fr1 20 mi mi' → CB 12 a mi' → K (some (.int (nI (ndif (aboA a) (outA a (aboA a) (2 ^ a 0 - 1)))))) (S0, mi', ml)) : cq E (d + 5) 64 [.ref 55] K mi ml := by
  have w0 := hW.1.1
  have w := WA_p2 hW
  have hab := abo_lt hW
  obtain ⟨⟨c0, c1, c2, c3, c4, c5, c6, c7⟩, cp, ch, ct, cx, cs⟩ := CB12 hC
  apply en_X4_neverOut
  simp (disch := omega) only [ni_lt, ni_le, ni_eq, ni_cl, ni_in, nI_add, ni_mul, ni_and, ni_or, ni_xor, ni_dif, ni_bit, ni_b0, ni_b1, ni_nM, nM_ni, nM_lt, lt_nM, nM_le, le_nM, ni_shl, Nat.not_lt_zero, Nat.zero_add, Nat.add_zero, si_t, si_f, not_true_eq_false, not_false_eq_true, true_implies, false_implies, true_and, and_true, forall_const, c4, c7]
  rw [ni_all (by omega)]
  apply s_outOf bt_12 hC hW (by omega) hab
  intro mi2 hf2 hC2
  apply rg_X4_neverOut_34
  rw [ni_dif]
  exact hk mi2 hf2 hC2
