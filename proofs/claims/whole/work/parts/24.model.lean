/-! The reference's boat: the slot from 0 holds a. -/
def MA (a : Nat → Nat) (mi : Nat → Nat → Int32) : Prop := ∀ k, k < 48 → k ≠ 8 → mi 107 k = nI (a k)
/-- what the rounds leave changed: the cells that tell of rounds -/
def frR (mi mi' : Nat → Nat → Int32) : Prop := ∀ k j, ¬ (k = 115 ∨ k = 106 ∧ j = 25) → mi' k j = mi k j
theorem frR_rfl {mi : Nat → Nat → Int32} : frR mi mi := fun _ _ _ => rfl
theorem frR_tr {mi mi' mi'' : Nat → Nat → Int32} (h : frR mi mi') (h2 : frR mi' mi'') : frR mi mi'' := fun k j hk => by rw [h2 k j hk, h k j hk]
theorem MA_fr {a : Nat → Nat} {mi mi' : Nat → Nat → Int32} (h : MA a mi) (hf : frR mi mi') : MA a mi' := fun k hk h8 => by rw [hf 107 k (by omega)]; exact h k hk h8
theorem bits_all : ∀ n, n < 1024 → n = 0 ∨ (n &&& (n - 1) < n ∧ pc (n &&& (n - 1)) + 1 = pc n) := by decide +kernel
theorem s_bits {E : am_E} {d : Nat} {K : am_K} {mi : Nat → Nat → Int32} {ml : Nat → Nat → Int64} {x : Nat} (hx : x < 1024) (hk : K (some (.int (nI (pc x)))) (S0, mi, ml)) : cq E (d + 1) 242 [.int (nI x)] K mi ml := by
  have key : ∀ n y, y ≤ n → y < 1024 → ∀ c, c + pc y = pc x → rn E d 242 K 4 [am_mk, .int (nI c), .int (nI y)] [] mi ml := by
    intro n
    induction n with
    | zero =>
      intro y hy _ c hc
      have : y = 0 := by omega
      subst this
      apply rg_X10_bits_4
      refine ⟨fun _ => ?_, fun q => absurd rfl q⟩
      have h0 : pc 0 = 0 := by decide
      rw [h0, Nat.add_zero] at hc
      rw [hc]; exact hk
    | succ n ih =>
      intro y hy hy2 c hc
      rcases bits_all y hy2 with z | ⟨z1, z2⟩
      · subst z
        exact ih 0 (by omega) (by omega) c hc
      · apply rg_X10_bits_4
        refine ⟨fun q => ?_, fun q => ?_⟩
        · rw [ni_eq (by omega) (by omega)] at q
          subst q
          have h0 : pc 0 = 0 := by decide
          rw [h0, Nat.add_zero] at hc
          rw [hc]; exact hk
        · have h0 : 1 ≤ y := by
            rcases Nat.eq_zero_or_pos y with e | e
            · subst e; exact absurd rfl q
            · exact e
          rw [ni_sub h0, ni_and, nI_add]
          exact ih _ (by omega) (by omega) _ (by omega)
  apply en_X10_bits
  exact key x x (Nat.le_refl _) hx 0 (by omega)
theorem s_seenByM {E : am_E} {d : Nat} {K : am_K} {mi : Nat → Nat → Int32} {ml : Nat → Nat → Int64} {a : Nat → Nat} (hM : MA a mi) (hW : WA a) {p : Nat} (hp : p < a 1) (hk : K (some (.int (nI (seesA a p)))) (S0, mi, ml)) : cq E (d + 3) 246 [.ref 106, .int (nI p)] K mi ml := by
  have w1 := hW.1.2.1
  apply en_X10_seenBy
  unfold MA at hM
  simp (disch := omega) only [ni_lt, ni_le, ni_eq, ni_cl, ni_in, nI_add, ni_mul, ni_and, ni_or, ni_xor, ni_dif, ni_bit, ni_b0, ni_b1, ni_nM, nM_ni, nM_lt, lt_nM, nM_le, le_nM, ni_shl, Nat.not_lt_zero, Nat.zero_add, Nat.add_zero, si_t, si_f, not_true_eq_false, not_false_eq_true, true_implies, false_implies, true_and, and_true, forall_const, hM]
  rw [ni_all (by omega)]
  simp (disch := omega) only [ni_lt, ni_le, ni_eq, ni_cl, ni_in, nI_add, ni_mul, ni_and, ni_or, ni_xor, ni_dif, ni_bit, ni_b0, ni_b1, ni_nM, nM_ni, nM_lt, lt_nM, nM_le, le_nM, ni_shl, Nat.not_lt_zero, Nat.zero_add, Nat.add_zero, si_t, si_f, not_true_eq_false, not_false_eq_true, true_implies, false_implies, true_and, and_true, forall_const]
  exact ⟨by omega, hk⟩
theorem s_aboardM {E : am_E} {d : Nat} {K : am_K} {mi : Nat → Nat → Int32} {ml : Nat → Nat → Int64} {a : Nat → Nat} (hM : MA a mi) (hW : WA a) (hk : K (some (.int (nI (aboA a)))) (S0, mi, ml)) : cq E (d + 2) 244 [.ref 106] K mi ml := by
  have w1 := hW.1.2.1
  apply en_X10_aboard
  unfold MA at hM
  simp (disch := omega) only [ni_lt, ni_le, ni_eq, ni_cl, ni_in, nI_add, ni_mul, ni_and, ni_or, ni_xor, ni_dif, ni_bit, ni_b0, ni_b1, ni_nM, nM_ni, nM_lt, lt_nM, nM_le, le_nM, ni_shl, Nat.not_lt_zero, Nat.zero_add, Nat.add_zero, si_t, si_f, not_true_eq_false, not_false_eq_true, true_implies, false_implies, true_and, and_true, forall_const, hM]
  rw [ni_all (by omega)]
  simp (disch := omega) only [ni_lt, ni_le, ni_eq, ni_cl, ni_in, nI_add, ni_mul, ni_and, ni_or, ni_xor, ni_dif, ni_bit, ni_b0, ni_b1, ni_nM, nM_ni, nM_lt, lt_nM, nM_le, le_nM, ni_shl, Nat.not_lt_zero, Nat.zero_add, Nat.add_zero, si_t, si_f, not_true_eq_false, not_false_eq_true, true_implies, false_implies, true_and, and_true, forall_const]
  exact hk
theorem s_pullOn {E : am_E} {d : Nat} {K : am_K} {mi : Nat → Nat → Int32} {ml : Nat → Nat → Int64} {a : Nat → Nat} (hM : MA a mi) (hW : WA a) {p s : Nat} (hp : p < a 1) (hs : s < 64) (hk : K (some (.int (nI (pullS a (a (16 + 4 * p + 2)) s (a 0))))) (S0, mi, ml)) : cq E (d + 3) 248 [.ref 106, .int (nI p), .int (nI s)] K mi ml := by
  have w0 := hW.1.1
  have w1 := hW.1.2.1
  have w := WA_p2 hW
  have wx := (hW.2.2 p hp).2.2.1
  unfold MA at hM
  have key : ∀ i, i ≤ a 0 → rn E (d + 2) 248 K 5 [.ref 106, .int (nI p), .int (nI s), .int (nI (pullS a (a (16 + 4 * p + 2)) s i)), .int (nI i)] [] mi ml := dn_ind (a 0) (by
    intro i hi ih
    apply rg_X10_pullOn_5
    simp (disch := omega) only [ni_lt, ni_le, ni_eq, ni_cl, ni_in, nI_add, ni_mul, ni_and, ni_or, ni_xor, ni_dif, ni_bit, ni_b0, ni_b1, ni_nM, nM_ni, nM_lt, lt_nM, nM_le, le_nM, ni_shl, Nat.not_lt_zero, Nat.zero_add, Nat.add_zero, si_t, si_f, not_true_eq_false, not_false_eq_true, true_implies, false_implies, true_and, and_true, forall_const, hM]
    refine ⟨fun q => ?_, fun q => ?_⟩
    · have e : i = a 0 := by omega
      subst e
      exact hk
    · have ih := ih (by omega)
      rw [pullS_s, tb_dif] at ih
      refine ⟨fun q2 => ?_, fun q2 => ⟨by omega, fun q3 => ⟨by omega, ?_⟩, fun q3 => ?_⟩⟩
      · have e : s.testBit i = false := by simpa using q2
        rw [e] at ih
        simpa using ih
      · have e : s.testBit i = true := by simpa using q2
        have e2 : (a (16 + 4 * p + 2)).testBit i = false := by simpa using q3
        rw [e, e2] at ih
        simpa using ih
      · have e2 : (a (16 + 4 * p + 2)).testBit i = true := by simpa using q3
        rw [e2] at ih
        simpa using ih)
  apply en_X10_pullOn
  exact key 0 (by omega)
theorem s_needOf {E : am_E} {d : Nat} {K : am_K} {mi : Nat → Nat → Int32} {ml : Nat → Nat → Int64} {a : Nat → Nat} (hM : MA a mi) (hW : WA a) {p s : Nat} (hp : p < a 1) (hs : s < 64) (hk : K (some (.int (nI (needA a s p)))) (S0, mi, ml)) : cq E (d + 4) 249 [.ref 106, .int (nI p), .int (nI s)] K mi ml := by
  have w1 := hW.1.2.1
  have wh := (hW.2.2 p hp).1
  have hM' := hM
  unfold MA at hM'
  apply en_X10_needOf
  simp (disch := omega) only [ni_lt, ni_le, ni_eq, ni_cl, ni_in, nI_add, ni_mul, ni_and, ni_or, ni_xor, ni_dif, ni_bit, ni_b0, ni_b1, ni_nM, nM_ni, nM_lt, lt_nM, nM_le, le_nM, ni_shl, Nat.not_lt_zero, Nat.zero_add, Nat.add_zero, si_t, si_f, not_true_eq_false, not_false_eq_true, true_implies, false_implies, true_and, and_true, forall_const, hM']
  refine ⟨by omega, ?_⟩
  apply s_pullOn hM hW hp hs
  apply rg_X10_needOf_13
  have hl := pullS_le hW (a (16 + 4 * p + 2)) s (Nat.le_refl (a 0))
  have e : (if nI 0 < nI (a (16 + 4 * p)) - nI (pullS a (a (16 + 4 * p + 2)) s (a 0)) then nI (a (16 + 4 * p)) - nI (pullS a (a (16 + 4 * p + 2)) s (a 0)) else nI 0) = nI (needA a s p) := by
    unfold needA needF
    split
    · next q =>
      rw [ni_gt0 (by omega) (by omega)] at q
      rw [ni_sub (by omega)]
    · next q =>
      rw [ni_gt0 (by omega) (by omega)] at q
      rw [show a (16 + 4 * p) - pullS a (a (16 + 4 * p + 2)) s (a 0) = 0 by omega]
  rw [e]
  exact hk
def roseF (f : Nat → Nat) (up : Nat) : Nat → Nat → Nat
  | 0, _ => 0
  | r + 1, p => if (itr f (r + 1) up).testBit p && !(itr f r up).testBit p then r + 1 else roseF f up r p
def rndF (f : Nat → Nat) (up : Nat) : Nat → Nat
  | 0 => 0
  | r + 1 => if itr f (r + 1) up = itr f r up then rndF f up r else r + 1
theorem itr_stay {f : Nat → Nat} {up r : Nat} (h : f (itr f r up) = itr f r up) : ∀ k, itr f (r + k) up = itr f r up
  | 0 => rfl
  | k + 1 => by rw [← Nat.add_assoc, itr_succ, itr_stay h k, h]
theorem roseF_stay {f : Nat → Nat} {up r : Nat} (h : f (itr f r up) = itr f r up) (p : Nat) : ∀ k, roseF f up (r + k) p = roseF f up r p
  | 0 => rfl
  | k + 1 => by
    show (if (itr f (r + k + 1) up).testBit p && !(itr f (r + k) up).testBit p then r + k + 1 else roseF f up (r + k) p) = _
    rw [show r + k + 1 = r + (k + 1) from rfl, itr_stay h, itr_stay h, roseF_stay h p k]
    simp
theorem rndF_stay {f : Nat → Nat} {up r : Nat} (h : f (itr f r up) = itr f r up) : ∀ k, rndF f up (r + k) = rndF f up r
  | 0 => rfl
  | k + 1 => by
    show (if itr f (r + k + 1) up = itr f (r + k) up then rndF f up (r + k) else r + k + 1) = _
    rw [show r + k + 1 = r + (k + 1) from rfl, itr_stay h, itr_stay h, rndF_stay h k, if_pos rfl]
def moreA (a : Nat → Nat) (s c up : Nat) : Nat := bset (fun p => (ndif c up).testBit p && decide (needA a s p ≤ pc (seesA a p &&& up))) (a 1)
theorem more_rise (a : Nat → Nat) (s c up : Nat) : up ||| moreA a s c up = riseA a s c up := by
  apply Nat.eq_of_testBit_eq
  intro i
  unfold riseA moreA contA
  rw [Nat.testBit_or, Nat.testBit_or, tb_bset, tb_bset, tb_dif]
  cases up.testBit i <;> simp
theorem more_0 {a : Nat → Nat} {s c up : Nat} : moreA a s c up = 0 ↔ riseA a s c up = up := by
  rw [← more_rise]
  constructor
  · intro h; rw [h, Nat.or_zero]
  · intro h
    apply Nat.eq_of_testBit_eq
    intro i
    rw [Nat.zero_testBit]
    have h2 : (up ||| moreA a s c up).testBit i = up.testBit i := by rw [h]
    rw [Nat.testBit_or] at h2
    cases h3 : (moreA a s c up).testBit i
    · rfl
    · rw [h3] at h2
      have h4 := h3
      unfold moreA at h4
      rw [tb_bset, tb_dif] at h4
      simp at h2
      simp [h2] at h4
theorem tb_more (a : Nat → Nat) (s c up p : Nat) : (moreA a s c up).testBit p = ((riseA a s c up).testBit p && !up.testBit p) := by
  rw [← more_rise, Nat.testBit_or]
  unfold moreA
  rw [tb_bset, tb_dif]
  cases up.testBit p <;> simp
theorem s_risingOf {E : am_E} {d : Nat} {K : am_K} {mi : Nat → Nat → Int32} {ml : Nat → Nat → Int64} {a : Nat → Nat} (hM : MA a mi) (hW : WA a) {s c up m : Nat} (hs : s < 64) (hc : c < 256) (hu : up < 2 ^ a 1) (hm : m < 100) (hk : ∀ mi', frR mi mi' → (∀ p, p < 8 → mi' 115 p = nI (roseF (riseA a s c) up m p)) → mi' 106 25 = nI (rndF (riseA a s c) up m) → K (some (.int (nI (itr (riseA a s c) m up)))) (S0, mi', ml)) : cq E (d + 5) 255 [.ref 106, .int (nI c), .int (nI s), .int (nI up), .int (nI m)] K mi ml := by
  have w1 := hW.1.2.1
  have w := WA_p2 hW
  have h48 : ∀ mi', frR mi mi' → ∀ r u, u < 2 ^ a 1 → (moreA a s c u = 0 → K (some (.int (nI u))) (S0, mi', ml)) → (¬ moreA a s c u = 0 → rn E (d + 4) 255 K 122 [.ref 106, .int (nI c), .int (nI s), am_mk, .int (nI m), .int (nI u), .int (nI r), .int (nI (moreA a s c u)), .int (nI 0)] [] mi' ml) → ∀ i, i ≤ a 1 → rn E (d + 4) 255 K 48 [.ref 106, .int (nI c), .int (nI s), am_mk, .int (nI m), .int (nI u), .int (nI r), .int (nI (bset (fun p => (ndif c u).testBit p && decide (needA a s p ≤ pc (seesA a p &&& u))) i)), .int (nI i)] [] mi' ml := by
    intro mi' hf r u hu h0 h1
    have hM' := MA_fr hM hf
    have hM2 := hM'
    unfold MA at hM2
    have hd : ndif c u < 256 := dif_lt (n := 8) hc
    refine dn_ind (a 1) ?_
    intro i hi ih
    apply rg_X10_risingOf_48
    have hb := bset_lt (fun p => (ndif c u).testBit p && decide (needA a s p ≤ pc (seesA a p &&& u))) i
    have hb2 : 2 ^ i ≤ 2 ^ a 1 := p2_le hi
    simp (disch := omega) only [ni_lt, ni_le, ni_eq, ni_cl, ni_in, nI_add, ni_mul, ni_and, ni_or, ni_xor, ni_dif, ni_bit, ni_b0, ni_b1, ni_nM, nM_ni, nM_lt, lt_nM, nM_le, le_nM, ni_shl, Nat.not_lt_zero, Nat.zero_add, Nat.add_zero, si_t, si_f, not_true_eq_false, not_false_eq_true, true_implies, false_implies, true_and, and_true, forall_const, hM2]
    refine ⟨fun q => ?_, fun q => ?_⟩
    · have e : i = a 1 := by omega
      subst e
      exact ⟨h1, fun q2 => h0 (Classical.byContradiction q2)⟩
    · have ih := ih (by omega)
      rw [bset_if] at ih
      refine ⟨fun q2 => ?_, fun q2 => ?_⟩
      · have e : (ndif c u).testBit i = false := by simpa using q2
        rw [e] at ih
        simpa using ih
      · have e : (ndif c u).testBit i = true := by simpa using q2
        apply s_seenByM hM' hW (by omega)
        apply rg_X10_risingOf_80
        have hs2 := sees_lt hW i
        have hl := and_lt (y := u) hs2
        rw [ni_and]
        apply s_bits (by omega)
        apply rg_X10_risingOf_86
        apply s_needOf hM' hW (by omega) hs
        apply rg_X10_risingOf_93
        have hn := needA_le hW s (show i < a 1 by omega)
        have hpc := pc_le (seesA a i &&& u)
        simp (disch := omega) only [ni_lt, ni_le, ni_eq, ni_cl, ni_in, nI_add, ni_mul, ni_and, ni_or, ni_xor, ni_dif, ni_bit, ni_b0, ni_b1, ni_nM, nM_ni, nM_lt, lt_nM, nM_le, le_nM, ni_shl, Nat.not_lt_zero, Nat.zero_add, Nat.add_zero, si_t, si_f, not_true_eq_false, not_false_eq_true, true_implies, false_implies, true_and, and_true, forall_const]
        refine ⟨fun q3 => ?_, fun q3 => ?_⟩
        · rw [show decide (needA a s i ≤ pc (seesA a i &&& u)) = false from decide_eq_false (by omega)] at ih
          simpa using ih
        · rw [show decide (needA a s i ≤ pc (seesA a i &&& u)) = true from decide_eq_true (by omega), e] at ih
          simpa using ih
  have h35 : ∀ r, r ≤ m → ∀ mi', frR mi mi' → (∀ p, p < 8 → mi' 115 p = nI (roseF (riseA a s c) up r p)) → mi' 106 25 = nI (rndF (riseA a s c) up r) → rn E (d + 4) 255 K 35 [.ref 106, .int (nI c), .int (nI s), am_mk, .int (nI m), .int (nI (itr (riseA a s c) r up)), .int (nI (r + 1)), am_mk, am_mk] [] mi' ml := dn_ind m (by
    intro r hr ih mi' hf hro hrn
    apply rg_X10_risingOf_35
    have hu' := itr_lt (a := a) (s := s) (c := c) r hu
    simp (disch := omega) only [ni_lt, ni_le, ni_eq, ni_cl, ni_in, nI_add, ni_mul, ni_and, ni_or, ni_xor, ni_dif, ni_bit, ni_b0, ni_b1, ni_nM, nM_ni, nM_lt, lt_nM, nM_le, le_nM, ni_shl, Nat.not_lt_zero, Nat.zero_add, Nat.add_zero, si_t, si_f, not_true_eq_false, not_false_eq_true, true_implies, false_implies, true_and, and_true, forall_const]
    refine ⟨fun q => ?_, fun q => ?_⟩
    · have e : r = m := by omega
      subst e
      exact hk mi' hf hro hrn
    · have hcu := h48 mi' hf (r + 1) (itr (riseA a s c) r up) hu' ?_ ?_ 0 (by omega)
      · exact hcu
      · intro h0
        have hst := more_0.mp h0
        have e : m = r + (m - r) := by omega
        rw [e] at hk
        have := hk mi' hf (fun p hp => by rw [roseF_stay hst]; exact hro p hp) (by rw [rndF_stay hst]; exact hrn)
        rw [itr_stay hst] at this
        exact this
      · intro hne
        generalize hu0 : itr (riseA a s c) r up = u at *
        have hru : itr (riseA a s c) (r + 1) up = riseA a s c u := by rw [itr_succ, hu0]
        have hmo := bset_lt (fun p => (ndif c u).testBit p && decide (needA a s p ≤ pc (seesA a p &&& u))) (a 1)
        have h122 : ∀ i, i ≤ 8 → ∀ mi'', frR mi mi'' → (∀ p, p < 8 → mi'' 115 p = nI (if p < i then roseF (riseA a s c) up (r + 1) p else roseF (riseA a s c) up r p)) → rn E (d + 4) 255 K 122 [.ref 106, .int (nI c), .int (nI s), am_mk, .int (nI m), .int (nI u), .int (nI (r + 1)), .int (nI (moreA a s c u)), .int (nI i)] [] mi'' ml := dn_ind 8 (by
          intro i hi ih2 mi'' hf2 hro2
          apply rg_X10_risingOf_122
          have hmo2 : moreA a s c u < 2147483648 := by unfold moreA; omega
          have hrose : roseF (riseA a s c) up (r + 1) i = if (moreA a s c u).testBit i then r + 1 else roseF (riseA a s c) up r i := by
            show (if (itr (riseA a s c) (r + 1) up).testBit i && !(itr (riseA a s c) r up).testBit i then _ else _) = _
            rw [hru, hu0, ← tb_more]
          simp (disch := omega) only [ni_lt, ni_le, ni_eq, ni_cl, ni_in, nI_add, ni_mul, ni_and, ni_or, ni_xor, ni_dif, ni_bit, ni_b0, ni_b1, ni_nM, nM_ni, nM_lt, lt_nM, nM_le, le_nM, ni_shl, Nat.not_lt_zero, Nat.zero_add, Nat.add_zero, si_t, si_f, not_true_eq_false, not_false_eq_true, true_implies, false_implies, true_and, and_true, forall_const]
          refine ⟨fun q => ?_, fun q => ?_⟩
          · have ih3 := ih (by omega) (am_si mi'' 106 25 (nI (r + 1))) (fun k j hkj => by rw [si_f (by omega)]; exact hf2 k j hkj) (fun p hp => by
              rw [si_f (by omega), hro2 p hp, if_pos (by omega)]) (by
              rw [si_t (by omega)]
              show _ = nI (if itr (riseA a s c) (r + 1) up = itr (riseA a s c) r up then _ else _)
              rw [hru, hu0, if_neg (fun z => hne (more_0.mpr z))])
            rw [hru, ← more_rise] at ih3
            exact ih3
          · refine ⟨fun q2 => ?_, fun q2 => ⟨by omega, ?_⟩⟩
            · have e : (moreA a s c u).testBit i = false := by simpa using q2
              rw [e] at hrose
              refine ih2 (by omega) mi'' hf2 (fun p hp => ?_)
              rw [hro2 p hp]
              congr 1
              by_cases z : p = i
              · subst z
                rw [if_neg (by omega), if_pos (by omega), hrose]
                simp
              · by_cases z2 : p < i
                · rw [if_pos z2, if_pos (by omega)]
                · rw [if_neg z2, if_neg (by omega)]
            · have e : (moreA a s c u).testBit i = true := by simpa using q2
              rw [e] at hrose
              refine ih2 (by omega) _ (fun k j hkj => by rw [si_f (by omega)]; exact hf2 k j hkj) (fun p hp => ?_)
              by_cases z : p = i
              · subst z
                rw [si_t ⟨rfl, rfl⟩, if_pos (by omega), hrose]
                simp
              · rw [si_f (by omega), hro2 p hp]
                congr 1
                by_cases z2 : p < i
                · rw [if_pos z2, if_pos (by omega)]
                · rw [if_neg z2, if_neg (by omega)])
        exact h122 0 (by omega) mi' hf (fun p hp => by rw [hro p hp, if_neg (by omega)]))
  have h11 : ∀ i, i ≤ 8 → ∀ mi', frR mi mi' → (∀ p, p < i → mi' 115 p = nI 0) → mi' 106 25 = nI 0 → rn E (d + 4) 255 K 11 [.ref 106, .int (nI c), .int (nI s), am_mk, .int (nI m), .int (nI up), .int (nI i), am_mk, am_mk] [] mi' ml := dn_ind 8 (by
    intro i hi ih mi' hf h1 h2
    apply rg_X10_risingOf_11
    simp (disch := omega) only [ni_lt, ni_le, ni_eq, ni_cl, ni_in, nI_add, ni_mul, ni_and, ni_or, ni_xor, ni_dif, ni_bit, ni_b0, ni_b1, ni_nM, nM_ni, nM_lt, lt_nM, nM_le, le_nM, ni_shl, Nat.not_lt_zero, Nat.zero_add, Nat.add_zero, si_t, si_f, not_true_eq_false, not_false_eq_true, true_implies, false_implies, true_and, and_true, forall_const]
    refine ⟨fun q => ?_, fun q => ⟨by omega, ?_⟩⟩
    · exact h35 0 (by omega) mi' hf (fun p hp => h1 p (by omega)) h2
    · refine ih (by omega) _ (fun k j hkj => by rw [si_f (by omega)]; exact hf k j hkj) (fun p hp => ?_) (by rw [si_f (by omega)]; exact h2)
      by_cases z : p = i
      · subst z; exact si_t ⟨rfl, rfl⟩
      · rw [si_f (by omega)]; exact h1 p (by omega))
  apply en_X10_risingOf
  exact h11 0 (by omega) _ (fun k j hkj => si_f (by omega)) (fun p hp => absurd hp (Nat.not_lt_zero _)) (si_t ⟨rfl, rfl⟩)
theorem s_outOfM {E : am_E} {d : Nat} {K : am_K} {mi : Nat → Nat → Int32} {ml : Nat → Nat → Int64} {a : Nat → Nat} (hM : MA a mi) (hW : WA a) {s c : Nat} (hs : s < 64) (hc : c < 256) (hk : ∀ mi', frR mi mi' → K (some (.int (nI (outA a c s)))) (S0, mi', ml)) : cq E (d + 6) 256 [.ref 106, .int (nI c), .int (nI s)] K mi ml := by
  have w2 := hW.1.2.2.2.1
  apply en_X10_outOf
  rw [hM 2 (by omega) (by omega)]
  apply s_risingOf hM hW hs hc (by have := p2_pos (a 1); omega) (by omega)
  intro mi' hf _ _
  apply rg_X10_outOf_13
  exact hk mi' hf
theorem s_restOf {E : am_E} {d : Nat} {K : am_K} {mi : Nat → Nat → Int32} {ml : Nat → Nat → Int64} {a : Nat → Nat} (hM : MA a mi) (hW : WA a) {s : Nat} (hs : s < 64) (hk : ∀ mi', frR mi mi' → (∀ p, p < 8 → mi' 115 p = nI (roseF (riseA a s (aboA a)) 0 9 p)) → mi' 106 25 = nI (rndF (riseA a s (aboA a)) 0 9) → K (some (.int (nI (itr (riseA a s (aboA a)) 9 0)))) (S0, mi', ml)) : cq E (d + 6) 257 [.ref 106, .int (nI s)] K mi ml := by
  apply en_X10_restOf
  apply s_aboardM hM hW
  apply rg_X10_restOf_5
  apply s_risingOf hM hW hs (abo_lt hW) (by have := p2_pos (a 1); omega) (by omega)
  intro mi' hf h1 h2
  apply rg_X10_restOf_12
  exact hk mi' hf h1 h2
