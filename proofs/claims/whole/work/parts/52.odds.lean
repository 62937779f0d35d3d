/-! Fractions; odds of tides; sloth; holds copied. -/
theorem INV_f {mi mi' : Nat → Nat → Int32} {ml ml' : Nat → Nat → Int64} (h : INV mi ml) (hf : frQ mi mi') (hl : ∀ k j, ¬ (scl k j ∨ k = 11 ∨ (k = 106 ∧ (j = 3 ∨ j = 4))) → ml' k j = ml k j) (e0 : ml' 11 0 = ml' 106 3) (e1 : ml' 11 1 = ml' 106 4) (hs : mi' 0 0 = mi' 106 2) : INV mi' ml' := by
  obtain ⟨h1, h2, h3, h4, h5, ⟨a, h6⟩, h7, h8, h9⟩ := h
  unfold frQ scr at hf
  unfold scl at hl
  refine ⟨hs, ⟨e0, e1⟩, ?_, R_tape_fr h4 (fun k j z => hf k j (by omega)), R_tr_fr h5 (fun k j z => hf k j (by omega)) (fun k j z => hl k j (by omega)), ⟨a, BY_fr h6 (fun k j z => hf k j (by unfold BYc at z; omega)) (fun k j z => hl k j (by omega))⟩, R_kept_fr h7 (fun k j z => hf k j (by omega)) (fun k j z => hl k j (by omega)), R_life_fr h8 (fun k j z => hf k j (by omega)), R_cst_fr h9 (fun k j z => hl k j (by omega))⟩
  rw [hf 46 9 (by omega), hf 106 16 (by omega), hf 46 10 (by omega), hf 106 17 (by omega)]; exact h3
theorem lgc_eq {x y : Int64} : (lg_cmp x y = nI 0) ↔ x = y := by
  constructor
  · intro h
    have h1 : ¬ (lg_cmp x y < nI 0) := by rw [h]; decide
    have h2 : ¬ (nI 0 < lg_cmp x y) := by rw [h]; decide
    rw [lgc_lt] at h1
    rw [lgc_gt] at h2
    rw [Int64.lt_iff_toInt_lt] at h1 h2
    rw [← Int64.toInt_inj]; omega
  · intro h
    subst h
    have h1 : ¬ (lg_cmp x x < nI 0) := by rw [lgc_lt, Int64.lt_iff_toInt_lt]; omega
    have h2 : ¬ (nI 0 < lg_cmp x x) := by rw [lgc_gt, Int64.lt_iff_toInt_lt]; omega
    rw [Int32.lt_iff_toInt_lt] at h1 h2
    rw [← Int32.toInt_inj]; omega
theorem lN_0 : (0 : Int64) = lN 0 := rfl
theorem lN_1' : (1 : Int64) = lN 1 := rfl
theorem lN_16 : (16 : Int64) = lN 16 := rfl
/-- so many divisions are enough -/
def est : Nat → Nat → Nat → Prop
  | 0, r, _ => r = 0
  | f + 1, r, d => r = 0 ∨ est f (d % r) r
theorem est_ok : ∀ k r d, r < 2 ^ k → est (2 * k) r d
  | 0, r, d, h => by
    have : r = 0 := by simpa using h
    exact this
  | k + 1, r, d, h => by
    show r = 0 ∨ (d % r = 0 ∨ est (2 * k) (r % (d % r)) (d % r))
    by_cases h0 : r = 0
    · exact Or.inl h0
    · by_cases h1 : d % r = 0
      · exact Or.inr (Or.inl h1)
      · refine Or.inr (Or.inr (est_ok k _ _ ?_))
        have hlt : d % r < r := Nat.mod_lt _ (by omega)
        rw [Nat.pow_succ] at h
        generalize d % r = s at *
        by_cases h2 : 2 * s ≤ r
        · have := Nat.mod_lt r (show 0 < s by omega)
          omega
        · rw [Nat.mod_eq_sub_mod (show r ≥ s by omega), Nat.mod_eq_of_lt (by omega)]
          omega
theorem s_tell {E : am_E} {d : Nat} {K : am_K} {mi : Nat → Nat → Int32} {ml : Nat → Nat → Int64} {N D : Nat} (hN : N < 2 ^ 62) (hD : 0 < D) (hD2 : D < 2 ^ 62) (hk : K none (S0, mi, am_sj (am_sj ml 11 0 (lN (N / Nat.gcd N D))) 11 1 (lN (D / Nat.gcd N D)))) : cq E (d + 1) 41 [.ref 11, .long (lN N), .long (lN D)] K mi ml := by
  have key : ∀ f rs dv i, est f rs dv → i + f < 200 → dv < 2 ^ 62 → rs < 2 ^ 62 → 0 < dv → Nat.gcd rs dv = Nat.gcd N D → rn E d 41 K 9 [.ref 11, .long (lN N), am_mk, .long (lN D), am_mk, .long (lN dv), am_mk, .long (lN rs), am_mk, .int (nI i), am_mk, am_mk] [] mi ml := by
    intro f
    induction f with
    | zero =>
      intro rs dv i he hi h1 h2 h3 hg
      have r0 : rs = 0 := he
      subst r0
      rw [Nat.gcd_zero_left] at hg
      subst hg
      apply rg_X2_tell_9
      rw [ni_le (by omega) (by omega), lN_0, lgc_eq, lgc_le, pk_lLE (by omega) (by omega), pk_lEQ (by omega) (by omega), pk_lDiv (by omega) h3 (by omega), pk_lDiv (by omega) h3 (by omega)]
      exact br_f (by omega) (br_t rfl (br_f (by omega) ⟨by omega, by omega, hk⟩))
    | succ f ih =>
      intro rs dv i he hi h1 h2 h3 hg
      apply rg_X2_tell_9
      by_cases r0 : rs = 0
      · subst r0
        rw [Nat.gcd_zero_left] at hg
        subst hg
        rw [ni_le (by omega) (by omega), lN_0, lgc_eq, lgc_le, pk_lLE (by omega) (by omega), pk_lEQ (by omega) (by omega), pk_lDiv (by omega) h3 (by omega), pk_lDiv (by omega) h3 (by omega)]
        exact br_f (by omega) (br_t rfl (br_f (by omega) ⟨by omega, by omega, hk⟩))
      · have he' : est f (dv % rs) rs := by
          rcases he with he | he
          · exact absurd he r0
          · exact he
        have hm := Nat.mod_lt dv (show 0 < rs by omega)
        rw [ni_le (by omega) (by omega), lN_0, lgc_eq, pk_lEQ (a := rs) (by omega) (by omega), pk_lRem (by omega) (by omega) (by omega), nI_add]
        refine br_f (by omega) (br_f r0 ⟨r0, ih _ _ _ he' (by omega) h2 (by omega) (by omega) ?_⟩)
        rw [← hg, Nat.gcd_rec rs dv]
  apply en_X2_tell
  exact key 124 N D 0 (est_ok 62 N D hN) (by omega) hD2 hN hD rfl
theorem s_tellsBy {E : am_E} {d : Nat} {K : am_K} {mi : Nat → Nat → Int32} {ml : Nat → Nat → Int64} {N D : Nat} (hN : N < 2 ^ 62) (hD : 0 < D) (hD2 : D < 2 ^ 62) (hk : K (some (.int (nI 1))) (S0, am_si mi 106 2 (nI 0), am_sj (am_sj ml 106 3 (lN (N / Nat.gcd N D))) 106 4 (lN (D / Nat.gcd N D)))) : cq E (d + 2) 191 [.ref 106, .long (lN N), .long (lN D)] K mi ml := by
  have key : ∀ b a, a < 2 ^ 62 → b < 2 ^ 62 → (0 < a ∨ 0 < b) → Nat.gcd b a = Nat.gcd N D → rn E (d + 1) 191 K 6 [.ref 106, .long (lN N), am_mk, .long (lN D), am_mk, .long (lN a), am_mk, .long (lN b), am_mk, am_mk, am_mk] [] mi ml := by
    intro b
    induction b using Nat.strongRecOn with
    | ind b ih =>
      intro a h1 h2 h3 hg
      apply rg_X10_tellsBy_6
      by_cases b0 : b = 0
      · subst b0
        rw [Nat.gcd_zero_left] at hg
        subst hg
        have hne : ¬ lN (Nat.gcd N D) = lN 0 := by rw [pk_lEQ (by omega) (by omega)]; omega
        rw [lN_0, lgc_eq, pk_lDiv (by omega) (by omega) (by omega), pk_lDiv (by omega) (by omega) (by omega)]
        exact br_t rfl ⟨hne, hne, hk⟩
      · have hm := Nat.mod_lt a (show 0 < b by omega)
        rw [lN_0, lgc_eq, pk_lEQ (a := b) (by omega) (by omega), pk_lRem (by omega) (by omega) (by omega)]
        refine br_f b0 ⟨b0, ih _ hm _ h2 (by omega) (Or.inl (by omega)) ?_⟩
        rw [← hg, Nat.gcd_rec b a]
  apply en_X10_tellsBy
  exact key D N hN hD2 (Or.inr hD) (Nat.gcd_comm D N)
/-- both told the same -/
theorem INV_tell {mi m1 m2 : Nat → Nat → Int32} {ml l1 l2 : Nat → Nat → Int64} {x y : Int64} (h : INV mi ml) (h1 : fr0 mi m1) (h2 : fr0 (am_si m1 0 0 (nI 0)) m2) (g1 : frL ml l1) (g2 : frL (am_sj (am_sj l1 11 0 x) 11 1 y) l2) : INV (am_si m2 106 2 (nI 0)) (am_sj (am_sj l2 106 3 x) 106 4 y) := by
  unfold frL scl at g1 g2
  refine INV_f h (fun k j q => ?_) (fun k j q => ?_) ?_ ?_ ?_
  · unfold scr at q
    rw [si_f (by omega), h2 k j (by unfold sc0; omega), si_f (by omega), h1 k j (by unfold sc0; omega)]
  · unfold scl at q
    rw [sj_f (by omega), sj_f (by omega), g2 k j (by omega), sj_f (by omega), sj_f (by omega), g1 k j (by omega)]
  · rw [sj_f (by omega), sj_f (by omega), sj_f (by omega), sj_t ⟨rfl, rfl⟩, g2 11 0 (by omega), sj_f (by omega), sj_t ⟨rfl, rfl⟩]
  · rw [sj_f (by omega), sj_f (by omega), sj_t ⟨rfl, rfl⟩, g2 11 1 (by omega), sj_t ⟨rfl, rfl⟩]
  · rw [si_f (by omega), si_t ⟨rfl, rfl⟩, h2 0 0 (by unfold sc0; omega), si_t ⟨rfl, rfl⟩]
theorem frL_rfl {ml : Nat → Nat → Int64} : frL ml ml := fun _ _ _ => rfl
theorem op_sloth {E : am_E} {K : am_K} {mi : Nat → Nat → Int32} {ml : Nat → Nat → Int64} (hI : INV mi ml) {u : Int32} (hk : PR 314 [.ref 106, .int u] E K) : cq E 14 175 [.ref 0, .int u] K mi ml := by
  obtain ⟨i1, i2, i3, i4, i5, ⟨a, hB⟩, i7, i8, i9⟩ := id hI
  have hW : WA a := hB.1.1
  have hC : CB 12 a mi := hB.2.1
  have hM : MA a mi := MS_0.mp hB.2.2.1
  have hMi := hM
  unfold MA at hMi
  obtain ⟨⟨x0, x1, x2, x3, x4, x5, x6, x7, x8⟩, y, z⟩ := id hW
  have w := WA_p2 hW
  have hp0 := p2_pos (a 0)
  have hp1 := p2_pos (a 1)
  obtain ⟨⟨c0, c1, c2, c3, c4, c5, c6, c7⟩, cp, ch, ct, cx, cs⟩ := CB12 hC
  have e0 : nI 1 <<< ms (nI (a 0)) = nI (2 ^ a 0) := by rw [ni_shl (by omega), Nat.one_shiftLeft]
  have e1 : nI 1 <<< ms (nI (a 1)) = nI (2 ^ a 1) := by rw [ni_shl (by omega), Nat.one_shiftLeft]
  have f0 : nI (2 ^ a 0) - nI 1 = nI (2 ^ a 0 - 1) := ni_sub hp0
  have f1 : nI (2 ^ a 1) - nI 1 = nI (2 ^ a 1 - 1) := ni_sub hp1
  have m0 : mi 107 0 = nI (a 0) := hM 0 (by omega) (by omega)
  have m1 : mi 107 1 = nI (a 1) := hM 1 (by omega) (by omega)
  have m6 : mi 107 6 = nI (a 6) := hM 6 (by omega) (by omega)
  have m7 : mi 107 7 = nI (a 7) := hM 7 (by omega) (by omega)
  have m5 : mi 107 5 = nI (a 5) := hM 5 (by omega) (by omega)
  have b5 := hB.1.2.1
  apply en_X9_sloth (d := 12)
  simp only [lgc_lt, lgc_ge, lgc_gt, lgc_le, l64_0, l64_1, l64_3, l64_5, l64_9, l64_12, l64_16, l64_20, l64_60, l64_9999, w64_lt, w64_le, s107, s106, s110, s109, e0, e1, f0, f1, c0, c1, c2, c3, c4, c5, c6, c7, m0, m1, m6, m7, m5]
  by_cases hu : ∃ p, p < a 1 ∧ u = nI p
  · obtain ⟨p, hp, rfl⟩ := hu
    have hs := hB.1.2.2 p hp
    refine rng_ok (by omega) hp ?_
    rw [ni_eq (by omega) (by omega)]
    refine ⟨fun q => ⟨by rw [ni_in (by omega)]; omega, ?_⟩, fun q => ?_⟩
    · have e16 : mi 16 p = nI (a (16 + 4 * p + 1)) := (hC.2.2 p hp).2.1
      rw [ni_cl (by omega), e16, nI_l (by omega), nI_l (by omega)]
      apply s_tell (by omega) (by omega) (by omega)
      apply rg_X9_sloth_59 (d := 12)
      refine hk _ _ _ (fun Km hm => ?_)
      apply en_X10_sloth (d := 11)
      simp only [lgc_lt, lgc_ge, lgc_gt, lgc_le, l64_0, l64_1, l64_3, l64_5, l64_9, l64_12, l64_16, l64_20, l64_60, l64_9999, w64_lt, w64_le, s107, s106, s110, s109, e0, e1, f0, f1, c0, c1, c2, c3, c4, c5, c6, c7, m0, m1, m6, m7, m5]
      have e17 : mi 107 (16 + 4 * p + 1) = nI (a (16 + 4 * p + 1)) := hM _ (by omega) (by omega)
      rw [ni_mul, nI_add, nI_add, ni_cl (by omega), e17, ni_eq (by omega) (by omega)]
      refine rng_ok (by omega) hp (br_t q ⟨by rw [ni_in (by omega)]; omega, ?_⟩)
      rw [nI_l (by omega), nI_l (by omega)]
      apply s_tellsBy (by omega) (by omega) (by omega)
      apply rg_X10_sloth_50 (d := 11)
      exact ⟨Or.inr rfl, hm _ _ (INV_tell hI fr0_rfl fr0_rfl frL_rfl frL_rfl)⟩
    · refine hk _ _ _ (fun Km hm => ?_)
      apply en_X10_sloth (d := 11)
      simp only [lgc_lt, lgc_ge, lgc_gt, lgc_le, l64_0, l64_1, l64_3, l64_5, l64_9, l64_12, l64_16, l64_20, l64_60, l64_9999, w64_lt, w64_le, s107, s106, s110, s109, e0, e1, f0, f1, c0, c1, c2, c3, c4, c5, c6, c7, m0, m1, m6, m7, m5]
      rw [ni_eq (by omega) (by omega)]
      exact rng_ok (by omega) hp (br_f q (hm _ _ (INV_cm hI fr0_rfl fr0_rfl)))
  · refine rng_bad (by omega) hu ?_
    refine hk _ _ _ (fun Km hm => ?_)
    apply en_X10_sloth (d := 11)
    simp only [lgc_lt, lgc_ge, lgc_gt, lgc_le, l64_0, l64_1, l64_3, l64_5, l64_9, l64_12, l64_16, l64_20, l64_60, l64_9999, w64_lt, w64_le, s107, s106, s110, s109, e0, e1, f0, f1, c0, c1, c2, c3, c4, c5, c6, c7, m0, m1, m6, m7, m5]
    exact rng_bad (by omega) hu (hm _ _ (INV_cm hI fr0_rfl fr0_rfl))
/-- so many tides out of c, weighed -/
def tq (o q : Nat) : Nat → Nat → Nat
  | 0, 0 => 1
  | 0, _ + 1 => 0
  | c + 1, 0 => tq o q c 0 * q
  | c + 1, i + 1 => tq o q c (i + 1) * q + tq o q c i * o
theorem tq_le {o q : Nat} (h : o + q = 16) : ∀ c i, tq o q c i ≤ 16 ^ c
  | 0, 0 => Nat.le_refl _
  | 0, _ + 1 => Nat.zero_le _
  | c + 1, 0 => by
    show tq o q c 0 * q ≤ 16 ^ c * 16
    exact Nat.mul_le_mul (tq_le h c 0) (by omega)
  | c + 1, i + 1 => by
    show tq o q c (i + 1) * q + tq o q c i * o ≤ 16 ^ c * 16
    have h1 := Nat.mul_le_mul_right q (tq_le h c (i + 1))
    have h2 := Nat.mul_le_mul_right o (tq_le h c i)
    have h3 : 16 ^ c * 16 = 16 ^ c * q + 16 ^ c * o := by rw [← Nat.mul_add, Nat.add_comm q o, h]
    omega
theorem tq_bn (o q : Nat) : ∀ c i, (c < i → tq o q c i = 0 ∧ tq 1 1 c i = 0) ∧ (i ≤ c → tq o q c i = tq 1 1 c i * o ^ i * q ^ (c - i))
  | 0, 0 => ⟨fun h => absurd h (by omega), fun _ => by simp [tq]⟩
  | 0, i + 1 => ⟨fun _ => ⟨rfl, rfl⟩, fun h => absurd h (by omega)⟩
  | c + 1, 0 => ⟨fun h => absurd h (by omega), fun _ => by
    have := (tq_bn o q c 0).2 (by omega)
    show tq o q c 0 * q = tq 1 1 c 0 * 1 * o ^ 0 * q ^ (c + 1 - 0)
    rw [this, Nat.mul_one, Nat.sub_zero, Nat.sub_zero, Nat.pow_succ, Nat.mul_assoc, Nat.mul_assoc]⟩
  | c + 1, i + 1 => ⟨fun h => by
      have h1 := (tq_bn o q c (i + 1)).1 (by omega)
      have h2 := (tq_bn o q c i).1 (by omega)
      constructor
      · show tq o q c (i + 1) * q + tq o q c i * o = 0
        rw [h1.1, h2.1, Nat.zero_mul, Nat.zero_mul]
      · show tq 1 1 c (i + 1) * 1 + tq 1 1 c i * 1 = 0
        rw [h1.2, h2.2], fun h => by
      have h2 := (tq_bn o q c i).2 (by omega)
      show tq o q c (i + 1) * q + tq o q c i * o = (tq 1 1 c (i + 1) * 1 + tq 1 1 c i * 1) * o ^ (i + 1) * q ^ (c + 1 - (i + 1))
      rw [show c + 1 - (i + 1) = c - i by omega, Nat.mul_one, Nat.mul_one, Nat.add_mul, Nat.add_mul]
      congr 1
      · by_cases e : c < i + 1
        · have h1 := (tq_bn o q c (i + 1)).1 e
          rw [h1.1, h1.2, Nat.zero_mul, Nat.zero_mul, Nat.zero_mul]
        · rw [(tq_bn o q c (i + 1)).2 (by omega), show c - i = c - (i + 1) + 1 by omega, show q ^ (c - (i + 1) + 1) = q ^ (c - (i + 1)) * q from Nat.pow_succ _ _]
          simp only [Nat.mul_assoc]
      · rw [h2, Nat.pow_succ]
        simp only [Nat.mul_assoc, Nat.mul_comm, Nat.mul_left_comm]⟩
def bnn (n i : Nat) : Nat := tq 1 1 n i
theorem bn_next : ∀ n, n < 13 → ∀ i, i < 13 → bnn n i * (n - i) / (i + 1) = bnn n (i + 1) ∧ bnn n i < 1000 := by decide +kernel
def tsum (o q n k : Nat) (x : Nat) : Nat := nsum (fun j => if k ≤ j then tq o q n j else 0) x
theorem tsum_le {o q n k : Nat} (h : o + q = 16) (hn : n ≤ 12) {x : Nat} (hx : x ≤ 13) : tsum o q n k x < 2 ^ 62 := by
  have h1 : tsum o q n k x ≤ x * 16 ^ 12 := nsum_bd (fun j _ => by
    have h2 := tq_le h n j
    have h3 : 16 ^ n ≤ 16 ^ 12 := Nat.pow_le_pow_right (by omega) hn
    split
    · omega
    · exact Nat.zero_le _)
  have h2 : x * 16 ^ 12 ≤ 13 * 16 ^ 12 := Nat.mul_le_mul_right _ hx
  have h3 : (13 : Nat) * 16 ^ 12 < 2 ^ 62 := by decide
  omega
theorem tsum_hi {o q n k : Nat} : ∀ y, tsum o q n k (n + 1 + y) = tsum o q n k (n + 1)
  | 0 => rfl
  | y + 1 => by
    show tsum o q n k (n + 1 + y) + (if k ≤ n + 1 + y then tq o q n (n + 1 + y) else 0) = _
    rw [tsum_hi y, ((tq_bn o q n (n + 1 + y)).1 (by omega)).1]
    simp
theorem tsum_lo {o q n k : Nat} : ∀ x, x ≤ k → tsum o q n k x = 0
  | 0, _ => rfl
  | x + 1, h => by
    show tsum o q n k x + (if k ≤ x then tq o q n x else 0) = 0
    rw [tsum_lo x (by omega), if_neg (by omega)]
theorem s_power {E : am_E} {d : Nat} {K : am_K} {mi : Nat → Nat → Int32} {ml : Nat → Nat → Int64} {b t : Nat} (hb : b < 2147483648) (ht : t < 100) (hk : K (some (.long (lN (b ^ t)))) (S0, mi, ml)) : cq E (d + 1) 174 [.int (nI b), .int (nI t)] K mi ml := by
  have key : ∀ i, i ≤ t → rn E d 174 K 5 [.int (nI b), .int (nI t), .long (lN (b ^ i)), am_mk, .int (nI i)] [] mi ml := dn_ind t (by
    intro i hi ih
    apply rg_X9_power_5
    rw [ni_le (by omega) (by omega), nI_l hb, lN_mul, nI_add, ← Nat.pow_succ]
    refine ⟨fun q => ?_, fun q => ih (by omega)⟩
    have : i = t := by omega
    subst this
    exact hk)
  apply en_X9_power
  exact key 0 (by omega)
theorem ni_addM {a : Nat} (h : 1 ≤ a) : nI a + nM = nI (a - 1) := by
  have e : nI a = nI (a - 1) + nI 1 := by rw [nI_add, Nat.sub_add_cancel h]
  rw [e, Int32.add_assoc, show nI 1 + nM = 0 by decide, Int32.add_zero]
def dnI (e : Nat) : Int32 := if e < 13 then nI (12 - e) else nM
theorem dnI_s {e : Nat} (h : e < 13) : nI (12 - e) + nM = dnI (e + 1) := by
  unfold dnI
  by_cases q : e = 12
  · subst q; decide
  · rw [if_pos (by omega), ni_addM (by omega), show 12 - e - 1 = 12 - (e + 1) by omega]
theorem s_tidesM {E : am_E} {d : Nat} {K : am_K} {mi : Nat → Nat → Int32} {ml : Nat → Nat → Int64} {a : Nat → Nat} {n k : Nat} (hM : MA a mi) (hW : WA a) (hn : n < 13) (hk13 : k < 13) (hk : ∀ ml', (∀ k j, k ≠ 118 → ml' k j = ml k j) → K (some (.int (nI 1))) (S0, am_si mi 106 2 (nI 0), am_sj (am_sj ml' 106 3 (lN (tsum (a 4) (16 - a 4) n k (n + 1) / Nat.gcd (tsum (a 4) (16 - a 4) n k (n + 1)) (16 ^ n)))) 106 4 (lN (16 ^ n / Nat.gcd (tsum (a 4) (16 - a 4) n k (n + 1)) (16 ^ n))))) : rn E (d + 2) 313 K 35 [.ref 106, .int (nI n), .int (nI k), .long 1, am_mk, .int (nI 0), am_mk, am_mk] [] mi ml := by
  have x4 := hW.1.2.2.2.2.2.1
  have m4 : mi 107 4 = nI (a 4) := hM 4 (by omega) (by omega)
  have hq : a 4 + (16 - a 4) = 16 := by omega
  have p16 : 16 ^ n < 2 ^ 62 := Nat.lt_of_le_of_lt (Nat.pow_le_pow_right (by omega) (show n ≤ 12 by omega)) (by decide)
  have q16 : 0 < 16 ^ n := Nat.pow_pos (by omega)
  have hS := tsum_le hq (n := n) (k := k) (by omega) (x := n + 1) (by omega)
  have e13 : tsum (a 4) (16 - a 4) n k 13 = tsum (a 4) (16 - a 4) n k (n + 1) := by
    have := tsum_hi (o := a 4) (q := 16 - a 4) (n := n) (k := k) (12 - n)
    rw [show n + 1 + (12 - n) = 13 by omega] at this
    exact this
  have keyS : ∀ ml', (∀ k j, k ≠ 118 → ml' k j = ml k j) → (∀ i, i < 13 → ml' 118 i = lN (tq (a 4) (16 - a 4) n i)) → ∀ x, x ≤ 13 → k ≤ x → rn E (d + 2) 313 K 159 [.ref 106, am_mk, am_mk, .long (lN (16 ^ n)), am_mk, .long (lN (tsum (a 4) (16 - a 4) n k x)), am_mk, .int (nI x)] [] mi ml' := by
    intro ml' hf hr
    refine dn_ind 13 (fun x hx ih hkx => ?_)
    apply rg_X10_tides_159
    rw [ni_le (by omega) (by omega)]
    refine ⟨fun q => ?_, fun q => ⟨by rw [ni_in (by omega)]; omega, ?_⟩⟩
    · have : x = 13 := by omega
      subst this
      rw [e13]
      apply s_tellsBy hS q16 p16
      apply rg_X10_tides_191
      exact ⟨Or.inr rfl, hk _ hf⟩
    · rw [ni_cl (by omega), hr x (by omega), lN_add, nI_add]
      have := ih (by omega) (by omega)
      rw [show tsum (a 4) (16 - a 4) n k (x + 1) = tsum (a 4) (16 - a 4) n k x + tq (a 4) (16 - a 4) n x by
        show tsum (a 4) (16 - a 4) n k x + (if k ≤ x then tq (a 4) (16 - a 4) n x else 0) = _
        rw [if_pos hkx]] at this
      exact this
  have keyR : ∀ c, c < n → (∀ ml', (∀ k j, k ≠ 118 → ml' k j = ml k j) → (∀ i, i < 13 → ml' 118 i = lN (tq (a 4) (16 - a 4) (c + 1) i)) → rn E (d + 2) 313 K 68 [.ref 106, .int (nI n), .int (nI k), .long (lN (16 ^ (c + 1))), am_mk, .int (nI (c + 1)), am_mk, am_mk] [] mi ml') → ∀ e, e ≤ 13 → ∀ ml', (∀ k j, k ≠ 118 → ml' k j = ml k j) → (∀ i, i < 13 → ml' 118 i = lN (if 13 ≤ i + e then tq (a 4) (16 - a 4) (c + 1) i else tq (a 4) (16 - a 4) c i)) → rn E (d + 2) 313 K 78 [.ref 106, .int (nI n), .int (nI k), .long (lN (16 ^ c)), am_mk, .int (nI c), .int (dnI e), am_mk] [] mi ml' := by
    intro c hc hh
    refine dn_ind 13 (fun e he ih ml' hf hr => ?_)
    apply rg_X10_tides_78
    by_cases e3 : e = 13
    · subst e3
      have : dnI 13 = nM := rfl
      rw [this, lN_16, lN_mul, nI_add]
      refine br_t (by decide) (hh _ hf (fun i hi => ?_))
      rw [hr i hi, if_pos (by omega)]
    · have : dnI e = nI (12 - e) := if_pos (by omega)
      rw [this, ni_lt (by omega) (by omega), ni_eq (by omega) (by omega), ni_cl (by omega), m4, ni_sub (a := 16) (by omega), nI_l (by omega), nI_l (by omega), dnI_s (by omega), hr (12 - e) (by omega), if_neg (by omega)]
      refine br_f (by omega) ⟨by rw [ni_in (by omega)]; omega, fun q => ?_, fun q => ⟨by rw [ni_in (by omega)]; omega, ?_⟩⟩
      · rw [ni_sub (by omega), ni_cl (by omega), hr (12 - e - 1) (by omega), if_neg (by omega), lN_mul, lN_mul, lN_add]
        refine ⟨by rw [ni_in (by omega)]; omega, by rw [ni_in (by omega)]; omega, ih (by omega) _ (fun k j z => by rw [sj_f (by omega)]; exact hf k j z) (fun i hi => ?_)⟩
        by_cases e4 : i = 12 - e
        · rw [sj_t ⟨rfl, e4⟩, if_pos (by omega), e4]
          rw [show 12 - e = (12 - e - 1) + 1 by omega]
          rfl
        · rw [sj_f (by omega), hr i hi]
          by_cases e5 : 13 ≤ i + e
          · rw [if_pos e5, if_pos (by omega)]
          · rw [if_neg e5, if_neg (by omega)]
      · have e12 : 12 - e = 0 := by omega
        rw [e12, Int64.add_zero, lN_mul]
        refine ih (by omega) _ (fun k j z => by rw [sj_f (by omega)]; exact hf k j z) (fun i hi => ?_)
        by_cases e4 : i = 0
        · rw [sj_t ⟨rfl, e4⟩, if_pos (by omega), e4]
          rfl
        · rw [sj_f (by omega), hr i hi, if_pos (by omega), if_pos (by omega)]
  have keyC : ∀ c, c ≤ n → ∀ ml', (∀ k j, k ≠ 118 → ml' k j = ml k j) → (∀ i, i < 13 → ml' 118 i = lN (tq (a 4) (16 - a 4) c i)) → rn E (d + 2) 313 K 68 [.ref 106, .int (nI n), .int (nI k), .long (lN (16 ^ c)), am_mk, .int (nI c), am_mk, am_mk] [] mi ml' := by
    refine dn_ind n (fun c hc ih ml' hf hr => ?_)
    apply rg_X10_tides_68
    rw [ni_le (by omega) (by omega)]
    refine ⟨fun q => ?_, fun q => ?_⟩
    · have : c = n := by omega
      subst this
      have := keyS _ hf hr k (by omega) (Nat.le_refl _)
      rw [tsum_lo k (Nat.le_refl _)] at this
      exact this
    · exact keyR c (by omega) (fun l1 f1 r1 => ih (by omega) l1 f1 r1) 0 (by omega) ml' hf (fun i hi => by rw [hr i hi, if_neg (by omega)])
  have keyI : ∀ i, i ≤ 13 → ∀ ml', (∀ k j, k ≠ 118 → ml' k j = ml k j) → (∀ x, x < i → ml' 118 x = lN (tq (a 4) (16 - a 4) 0 x)) → rn E (d + 2) 313 K 35 [.ref 106, .int (nI n), .int (nI k), .long 1, am_mk, .int (nI i), am_mk, am_mk] [] mi ml' := by
    refine dn_ind 13 (fun i hi ih ml' hf hr => ?_)
    apply rg_X10_tides_35
    rw [ni_le (by omega) (by omega), ni_eq (by omega) (by omega), ni_cl (by omega), nI_add]
    refine ⟨fun q => ?_, fun q => ⟨fun q2 => ⟨by rw [ni_in (by omega)]; omega, ?_⟩, fun q2 => ⟨by rw [ni_in (by omega)]; omega, ?_⟩⟩⟩
    · have : i = 13 := by omega
      subst this
      exact keyC 0 (by omega) ml' hf hr
    · refine ih (by omega) _ (fun k j z => by rw [sj_f (by omega)]; exact hf k j z) (fun x hx => ?_)
      by_cases e : x = i
      · rw [sj_t ⟨rfl, e⟩, e]
        obtain ⟨j, rfl⟩ : ∃ j, i = j + 1 := ⟨i - 1, by omega⟩
        rfl
      · rw [sj_f (by omega)]; exact hr x (by omega)
    · refine ih (by omega) _ (fun k j z => by rw [sj_f (by omega)]; exact hf k j z) (fun x hx => ?_)
      have e0 : i = 0 := by omega
      subst e0
      have : x = 0 := by omega
      subst this
      rw [sj_t ⟨rfl, rfl⟩]
      rfl
  exact keyI 0 (by omega) ml (fun _ _ _ => rfl) (fun _ h => absurd h (Nat.not_lt_zero _))
theorem op_tides {E : am_E} {K : am_K} {mi : Nat → Nat → Int32} {ml : Nat → Nat → Int64} (hI : INV mi ml) {u v : Int32} (hk : PR 313 [.ref 106, .int u, .int v] E K) : cq E 14 173 [.ref 0, .int u, .int v] K mi ml := by
  obtain ⟨i1, i2, i3, i4, i5, ⟨a, hB⟩, i7, i8, i9⟩ := id hI
  have hW : WA a := hB.1.1
  have hC : CB 12 a mi := hB.2.1
  have hM : MA a mi := MS_0.mp hB.2.2.1
  have hMi := hM
  unfold MA at hMi
  obtain ⟨⟨x0, x1, x2, x3, x4, x5, x6, x7, x8⟩, y, z⟩ := id hW
  have w := WA_p2 hW
  have hp0 := p2_pos (a 0)
  have hp1 := p2_pos (a 1)
  obtain ⟨⟨c0, c1, c2, c3, c4, c5, c6, c7⟩, cp, ch, ct, cx, cs⟩ := CB12 hC
  have e0 : nI 1 <<< ms (nI (a 0)) = nI (2 ^ a 0) := by rw [ni_shl (by omega), Nat.one_shiftLeft]
  have e1 : nI 1 <<< ms (nI (a 1)) = nI (2 ^ a 1) := by rw [ni_shl (by omega), Nat.one_shiftLeft]
  have f0 : nI (2 ^ a 0) - nI 1 = nI (2 ^ a 0 - 1) := ni_sub hp0
  have f1 : nI (2 ^ a 1) - nI 1 = nI (2 ^ a 1 - 1) := ni_sub hp1
  have m0 : mi 107 0 = nI (a 0) := hM 0 (by omega) (by omega)
  have m1 : mi 107 1 = nI (a 1) := hM 1 (by omega) (by omega)
  have m6 : mi 107 6 = nI (a 6) := hM 6 (by omega) (by omega)
  have m7 : mi 107 7 = nI (a 7) := hM 7 (by omega) (by omega)
  apply en_X9_tides (d := 12)
  by_cases hu : ∃ n, n < 13 ∧ u = nI n
  case neg =>
    refine rng_bd2 (n := 13) (by omega) (by omega) hu ?_
    refine hk _ _ _ (fun Km hm => ?_)
    apply en_X10_tides (d := 11)
    simp only [lgc_lt, lgc_ge, lgc_gt, lgc_le, l64_0, l64_1, l64_3, l64_5, l64_9, l64_12, l64_16, l64_20, l64_60, l64_9999, w64_lt, w64_le, s107, s106, s110, s109, e0, e1, f0, f1, c0, c1, c2, c3, c4, c5, c6, c7, m0, m1, m6, m7]
    exact rng_bd2 (n := 13) (by omega) (by omega) hu (hm _ _ (INV_cm hI fr0_rfl fr0_rfl))
  obtain ⟨n, hn, rfl⟩ := hu
  refine rng_ok2 (n := 13) (by omega) hn ?_
  by_cases hv : ∃ k, k < 13 ∧ v = nI k
  case neg =>
    refine rng_bd2 (n := 13) (by omega) (by omega) hv ?_
    refine hk _ _ _ (fun Km hm => ?_)
    apply en_X10_tides (d := 11)
    simp only [lgc_lt, lgc_ge, lgc_gt, lgc_le, l64_0, l64_1, l64_3, l64_5, l64_9, l64_12, l64_16, l64_20, l64_60, l64_9999, w64_lt, w64_le, s107, s106, s110, s109, e0, e1, f0, f1, c0, c1, c2, c3, c4, c5, c6, c7, m0, m1, m6, m7]
    exact rng_ok2 (n := 13) (by omega) hn (rng_bd2 (n := 13) (by omega) (by omega) hv (hm _ _ (INV_cm hI fr0_rfl fr0_rfl)))
  obtain ⟨k, hk13, rfl⟩ := hv
  refine rng_ok2 (n := 13) (by omega) hk13 ?_
  have hq : a 4 + (16 - a 4) = 16 := by omega
  have p16 : 16 ^ n < 2 ^ 62 := Nat.lt_of_le_of_lt (Nat.pow_le_pow_right (by omega) (show n ≤ 12 by omega)) (by decide)
  have q16 : 0 < 16 ^ n := Nat.pow_pos (by omega)
  have hS := tsum_le hq (n := n) (k := k) (by omega) (x := n + 1) (by omega)
  have key : ∀ i, i ≤ n + 1 → rn E 13 173 K 34 [.ref 0, .int (nI n), .int (nI k), .long (lN (tsum (a 4) (16 - a 4) n k i)), am_mk, .long (lN (bnn n i)), am_mk, .int (nI i)] [] mi ml := by
    refine dn_ind (n + 1) (fun i hi ih => ?_)
    apply rg_X9_tides_34 (d := 12)
    rw [ni_lt (by omega) (by omega), ni_lt (by omega) (by omega)]
    refine ⟨fun q => ?_, fun q => ?_⟩
    · have : i = n + 1 := by omega
      subst this
      apply s_power (b := 16) (by omega) (by omega)
      apply rg_X9_tides_115 (d := 12)
      apply s_tell hS q16 p16
      apply rg_X9_tides_118 (d := 12)
      refine hk _ _ _ (fun Km hm => ?_)
      have hM1 : MA a (am_si mi 0 0 (nI 0)) := MA_0 hM fr0_rfl
      apply en_X10_tides (d := 11)
      simp only [lgc_lt, lgc_ge, lgc_gt, lgc_le, l64_0, l64_1, l64_3, l64_5, l64_9, l64_12, l64_16, l64_20, l64_60, l64_9999, w64_lt, w64_le, s107, s106, s110, s109, e0, e1, f0, f1, c0, c1, c2, c3, c4, c5, c6, c7, m0, m1, m6, m7]
      refine rng_ok2 (n := 13) (by omega) hn (rng_ok2 (n := 13) (by omega) hk13 ?_)
      apply s_tidesM hM1 hW hn hk13
      intro l2 f2
      exact hm _ _ (INV_tell hI fr0_rfl fr0_rfl frL_rfl (fun k j z => f2 k j (by unfold scl at z; omega)))
    · obtain ⟨b1, b2⟩ := bn_next n hn i (by omega)
      have e1 : ¬ Int32.toInt64 (nI i + nI 1) = 0 := by
        rw [nI_add, nI_l (by omega), lN_0, pk_lEQ (by omega) (by omega)]; omega
      have hb : bnn n i * (n - i) ≤ 1000 * 12 := Nat.mul_le_mul (by omega) (by omega)
      have e2 : lN (bnn n i) * Int32.toInt64 (nI n - nI i) / Int32.toInt64 (nI i + nI 1) = lN (bnn n (i + 1)) := by
        rw [ni_sub (by omega), nI_add, nI_l (by omega), nI_l (by omega), lN_mul, pk_lDiv (by omega) (by omega) (by omega), b1]
      have ih' := ih (by omega)
      refine ⟨fun q2 => ⟨e1, ?_⟩, fun q2 => ?_⟩
      · rw [e2, nI_add]
        rw [show tsum (a 4) (16 - a 4) n k (i + 1) = tsum (a 4) (16 - a 4) n k i by
          show tsum (a 4) (16 - a 4) n k i + (if k ≤ i then tq (a 4) (16 - a 4) n i else 0) = _
          rw [if_neg (by omega)]; rfl] at ih'
        exact ih'
      · rw [c2]
        apply s_power (by omega) (by omega)
        apply rg_X9_tides_61 (d := 12)
        rw [c2, ni_sub (by omega), ni_sub (by omega)]
        apply s_power (by omega) (by omega)
        apply rg_X9_tides_79 (d := 12)
        refine ⟨e1, ?_⟩
        rw [e2, nI_add, lN_mul, lN_mul, lN_add]
        rw [show tsum (a 4) (16 - a 4) n k (i + 1) = tsum (a 4) (16 - a 4) n k i + bnn n i * a 4 ^ i * (16 - a 4) ^ (n - i) by
          show tsum (a 4) (16 - a 4) n k i + (if k ≤ i then tq (a 4) (16 - a 4) n i else 0) = _
          rw [if_pos (by omega), (tq_bn (a 4) (16 - a 4) n i).2 (by omega)]; rfl] at ih'
        exact ih'
  have h0 := key 0 (by omega)
  have hb0 : bnn n 0 = 1 := (show ∀ n, n < 13 → bnn n 0 = 1 by decide +kernel) n hn
  rw [hb0] at h0
  exact h0
/-- numbers put from the first place on -/
def pt8 (c off m : Nat) (v : Nat → Int64) (f g : Nat → Nat → Int64) : Prop := (∀ k j, ¬ (k = c ∧ off ≤ j ∧ j < off + m) → g k j = f k j) ∧ (∀ i, i < m → g c (off + i) = v i)
theorem pt8_0 {c off : Nat} {v : Nat → Int64} {f : Nat → Nat → Int64} : pt8 c off 0 v f f := ⟨fun _ _ _ => rfl, fun _ h => absurd h (Nat.not_lt_zero _)⟩
theorem pt8_s {c off m : Nat} {v : Nat → Int64} {f g : Nat → Nat → Int64} (h : pt8 c off m v f g) : pt8 c off (m + 1) v f (am_sj g c (off + m) (v m)) := by
  refine ⟨fun k j q => ?_, fun i hi => ?_⟩
  · rw [sj_f (by omega)]; exact h.1 k j (by omega)
  · by_cases q : i = m
    · rw [sj_t ⟨rfl, by omega⟩, q]
    · rw [sj_f (by omega)]; exact h.2 i (by omega)
theorem op_copyHolds {E : am_E} {K : am_K} {mi : Nat → Nat → Int32} {ml : Nat → Nat → Int64} (hI : INV mi ml) {u : Int32} (hk : PR 315 [.ref 106, .int u] E K) : cq E 14 176 [.ref 0, .int u] K mi ml := by
  obtain ⟨i1, i2, i3, i4, i5, ⟨a, hB⟩, i7, i8, i9⟩ := id hI
  have hW : WA a := hB.1.1
  have hC : CB 12 a mi := hB.2.1
  have hM : MA a mi := MS_0.mp hB.2.2.1
  have hMi := hM
  unfold MA at hMi
  obtain ⟨⟨x0, x1, x2, x3, x4, x5, x6, x7, x8⟩, y, z⟩ := id hW
  have w := WA_p2 hW
  have hp0 := p2_pos (a 0)
  have hp1 := p2_pos (a 1)
  obtain ⟨⟨c0, c1, c2, c3, c4, c5, c6, c7⟩, cp, ch, ct, cx, cs⟩ := CB12 hC
  have e0 : nI 1 <<< ms (nI (a 0)) = nI (2 ^ a 0) := by rw [ni_shl (by omega), Nat.one_shiftLeft]
  have e1 : nI 1 <<< ms (nI (a 1)) = nI (2 ^ a 1) := by rw [ni_shl (by omega), Nat.one_shiftLeft]
  have f0 : nI (2 ^ a 0) - nI 1 = nI (2 ^ a 0 - 1) := ni_sub hp0
  have f1 : nI (2 ^ a 1) - nI 1 = nI (2 ^ a 1 - 1) := ni_sub hp1
  have m0 : mi 107 0 = nI (a 0) := hM 0 (by omega) (by omega)
  have m1 : mi 107 1 = nI (a 1) := hM 1 (by omega) (by omega)
  have m6 : mi 107 6 = nI (a 6) := hM 6 (by omega) (by omega)
  have m7 : mi 107 7 = nI (a 7) := hM 7 (by omega) (by omega)
  apply en_X9_copyHolds (d := 11)
  simp only [lgc_lt, lgc_ge, lgc_gt, lgc_le, l64_0, l64_1, l64_3, l64_5, l64_9, l64_12, l64_16, l64_20, l64_60, l64_9999, w64_lt, w64_le, s107, s106, s110, s109, e0, e1, f0, f1, c0, c1, c2, c3, c4, c5, c6, c7, m0, m1, m6, m7]
  by_cases hu : ∃ t, t < 4 ∧ u = nI t
  case neg =>
    refine rng_bad (by omega) hu ?_
    refine hk _ _ _ (fun Km hm => ?_)
    apply en_X10_copyHolds (d := 11)
    exact rng_bad (by omega) hu (hm _ _ (INV_cm hI fr0_rfl fr0_rfl))
  obtain ⟨t, ht, rfl⟩ := hu
  have hin : vp_in (nI t) 4 := by rw [ni_in (by omega)]; exact ht
  refine rng_ok (by omega) ht ⟨hin, ?_⟩
  rw [ni_cl (by omega)]
  rcases tr_cs i5 ht with ⟨t1, t2⟩ | ⟨n, s, hL⟩
  · rw [t1]
    refine br_f (fun q => q rfl) ?_
    refine hk _ _ _ (fun Km hm => ?_)
    apply en_X10_copyHolds (d := 11)
    rw [ni_cl (by omega), s110, t2]
    exact rng_ok (by omega) ht ⟨hin, br_f (fun q => q rfl) (hm _ _ (INV_cm hI fr0_rfl fr0_rfl))⟩
  obtain ⟨l1, l2, l3, l4, l5, l6, l7, l8⟩ := id hL
  rw [l3, l4, ni_le (by omega) (by omega)]
  refine br_t (by decide) ⟨hin, fun q => ?_, fun q => ?_⟩
  · have keyC : ∀ i, i ≤ a 1 → ∀ ml', pt8 (4 + t) 0 i (fun p => cutS s (Int32.toInt64 (nI (a (16 + 4 * p))))) ml ml' → rn E 13 176 K 60 [.ref 0, .int (nI t), .int (nI i)] [] mi ml' := by
      refine dn_ind (a 1) (fun i hi ih ml' hp => ?_)
      apply rg_X9_copyHolds_60 (d := 11)
      rw [c5, ni_le (by omega) (by omega)]
      refine ⟨fun q2 => ?_, fun q2 => ⟨by rw [ni_in (by omega)]; omega, ?_⟩⟩
      · have : i = a 1 := by omega
        subst this
        refine hk _ _ _ (fun Km hm => ?_)
        have hM1 : MA a (am_si mi 0 0 (nI 0)) := MA_0 hM fr0_rfl
        have e1 : am_si mi 0 0 (nI 0) 107 1 = nI (a 1) := hM1 1 (by omega) (by omega)
        have e109 : am_si mi 0 0 (nI 0) 109 t = nI s := by rw [s109]; exact l7
        have keyM : ∀ i, i ≤ a 1 → ∀ l2, pt8 111 (60 * t) i (fun p => cutS s (Int32.toInt64 (nI (a (16 + 4 * p))))) ml' l2 → rn E 13 315 Km 52 [.ref 106, .int (nI t), .int (nI i)] [] (am_si mi 0 0 (nI 0)) l2 := by
          refine dn_ind (a 1) (fun i hi ih l2' hp2 => ?_)
          apply rg_X10_copyHolds_52 (d := 11)
          rw [e1, ni_le (by omega) (by omega), ni_mul, ni_mul, nI_add, nI_add, nI_add, ni_cl (by omega), ni_cl (by omega), e109]
          refine ⟨fun q2 => ?_, fun q2 => ⟨by rw [ni_in (by omega)]; omega, hin, ?_⟩⟩
          · have : i = a 1 := by omega
            subst this
            refine hm _ _ (INV_t hI (fun k j z => ?_) (fun k j z => ?_) ?_ (R_tr_l i5 (t := t) (fun k j z => ?_) (fun t' i ht' hne hi => ?_) (fun n' s' hL' i hi => ?_)))
            · unfold scr at z
              rw [si_f (by omega), si_f (by omega)]
            · rw [hp2.1 k j (by omega), hp.1 k j (by omega)]
            · rw [si_f (by omega), si_t ⟨rfl, rfl⟩, si_t ⟨rfl, rfl⟩]
            · rw [si_f (by omega), si_f (by omega)]
            · rw [hp2.1 _ _ (by omega), hp2.1 _ _ (by omega), hp.1 _ _ (by omega), hp.1 _ _ (by omega)]
              exact ⟨rfl, rfl⟩
            · obtain ⟨rfl, rfl⟩ := LT_n hL hL'
              by_cases e : i < a 1
              · have f1 := hp.2 i e
                rw [Nat.zero_add] at f1
                rw [hp2.1 (4 + t) i (by omega), f1, hp2.2 i e]
              · rw [hp2.1 _ _ (by omega), hp2.1 _ _ (by omega), hp.1 _ _ (by omega), hp.1 _ _ (by omega)]
                exact l8 i hi
          · have e2 : am_si mi 0 0 (nI 0) 107 (16 + 4 * i + 0) = nI (a (16 + 4 * i)) := hM1 (16 + 4 * i) (by omega) (by omega)
            rw [e2]
            apply s_cutM l2
            apply rg_X10_copyHolds_88 (d := 11)
            rw [ni_cl (by omega), nI_add]
            exact ⟨by rw [ni_in (by omega)]; omega, ih (by omega) _ (pt8_s hp2)⟩
        apply en_X10_copyHolds (d := 11)
        rw [ni_cl (by omega), s110, l5, ni_nM (by omega), e1, ni_le (a := a 1) (b := n) (by omega) (by omega)]
        exact rng_ok (by omega) ht ⟨hin, br_t (fun q => q) ⟨hin, br_t q (keyM 0 (by omega) _ pt8_0)⟩⟩
      · rw [ni_cl (by omega), show mi 15 i = nI (a (16 + 4 * i)) from (hC.2.2 i (by omega)).1]
        apply s_put ht (by omega) l2 l6
        apply rg_X9_copyHolds_90 (d := 11)
        rw [nI_add]
        have := pt8_s hp
        rw [Nat.zero_add] at this
        exact ih (by omega) _ this
    exact keyC 0 (by omega) _ pt8_0
  · refine hk _ _ _ (fun Km hm => ?_)
    apply en_X10_copyHolds (d := 11)
    rw [ni_cl (by omega), s110, l5, ni_nM (by omega), s107, m1, ni_le (a := a 1) (b := n) (by omega) (by omega)]
    exact rng_ok (by omega) ht ⟨hin, br_t (fun q => q) ⟨hin, br_f q (hm _ _ (INV_cm hI fr0_rfl fr0_rfl))⟩⟩
