/-! Numbers: ints as nI of a natural number, sets as natural numbers by their bits. -/
def nM : Int32 := -1
theorem ni_lit (n : Nat) : (OfNat.ofNat n : Int32) = nI n := rfl
theorem ni_m1 : (-1 : Int32) = nM := rfl
theorem ni_lt {a b : Nat} (ha : a < 2147483648) (hb : b < 2147483648) : nI a < nI b ↔ a < b := nI_ltI ha hb
theorem ni_le {a b : Nat} (ha : a < 2147483648) (hb : b < 2147483648) : nI a ≤ nI b ↔ a ≤ b := nI_leI ha hb
theorem ni_eq {a b : Nat} (ha : a < 2147483648) (hb : b < 2147483648) : nI a = nI b ↔ a = b := nI_eq ha hb
theorem ni_sub {a b : Nat} (h : b ≤ a) : nI a - nI b = nI (a - b) := by
  have : nI a = nI (a - b) + nI b := by rw [nI_add, Nat.sub_add_cancel h]
  rw [this, Int32.add_sub_cancel]
theorem ni_mul (a b : Nat) : nI a * nI b = nI (a * b) := (Int32.ofNat_mul a b).symm
theorem ni_cl {a : Nat} (h : a < 2147483648) : Int32.toNatClampNeg (nI a) = a := nI_clamp h
theorem ni_in {a N : Nat} (h : a < 2147483648) : vp_in (nI a) N ↔ a < N := by
  unfold vp_in
  rw [ni_cl h, ← nI_0, ni_lt h (by omega)]
  omega
theorem ni_and (a b : Nat) : nI a &&& nI b = nI (a &&& b) := by
  apply Int32.toBitVec_inj.1
  show BitVec.ofNat 32 a &&& BitVec.ofNat 32 b = BitVec.ofNat 32 (a &&& b)
  apply BitVec.eq_of_getLsbD_eq
  intro i hi
  simp [hi]
theorem ni_or (a b : Nat) : nI a ||| nI b = nI (a ||| b) := by
  apply Int32.toBitVec_inj.1
  show BitVec.ofNat 32 a ||| BitVec.ofNat 32 b = BitVec.ofNat 32 (a ||| b)
  apply BitVec.eq_of_getLsbD_eq
  intro i hi
  simp [hi]
theorem ni_xor (a b : Nat) : nI a ^^^ nI b = nI (a ^^^ b) := by
  apply Int32.toBitVec_inj.1
  show BitVec.ofNat 32 a ^^^ BitVec.ofNat 32 b = BitVec.ofNat 32 (a ^^^ b)
  apply BitVec.eq_of_getLsbD_eq
  intro i hi
  simp [hi]
/-- a without b -/
def ndif (a b : Nat) : Nat := a ^^^ (a &&& b)
theorem tb_dif (a b i : Nat) : (ndif a b).testBit i = (a.testBit i && !b.testBit i) := by
  unfold ndif
  rw [Nat.testBit_xor, Nat.testBit_and]
  cases a.testBit i <;> cases b.testBit i <;> rfl
theorem ni_dif (a b : Nat) : nI a &&& (nI b ^^^ nM) = nI (ndif a b) := by
  apply Int32.toBitVec_inj.1
  show BitVec.ofNat 32 a &&& (BitVec.ofNat 32 b ^^^ BitVec.allOnes 32) = BitVec.ofNat 32 (ndif a b)
  apply BitVec.eq_of_getLsbD_eq
  intro i hi
  rw [BitVec.getLsbD_and, BitVec.getLsbD_xor, BitVec.getLsbD_allOnes, BitVec.getLsbD_ofNat, BitVec.getLsbD_ofNat, BitVec.getLsbD_ofNat, tb_dif]
  simp [hi]
/-- a shift's count -/
def ms (x : Int32) : Int32 := x &&& nI 31
theorem ni_sh31 {k : Nat} (h : k < 32) : ((nI k &&& nI 31).toBitVec.smod 32).toNat = k :=
  (show ∀ k, k < 32 → ((nI k &&& nI 31).toBitVec.smod 32).toNat = k by decide +kernel) k h
theorem ni_shl {a k : Nat} (hk : k < 32) : nI a <<< ms (nI k) = nI (a <<< k) := by
  unfold ms
  apply Int32.toBitVec_inj.1
  rw [Int32.toBitVec_shiftLeft]
  show BitVec.ofNat 32 a <<< ((nI k &&& nI 31).toBitVec.smod 32) = BitVec.ofNat 32 (a <<< k)
  rw [BitVec.shiftLeft_eq', ni_sh31 hk]
  apply BitVec.eq_of_getLsbD_eq
  intro i hi
  rw [BitVec.getLsbD_shiftLeft, BitVec.getLsbD_ofNat, BitVec.getLsbD_ofNat, Nat.testBit_shiftLeft]
  by_cases h : k ≤ i
  · have : i - k < 32 := by omega
    simp [h, this, hi]
  · simp [h, hi, show i < k by omega]
theorem ni_shr {a k : Nat} (ha : a < 2147483648) (hk : k < 32) : nI a >>> ms (nI k) = nI (a >>> k) := by
  unfold ms
  apply Int32.toBitVec_inj.1
  rw [Int32.toBitVec_shiftRight]
  show (BitVec.ofNat 32 a).sshiftRight' ((nI k &&& nI 31).toBitVec.smod 32) = BitVec.ofNat 32 (a >>> k)
  rw [BitVec.sshiftRight_eq', ni_sh31 hk]
  apply BitVec.eq_of_getLsbD_eq
  intro i hi
  have hm : (BitVec.ofNat 32 a).msb = false := by
    rw [BitVec.msb_eq_false_iff_two_mul_lt]
    simp
    omega
  rw [BitVec.getLsbD_sshiftRight, hm, BitVec.getLsbD_ofNat, BitVec.getLsbD_ofNat, Nat.testBit_shiftRight]
  by_cases h : k + i < 32
  · simp [h, hi, show ¬ 32 ≤ i by omega]
  · have : a < 2 ^ (k + i) := Nat.lt_of_lt_of_le (show a < 2 ^ 31 by omega) (Nat.pow_le_pow_right (by omega) (by omega))
    simp [h, Nat.testBit_lt_two_pow this]
def b01 (b : Bool) : Nat := if b then 1 else 0
theorem ni_bit {a k : Nat} (ha : a < 2147483648) (hk : k < 32) : (nI a >>> ms (nI k)) &&& nI 1 = nI (b01 (a.testBit k)) := by
  rw [ni_shr ha hk, ni_and]
  congr 1
  unfold b01
  rw [Nat.testBit_eq_decide_div_mod_eq, Nat.shiftRight_eq_div_pow, Nat.and_one_is_mod]
  have := Nat.mod_two_eq_zero_or_one (a / 2 ^ k)
  rcases this with h | h <;> simp [h]
theorem b01_lt (b : Bool) : b01 b < 2 := by cases b <;> decide
theorem b01_0 (b : Bool) : b01 b = 0 ↔ b = false := by cases b <;> decide
theorem b01_1 (b : Bool) : b01 b = 1 ↔ b = true := by cases b <;> decide
theorem ni_b0 (b : Bool) : nI (b01 b) = nI 0 ↔ b = false := by cases b <;> decide
theorem ni_b1 (b : Bool) : nI (b01 b) = nI 1 ↔ b = true := by cases b <;> decide
theorem ni_nM {a : Nat} (h : a < 2147483648) : (nI a = nM) ↔ False := by
  constructor
  · intro q
    have : (nI a).toInt = (nM).toInt := by rw [q]
    rw [nI_toInt h] at this
    have e : nM.toInt = -1 := by decide
    omega
  · exact False.elim
theorem nM_ni {a : Nat} (h : a < 2147483648) : (nM = nI a) ↔ False := by
  rw [← ni_nM h]; exact eq_comm
theorem nM_lt {a : Nat} (h : a < 2147483648) : (nM < nI a) ↔ True := by
  rw [Int32.lt_iff_toInt_lt, nI_toInt h, show nM.toInt = -1 by decide]
  exact ⟨fun _ => trivial, fun _ => by omega⟩
theorem lt_nM {a : Nat} (h : a < 2147483648) : (nI a < nM) ↔ False := by
  rw [Int32.lt_iff_toInt_lt, nI_toInt h, show nM.toInt = -1 by decide]
  exact ⟨fun _ => by omega, False.elim⟩
theorem nM_le {a : Nat} (h : a < 2147483648) : (nM ≤ nI a) ↔ True := by
  rw [Int32.le_iff_toInt_le, nI_toInt h, show nM.toInt = -1 by decide]
  exact ⟨fun _ => trivial, fun _ => by omega⟩
theorem le_nM {a : Nat} (h : a < 2147483648) : (nI a ≤ nM) ↔ False := by
  rw [Int32.le_iff_toInt_le, nI_toInt h, show nM.toInt = -1 by decide]
  exact ⟨fun _ => by omega, False.elim⟩
theorem nM_1 : nM + nI 1 = nI 0 := by decide
/-- in range, or not -/
theorem ni_rng (x : Int32) {n : Nat} (hn : n < 2147483648) : (∃ p, p < n ∧ x = nI p) ∨ (x < nI 0 ∨ (¬ x < nI 0 ∧ nI n ≤ x)) := by
  by_cases h : x < nI 0
  · exact Or.inr (Or.inl h)
  · obtain ⟨j, hj, rfl⟩ := nI_of h
    by_cases h2 : j < n
    · exact Or.inl ⟨j, h2, rfl⟩
    · exact Or.inr (Or.inr ⟨h, (ni_le hn hj).mpr (by omega)⟩)
theorem ni_lt0 {a : Nat} (ha : a < 2147483648) : nI a < nI 0 ↔ False := by rw [ni_lt ha (by omega)]; exact ⟨fun q => by omega, False.elim⟩
theorem ni_pos0 {x : Int32} (h : ¬ x < nI 0) : ∃ j, j < 2147483648 ∧ x = nI j := nI_of h
/-- sums and sets by a count -/
def nsum (f : Nat → Nat) : Nat → Nat
  | 0 => 0
  | n + 1 => nsum f n + f n
def bset (f : Nat → Bool) : Nat → Nat
  | 0 => 0
  | n + 1 => if f n then bset f n ||| 1 <<< n else bset f n
theorem nsum_cong {f g : Nat → Nat} : ∀ {n : Nat}, (∀ k, k < n → f k = g k) → nsum f n = nsum g n
  | 0, _ => rfl
  | n + 1, h => by unfold nsum; rw [nsum_cong (fun k hk => h k (by omega)), h n (by omega)]
theorem nsum_le {f g : Nat → Nat} : ∀ {n : Nat}, (∀ k, k < n → f k ≤ g k) → nsum f n ≤ nsum g n
  | 0, _ => Nat.le_refl _
  | n + 1, h => by
    unfold nsum
    have h1 := nsum_le (fun k hk => h k (by omega : k < n + 1)) (n := n)
    have h2 := h n (by omega)
    omega
theorem nsum_lt {f g : Nat → Nat} : ∀ {n : Nat}, (∀ k, k < n → f k ≤ g k) → (∃ k, k < n ∧ f k < g k) → nsum f n < nsum g n
  | 0, _, ⟨k, h, _⟩ => absurd h (Nat.not_lt_zero _)
  | n + 1, h, ⟨k, hk, hl⟩ => by
    unfold nsum
    have h1 := nsum_le (fun k hk => h k (by omega : k < n + 1)) (n := n)
    have h2 := h n (by omega)
    rcases Nat.lt_or_ge k n with z | z
    · have := nsum_lt (fun k hk => h k (by omega : k < n + 1)) ⟨k, z, hl⟩
      omega
    · have : k = n := by omega
      subst this
      omega
theorem nsum_bd {f : Nat → Nat} {B : Nat} : ∀ {n : Nat}, (∀ k, k < n → f k ≤ B) → nsum f n ≤ n * B
  | 0, _ => by simp [nsum]
  | n + 1, h => by
    unfold nsum
    have h1 := nsum_bd (fun k hk => h k (by omega : k < n + 1)) (n := n)
    have h2 := h n (by omega)
    rw [Nat.succ_mul]
    omega
theorem tb_1shl (n i : Nat) : (1 <<< n).testBit i = decide (i = n) := by
  rw [Nat.one_shiftLeft, Nat.testBit_two_pow]
  by_cases h : n = i <;> simp [h, eq_comm]
theorem tb_bset (f : Nat → Bool) (i : Nat) : ∀ n, (bset f n).testBit i = (decide (i < n) && f i)
  | 0 => by simp [bset]
  | n + 1 => by
    unfold bset
    by_cases h : f n
    · rw [if_pos h, Nat.testBit_or, tb_bset f i n, tb_1shl]
      by_cases e : i = n
      · subst e; simp [h]
      · have : decide (i < n + 1) = decide (i < n) := by
          apply decide_eq_decide.mpr; omega
        simp [e, this]
    · rw [if_neg h, tb_bset f i n]
      by_cases e : i = n
      · subst e; simp [h]
      · have : decide (i < n + 1) = decide (i < n) := by
          apply decide_eq_decide.mpr; omega
        simp [this]
theorem bset_lt (f : Nat → Bool) (n : Nat) : bset f n < 2 ^ n := by
  apply Nat.lt_pow_two_of_testBit
  intro i hi
  rw [tb_bset, show decide (i < n) = false from decide_eq_false (by omega)]
  rfl
theorem bset_cong {f g : Nat → Bool} {n : Nat} (h : ∀ k, k < n → f k = g k) : bset f n = bset g n := by
  apply Nat.eq_of_testBit_eq
  intro i
  rw [tb_bset, tb_bset]
  by_cases e : i < n
  · rw [h i e]
  · simp [e]
theorem bset_of {s n : Nat} (h : s < 2 ^ n) : bset s.testBit n = s := by
  apply Nat.eq_of_testBit_eq
  intro i
  rw [tb_bset]
  by_cases e : i < n
  · simp [e]
  · have : s < 2 ^ i := Nat.lt_of_lt_of_le h (Nat.pow_le_pow_right (by omega) (by omega))
    simp [e, Nat.testBit_lt_two_pow this]
theorem tb_hi {s n i : Nat} (h : s < 2 ^ n) (hi : n ≤ i) : s.testBit i = false :=
  Nat.testBit_lt_two_pow (Nat.lt_of_lt_of_le h (Nat.pow_le_pow_right (by omega) hi))
/-- how many bits, of the first ten -/
def pc (s : Nat) : Nat := nsum (fun i => b01 (s.testBit i)) 10
theorem pc_le (s : Nat) : pc s ≤ 10 := by
  have := nsum_bd (f := fun i => b01 (s.testBit i)) (B := 1) (n := 10) (fun k _ => by have := b01_lt (s.testBit k); omega)
  exact this
theorem pc_cnt {s n : Nat} (h : s < 2 ^ n) (hn : n ≤ 10) : pc s = nsum (fun i => b01 (s.testBit i)) n := by
  unfold pc
  have : ∀ m, n ≤ m → nsum (fun i => b01 (s.testBit i)) m = nsum (fun i => b01 (s.testBit i)) n := by
    intro m hm
    induction m with
    | zero => have : n = 0 := by omega
              subst this; rfl
    | succ m ih =>
      rcases Nat.lt_or_ge m n with z | z
      · have : n = m + 1 := by omega
        rw [this]
      · show nsum _ m + b01 (s.testBit m) = _
        rw [ih z, tb_hi h z]
        rfl
  exact this 10 hn
theorem pc_bset (f : Nat → Bool) {n : Nat} (hn : n ≤ 10) : pc (bset f n) = nsum (fun i => b01 (f i)) n := by
  rw [pc_cnt (bset_lt f n) hn]
  apply nsum_cong
  intro k hk
  rw [tb_bset]
  simp [hk]
theorem pc_sub {s t : Nat} (h : ∀ i, s.testBit i = true → t.testBit i = true) : pc s ≤ pc t := by
  apply nsum_le
  intro k _
  have := h k
  cases h1 : s.testBit k
  · exact Nat.zero_le _
  · rw [this h1]; exact Nat.le_refl _
theorem pc_ssub {s t : Nat} (h : ∀ i, s.testBit i = true → t.testBit i = true) (hs : s < 1024) (ht : t < 1024) (hn : ¬ s = t) : pc s < pc t := by
  apply nsum_lt
  · intro k _
    have := h k
    cases h1 : s.testBit k
    · exact Nat.zero_le _
    · rw [this h1]; exact Nat.le_refl _
  · apply Classical.byContradiction
    intro q
    apply hn
    apply Nat.eq_of_testBit_eq
    intro i
    rcases Nat.lt_or_ge i 10 with z | z
    · cases h1 : s.testBit i <;> cases h2 : t.testBit i <;> try rfl
      · exact absurd ⟨i, z, by rw [h1, h2]; decide⟩ q
      · rw [h i h1] at h2; cases h2
    · rw [tb_hi (n := 10) hs z, tb_hi (n := 10) ht z]
/-- going down from n -/
theorem dn_ind {P : Nat → Prop} (n : Nat) (h : ∀ i, i ≤ n → (i < n → P (i + 1)) → P i) : ∀ i, i ≤ n → P i := by
  intro i hi
  have : ∀ k i, i + k = n → P i := by
    intro k
    induction k with
    | zero => intro i e; exact h i (by omega) (fun q => by omega)
    | succ k ih => intro i e; exact h i (by omega) (fun _ => ih (i + 1) (by omega))
  exact this (n - i) i (by omega)
theorem nI_subsub (h s q : Nat) : nI h - nI s - nI q = nI h - nI (s + q) := by
  rw [← nI_add, Int32.sub_eq_add_neg, Int32.sub_eq_add_neg, Int32.sub_eq_add_neg, Int32.neg_add, Int32.add_assoc, Int32.sub_eq_add_neg]
theorem ni_subI {h s : Nat} (hh : h < 1073741824) (hs : s < 1073741824) : (nI h - nI s).toInt = (h : Int) - s := by
  rcases Nat.lt_or_ge h s with z | z
  · have : nI h - nI s = - nI (s - h) := by
      rw [← ni_sub (Nat.le_of_lt z), Int32.neg_sub]
    rw [this, Int32.toInt_neg, nI_toInt (by omega)]
    rw [Int.bmod_eq_of_le (by omega) (by omega)]
    omega
  · rw [ni_sub z, nI_toInt (by omega)]
    omega
theorem ni_gt0 {h s : Nat} (hh : h < 1073741824) (hs : s < 1073741824) : (nI 0 < nI h - nI s) ↔ s < h := by
  rw [Int32.lt_iff_toInt_lt, ni_subI hh hs, nI_toInt (by omega)]
  omega
theorem ni_le0 {h s : Nat} (hh : h < 1073741824) (hs : s < 1073741824) : (nI h - nI s ≤ nI 0) ↔ h ≤ s := by
  rw [Int32.le_iff_toInt_le, ni_subI hh hs, nI_toInt (by omega)]
  omega
theorem dif_lt {a b n : Nat} (h : a < 2 ^ n) : ndif a b < 2 ^ n := by
  apply Nat.lt_pow_two_of_testBit
  intro i hi
  rw [tb_dif, tb_hi h hi]
  rfl
theorem p2_le {n k : Nat} (h : n ≤ k) : 2 ^ n ≤ 2 ^ k := Nat.pow_le_pow_right (by omega) h
theorem tb_all (n i : Nat) : (2 ^ n - 1).testBit i = decide (i < n) := Nat.testBit_two_pow_sub_one n i
theorem ni_all {n : Nat} (h : n < 31) : nI (1 <<< n) - nI 1 = nI (2 ^ n - 1) := by
  rw [ni_sub (by rw [Nat.one_shiftLeft]; exact Nat.one_le_two_pow), Nat.one_shiftLeft]
theorem bset_if (f : Nat → Bool) (n : Nat) : bset f (n + 1) = bset f n ||| (if f n then 1 <<< n else 0) := by
  show (if f n then bset f n ||| 1 <<< n else bset f n) = _
  split
  · rfl
  · rw [Nat.or_zero]
def itr (f : Nat → Nat) : Nat → Nat → Nat
  | 0, x => x
  | n + 1, x => itr f n (f x)
theorem itr_fix {f : Nat → Nat} {x : Nat} (h : f x = x) : ∀ n, itr f n x = x
  | 0 => rfl
  | n + 1 => by unfold itr; rw [h, itr_fix h n]
theorem itr_succ (f : Nat → Nat) : ∀ n x, itr f (n + 1) x = f (itr f n x)
  | 0, _ => rfl
  | n + 1, x => by show itr f (n + 1) (f x) = _; rw [itr_succ f n (f x)]; rfl
theorem si_t {f : Nat → Nat → Int32} {k j a i : Nat} {x : Int32} (h : a = k ∧ i = j) : am_si f k j x a i = x := by
  unfold am_si; rw [if_pos h.1, if_pos h.2]
theorem si_f {f : Nat → Nat → Int32} {k j a i : Nat} {x : Int32} (h : ¬ (a = k ∧ i = j)) : am_si f k j x a i = f a i := by
  unfold am_si
  split
  · split
    · next h1 h2 => exact absurd ⟨h1, h2⟩ h
    · rfl
  · rfl
theorem sj_t {f : Nat → Nat → Int64} {k j a i : Nat} {x : Int64} (h : a = k ∧ i = j) : am_sj f k j x a i = x := by
  unfold am_sj; rw [if_pos h.1, if_pos h.2]
theorem sj_f {f : Nat → Nat → Int64} {k j a i : Nat} {x : Int64} (h : ¬ (a = k ∧ i = j)) : am_sj f k j x a i = f a i := by
  unfold am_sj
  split
  · split
    · next h1 h2 => exact absurd ⟨h1, h2⟩ h
    · rfl
  · rfl
theorem sc_t {α : Type} {f : Nat → Nat → α} {k a i : Nat} {g : Nat → α} (h : a = k) : am_sc f k g a i = g i := by
  unfold am_sc; rw [if_pos h]
theorem sc_f {α : Type} {f : Nat → Nat → α} {k a i : Nat} {g : Nat → α} (h : ¬ a = k) : am_sc f k g a i = f a i := by
  unfold am_sc; rw [if_neg h]
