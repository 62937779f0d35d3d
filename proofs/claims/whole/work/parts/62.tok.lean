/-! Tokens of a text c of n bytes, from a place on. -/
def scF (f : Nat → Bool) (n : Nat) : Nat → Nat → Nat
  | 0, p => p
  | k + 1, p => if p < n ∧ f p = true then scF f n k (p + 1) else p
def sc (f : Nat → Bool) (n p : Nat) : Nat := scF f n (n - p) p
theorem sc_stop {f : Nat → Bool} {n p : Nat} (h : ¬ (p < n ∧ f p = true)) : sc f n p = p := by
  unfold sc
  cases n - p with
  | zero => rfl
  | succ k => unfold scF; rw [if_neg h]
theorem sc_go {f : Nat → Bool} {n p : Nat} (h1 : p < n) (h2 : f p = true) : sc f n p = sc f n (p + 1) := by
  unfold sc
  rw [show n - p = n - (p + 1) + 1 by omega]
  show (if p < n ∧ f p = true then scF f n (n - (p + 1)) (p + 1) else p) = _
  rw [if_pos ⟨h1, h2⟩]
theorem sc_all {f : Nat → Bool} {n : Nat} : ∀ m p, n - p = m → p ≤ sc f n p ∧ (p ≤ n → sc f n p ≤ n) ∧ (∀ i, p ≤ i → i < sc f n p → i < n ∧ f i = true) ∧ ¬ (sc f n p < n ∧ f (sc f n p) = true) := by
  intro m
  induction m with
  | zero =>
    intro p hm
    have : ¬ (p < n ∧ f p = true) := by omega
    rw [sc_stop this]
    exact ⟨Nat.le_refl _, fun h => h, fun i h1 h2 => by omega, this⟩
  | succ m ih =>
    intro p hm
    by_cases h : p < n ∧ f p = true
    · rw [sc_go h.1 h.2]
      obtain ⟨a1, a2, a3, a4⟩ := ih (p + 1) (by omega)
      refine ⟨by omega, fun _ => a2 (by omega), fun i h1 h2 => ?_, a4⟩
      by_cases e : i = p
      · rw [e]; exact h
      · exact a3 i (by omega) h2
    · rw [sc_stop h]
      exact ⟨Nat.le_refl _, fun h => h, fun i h1 h2 => by omega, h⟩
theorem sc_ge (f : Nat → Bool) (n p : Nat) : p ≤ sc f n p := (sc_all _ p rfl).1
theorem sc_le {f : Nat → Bool} {n p : Nat} (h : p ≤ n) : sc f n p ≤ n := (sc_all _ p rfl).2.1 h
theorem sc_in {f : Nat → Bool} {n p i : Nat} (h1 : p ≤ i) (h2 : i < sc f n p) : i < n ∧ f i = true := (sc_all _ p rfl).2.2.1 i h1 h2
theorem sc_end (f : Nat → Bool) (n p : Nat) : ¬ (sc f n p < n ∧ f (sc f n p) = true) := (sc_all _ p rfl).2.2.2
def fB (c : Nat → Nat) (i : Nat) : Bool := decide (c i = 32 ∨ c i = 10)
def fL (c : Nat → Nat) (i : Nat) : Bool := decide (97 ≤ c i ∧ c i ≤ 122)
def fD (c : Nat → Nat) (i : Nat) : Bool := decide (48 ≤ c i ∧ c i ≤ 57)
/-- where the token begins, where it ends; its kind: 0 word, 1 number, 2 sign, 3 the text's end, 4 none of these -/
def tkS (c : Nat → Nat) (n p : Nat) : Nat := sc (fB c) n p
def eN (c : Nat → Nat) (n s : Nat) : Nat := if n ≤ s then s else if fL c s = true then sc (fL c) n s else if fD c s = true then sc (fD c) n s else s + 1
def tkE (c : Nat → Nat) (n p : Nat) : Nat := eN c n (tkS c n p)
def kN (c : Nat → Nat) (n s : Nat) : Nat := if n ≤ s then 3 else if fL c s = true then 0 else if fD c s = true then (if eN c n s - s ≤ 4 then 1 else 4) else if c s = 59 ∨ c s = 60 ∨ c s = 62 ∨ c s = 61 then 2 else 4
def tkK (c : Nat → Nat) (n p : Nat) : Nat := kN c n (tkS c n p)
def vN (c : Nat → Nat) (s : Nat) : Nat → Nat
  | 0 => 0
  | l + 1 => vN c s l * 10 + (c (s + l) - 48)
def tkV (c : Nat → Nat) (n p : Nat) : Nat := vN c (tkS c n p) (tkE c n p - tkS c n p)
/-- letters by 5 bits -/
def cdg (f : Nat → Nat) (a : Nat) : Nat → Nat
  | 0 => 0
  | l + 1 => cdg f a l * 32 + (f (a + l) - 96)
def tkC (c : Nat → Nat) (n p : Nat) : Nat := if tkK c n p = 0 ∧ tkE c n p - tkS c n p ≤ 8 then cdg c (tkS c n p) (tkE c n p - tkS c n p) else 0
def kwL (code : Nat) : Nat → Nat
  | 0 => 0
  | i + 1 => if code = kwc i then i + 1 else kwL code i
/-- the word's number among the words that are no names, and 1; 0 for none -/
def tkW (c : Nat → Nat) (n p : Nat) : Nat := if tkK c n p = 0 then kwL (tkC c n p) 22 else 0
def isNm (c : Nat → Nat) (n p : Nat) : Prop := tkK c n p = 0 ∧ tkW c n p = 0 ∧ ¬ tkC c n p = 0
def isSt (c : Nat → Nat) (n p : Nat) : Prop := tkK c n p = 2 ∧ c (tkS c n p) = 59
theorem kwL_le (code : Nat) : ∀ i, kwL code i ≤ i
  | 0 => Nat.le_refl _
  | i + 1 => by
    unfold kwL
    have := kwL_le code i
    split <;> omega
theorem kwc_pos : ∀ i, i < 22 → 0 < kwc i ∧ kwc i < 32 ^ 8 := by decide
theorem kwL_0 : ∀ i, i ≤ 22 → kwL 0 i = 0
  | 0, _ => rfl
  | i + 1, h => by
    unfold kwL
    have := (kwc_pos i (by omega)).1
    rw [if_neg (by omega), kwL_0 i (by omega)]
theorem kwL_eq {code i : Nat} (h : code = kwc i) : ∀ {m}, i < m → m ≤ 22 → kwL code m = i + 1
  | 0, h1, _ => absurd h1 (Nat.not_lt_zero _)
  | m + 1, h1, h2 => by
    unfold kwL
    by_cases e : i = m
    · rw [← e, if_pos h, e]
    · have hd : ∀ j, j < 22 → ∀ k, k < 22 → kwc j = kwc k → j = k := by decide
      rw [if_neg (fun z => e (hd i (by omega) m (by omega) (by rw [← h, z]))), kwL_eq h (by omega) (by omega)]
theorem kwL_inv {code j : Nat} : ∀ {m}, kwL code m = j + 1 → code = kwc j ∧ j < m
  | 0, h => by cases h
  | m + 1, h => by
    unfold kwL at h
    split at h
    · next e =>
      have : m = j := by omega
      subst this
      exact ⟨e, by omega⟩
    · have := kwL_inv h
      exact ⟨this.1, by omega⟩
theorem eN_le {c : Nat → Nat} {n s : Nat} (h : s ≤ n) : s ≤ eN c n s ∧ eN c n s ≤ n := by
  unfold eN
  split
  · omega
  · split
    · exact ⟨sc_ge _ _ _, sc_le h⟩
    · split
      · exact ⟨sc_ge _ _ _, sc_le h⟩
      · omega
theorem tkS_le {c : Nat → Nat} {n p : Nat} (h : p ≤ n) : p ≤ tkS c n p ∧ tkS c n p ≤ n := ⟨sc_ge _ _ _, sc_le h⟩
theorem tkE_le {c : Nat → Nat} {n p : Nat} (h : p ≤ n) : tkS c n p ≤ tkE c n p ∧ tkE c n p ≤ n := eN_le (tkS_le h).2
theorem tkK_le (c : Nat → Nat) (n p : Nat) : tkK c n p ≤ 4 := by
  unfold tkK kN
  split
  · omega
  · split
    · omega
    · split
      · split <;> omega
      · split <;> omega
/-- a token that is one moves on -/
theorem tkE_gt {c : Nat → Nat} {n p : Nat} (h : p ≤ n) (hk : ¬ tkK c n p = 3) : p < tkE c n p := by
  have h1 := tkS_le (c := c) h
  have hs : ¬ n ≤ tkS c n p := fun z => hk (by unfold tkK kN; rw [if_pos z])
  unfold tkE eN
  rw [if_neg hs]
  by_cases e1 : fL c (tkS c n p) = true
  · rw [if_pos e1, sc_go (by omega) e1]
    have := sc_ge (fL c) n (tkS c n p + 1)
    omega
  · rw [if_neg e1]
    by_cases e2 : fD c (tkS c n p) = true
    · rw [if_pos e2, sc_go (by omega) e2]
      have := sc_ge (fD c) n (tkS c n p + 1)
      omega
    · rw [if_neg e2]; omega
theorem tkK_word {c : Nat → Nat} {n p : Nat} (h : tkK c n p = 0) : tkS c n p < n ∧ fL c (tkS c n p) = true ∧ tkE c n p = sc (fL c) n (tkS c n p) ∧ ∀ i, tkS c n p ≤ i → i < tkE c n p → 97 ≤ c i ∧ c i ≤ 122 := by
  unfold tkK kN at h
  by_cases h1 : n ≤ tkS c n p
  · rw [if_pos h1] at h; omega
  · rw [if_neg h1] at h
    by_cases h2 : fL c (tkS c n p) = true
    · have e : tkE c n p = sc (fL c) n (tkS c n p) := by unfold tkE eN; rw [if_neg h1, if_pos h2]
      refine ⟨by omega, h2, e, fun i i1 i2 => ?_⟩
      rw [e] at i2
      have := (sc_in i1 i2).2
      exact of_decide_eq_true this
    · rw [if_neg h2] at h
      split at h
      · split at h <;> omega
      · split at h <;> omega
theorem vN_lt (c : Nat → Nat) (s : Nat) : ∀ l, (∀ t, t < l → c (s + t) ≤ 57) → vN c s l < 10 ^ l
  | 0, _ => by show (0 : Nat) < 1; omega
  | l + 1, h => by
    have h1 := vN_lt c s l (fun t ht => h t (by omega))
    have h2 := h l (by omega)
    show vN c s l * 10 + (c (s + l) - 48) < 10 ^ l * 10
    omega
theorem tkK_num {c : Nat → Nat} {n p : Nat} (h : tkK c n p = 1) : tkS c n p < n ∧ tkV c n p < 10000 ∧ tkE c n p - tkS c n p ≤ 4 := by
  unfold tkK kN at h
  by_cases h1 : n ≤ tkS c n p
  · rw [if_pos h1] at h; omega
  · rw [if_neg h1] at h
    by_cases h2 : fL c (tkS c n p) = true
    · rw [if_pos h2] at h; omega
    · rw [if_neg h2] at h
      by_cases h3 : fD c (tkS c n p) = true
      · rw [if_pos h3] at h
        have e : tkE c n p = sc (fD c) n (tkS c n p) := by unfold tkE eN; rw [if_neg h1, if_neg h2, if_pos h3]
        have h4 : tkE c n p - tkS c n p ≤ 4 := by
          split at h
          · next z => exact z
          · omega
        refine ⟨by omega, ?_, h4⟩
        have := vN_lt c (tkS c n p) (tkE c n p - tkS c n p) (fun t ht => by
          have := (sc_in (f := fD c) (n := n) (p := tkS c n p) (i := tkS c n p + t) (by omega) (by rw [← e]; omega)).2
          exact (of_decide_eq_true this).2)
        have h5 : (10 : Nat) ^ (tkE c n p - tkS c n p) ≤ 10 ^ 4 := Nat.pow_le_pow_right (by omega) h4
        unfold tkV
        omega
      · rw [if_neg h3] at h
        split at h <;> omega
/-! codes -/
theorem cdg_lt {f : Nat → Nat} {a : Nat} : ∀ l, (∀ t, t < l → f (a + t) ≤ 122) → cdg f a l < 32 ^ l
  | 0, _ => by show (0 : Nat) < 1; omega
  | l + 1, h => by
    have h1 := cdg_lt l (fun t ht => h t (by omega))
    have h2 := h l (by omega)
    show cdg f a l * 32 + (f (a + l) - 96) < 32 ^ l * 32
    omega
theorem cdg_inj {f g : Nat → Nat} {a b : Nat} : ∀ l m, (∀ t, t < l → 97 ≤ f (a + t) ∧ f (a + t) ≤ 122) → (∀ t, t < m → 97 ≤ g (b + t) ∧ g (b + t) ≤ 122) → cdg f a l = cdg g b m → l = m ∧ ∀ t, t < l → f (a + t) = g (b + t)
  | 0, 0, _, _, _ => ⟨rfl, fun _ h => absurd h (Nat.not_lt_zero _)⟩
  | 0, m + 1, _, hg, h => by
    have := hg m (by omega)
    have h' : 0 = cdg g b m * 32 + (g (b + m) - 96) := h
    omega
  | l + 1, 0, hf, _, h => by
    have := hf l (by omega)
    have h' : cdg f a l * 32 + (f (a + l) - 96) = 0 := h
    omega
  | l + 1, m + 1, hf, hg, h => by
    have h1 := hf l (by omega)
    have h2 := hg m (by omega)
    have h' : cdg f a l * 32 + (f (a + l) - 96) = cdg g b m * 32 + (g (b + m) - 96) := h
    have e1 : f (a + l) = g (b + m) := by omega
    have e2 : cdg f a l = cdg g b m := by omega
    obtain ⟨r1, r2⟩ := cdg_inj l m (fun t ht => hf t (by omega)) (fun t ht => hg t (by omega)) e2
    subst r1
    refine ⟨rfl, fun t ht => ?_⟩
    by_cases e : t = l
    · rw [e]; exact e1
    · exact r2 t (by omega)
theorem cdg_cong {f g : Nat → Nat} {a b : Nat} : ∀ l, (∀ t, t < l → f (a + t) = g (b + t)) → cdg f a l = cdg g b l
  | 0, _ => rfl
  | l + 1, h => by
    show cdg f a l * 32 + (f (a + l) - 96) = cdg g b l * 32 + (g (b + l) - 96)
    rw [cdg_cong l (fun t ht => h t (by omega)), h l (by omega)]
theorem tkC_lt (c : Nat → Nat) (n p : Nat) : tkC c n p < 32 ^ 8 := by
  unfold tkC
  split
  · next h =>
    have h1 := cdg_lt (f := c) (a := tkS c n p) (tkE c n p - tkS c n p) (fun t ht => ((tkK_word h.1).2.2.2 _ (by omega) (by omega)).2)
    have h2 : (32 : Nat) ^ (tkE c n p - tkS c n p) ≤ 32 ^ 8 := Nat.pow_le_pow_right (by omega) h.2
    omega
  · decide
/-- the same name with 8 bits a letter -/
def cm8 (f : Nat → Nat) (a : Nat) : Nat → Nat
  | 0 => 0
  | l + 1 => cm8 f a l * 256 + f (a + l)
theorem cvn_cdg {f : Nat → Nat} {a : Nat} : ∀ l k, l ≤ k → (∀ t, t < l → 97 ≤ f (a + t) ∧ f (a + t) ≤ 122) → cvn k (cdg f a l) = cm8 f a l
  | 0, 0, _, _ => rfl
  | 0, k + 1, _, _ => by
    show cvn (k + 1) 0 = 0
    unfold cvn; rw [if_pos rfl]
  | l + 1, 0, h, _ => absurd h (by omega)
  | l + 1, k + 1, h, hf => by
    have h1 := hf l (by omega)
    show cvn (k + 1) (cdg f a l * 32 + (f (a + l) - 96)) = cm8 f a l * 256 + f (a + l)
    unfold cvn
    rw [if_neg (by omega), show (cdg f a l * 32 + (f (a + l) - 96)) / 32 = cdg f a l by omega, show (cdg f a l * 32 + (f (a + l) - 96)) % 32 = f (a + l) - 96 by omega, cvn_cdg l k (by omega) (fun t ht => hf t (by omega))]
    omega
theorem cm8_lt {f : Nat → Nat} {a : Nat} : ∀ l, (∀ t, t < l → f (a + t) ≤ 122) → cm8 f a l * 2 < 256 ^ l ∨ l = 0
  | 0, _ => Or.inr rfl
  | l + 1, h => by
    have h2 := h l (by omega)
    refine Or.inl ?_
    show (cm8 f a l * 256 + f (a + l)) * 2 < 256 ^ l * 256
    rcases cm8_lt l (fun t ht => h t (by omega)) with q | q
    · omega
    · subst q
      show (0 * 256 + f (a + 0)) * 2 < 1 * 256
      omega
theorem cvn_lt : ∀ k c, 2 * cvn k c < 256 ^ k
  | 0, c => by show (2 * 0 : Nat) < 1; omega
  | k + 1, c => by
    unfold cvn
    have := cvn_lt k (c / 32)
    have e : (256 : Nat) ^ (k + 1) = 256 ^ k * 256 := rfl
    split
    · rw [e]; have := Nat.pow_pos (n := k) (show 0 < 256 by omega); omega
    · rw [e]; omega
theorem cvn_inj : ∀ k x y, x < 32 ^ k → y < 32 ^ k → cvn k x = cvn k y → x = y
  | 0, x, y, hx, hy, _ => by
    have : (32 : Nat) ^ 0 = 1 := rfl
    omega
  | k + 1, x, y, hx, hy, h => by
    have e : (32 : Nat) ^ (k + 1) = 32 ^ k * 32 := rfl
    unfold cvn at h
    by_cases x0 : x = 0
    · rw [if_pos x0] at h
      by_cases y0 : y = 0
      · omega
      · rw [if_neg y0] at h; omega
    · rw [if_neg x0] at h
      by_cases y0 : y = 0
      · rw [if_pos y0] at h; omega
      · rw [if_neg y0] at h
        have := cvn_inj k (x / 32) (y / 32) (by omega) (by omega) (by omega)
        omega
theorem cvn_8 (x : Nat) : cvn 8 x < 2 ^ 63 := by
  have := cvn_lt 8 x
  have e : (256 : Nat) ^ 8 = 18446744073709551616 := by decide
  omega
