/-! What holds between the class's memory and the reference's, from call to call. -/
/-- names: the class by 5 bits a letter, the reference by 8 -/
def cvn : Nat → Nat → Nat
  | 0, _ => 0
  | n + 1, c => if c = 0 then 0 else cvn n (c / 32) * 256 + (c % 32 + 96)
def NMOK (x y : Int64) : Prop := ∃ c, c < 32 ^ 8 ∧ x = lN c ∧ y = lN (cvn 8 c)
def NMS (b noff no np : Nat) (ml : Nat → Nat → Int64) : Prop := (∀ o, o < no → NMOK (ml (b + 2) o) (ml 108 (noff + o))) ∧ (∀ p, p < np → NMOK (ml (b + 7) p) (ml 108 (noff + 6 + p)))
def MS (off : Nat) (a : Nat → Nat) (mi : Nat → Nat → Int32) : Prop := ∀ k, k < 48 → k ≠ 8 → mi 107 (off + k) = nI (a k)
/-- a boat that is fit for calls -/
def WB (a : Nat → Nat) : Prop := WA a ∧ a 5 ≤ 9999 ∧ ∀ p, p < a 1 → a (16 + 4 * p + 1) ≤ a 5
def NEST (n : Nat) (w pt : Nat → Nat) : Prop := ∀ k, k < n → (w k = 17 ∨ w k = 19 → k < pt k ∧ pt k < n ∧ w (pt k) = 20 ∧ pt (pt k) = k ∧ ∀ j, k < j → j < pt k → (w j = 17 ∨ w j = 19 → pt j < pt k) ∧ (w j = 20 → k < pt j)) ∧ (w k = 20 → pt k < k ∧ (w (pt k) = 17 ∨ w (pt k) = 19) ∧ pt (pt k) = k)
def ROW (y off no np : Nat) (w pt : Nat → Nat) (mi : Nat → Nat → Int32) (k : Nat) : Prop := mi (y + 1) k = nI (w k) ∧
  (((w k = 11 ∨ w k = 16) ∧ mi 107 (off + (48 + 6 * k)) = nI (w k)) ∨
   (w k = 21 ∧ mi 107 (off + (48 + 6 * k)) = nI 20) ∨
   ((w k = 12 ∨ w k = 13) ∧ mi 107 (off + (48 + 6 * k)) = nI (w k) ∧ ∃ t, t < no ∧ mi (y + 4) k = nI t ∧ mi 107 (off + (48 + 6 * k + 1)) = nI t) ∨
   (w k = 14 ∧ mi 107 (off + (48 + 6 * k)) = nI 14 ∧ ∃ t, t < np ∧ mi (y + 4) k = nI t ∧ mi 107 (off + (48 + 6 * k + 1)) = nI t) ∨
   (w k = 15 ∧ mi 107 (off + (48 + 6 * k)) = nI 15 ∧ ∃ t v, t < np ∧ v ≤ 9 ∧ mi (y + 4) k = nI t ∧ mi 107 (off + (48 + 6 * k + 1)) = nI t ∧ mi (y + 5) k = nI v ∧ mi 107 (off + (48 + 6 * k + 2)) = nI v) ∨
   (w k = 19 ∧ mi 107 (off + (48 + 6 * k)) = nI 18 ∧ mi (y + 6) k = nI (pt k) ∧ mi 107 (off + (48 + 6 * k + 4)) = nI (pt k) ∧ ∃ v, 1 ≤ v ∧ v ≤ 99 ∧ mi (y + 5) k = nI v ∧ mi 107 (off + (48 + 6 * k + 1)) = nI v) ∨
   (w k = 20 ∧ mi 107 (off + (48 + 6 * k)) = nI 19 ∧ mi (y + 6) k = nI (pt k) ∧ mi 107 (off + (48 + 6 * k + 4)) = nI (pt k)) ∨
   (w k = 17 ∧ mi (y + 6) k = nI (pt k) ∧ mi 107 (off + (48 + 6 * k + 4)) = nI (pt k) ∧ ∃ t, mi (y + 4) k = nI t ∧ mi 107 (off + (48 + 6 * k + 1)) = nI t ∧
     ((t < np ∧ mi (y + 2) k = nI 8 ∧ mi 107 (off + (48 + 6 * k)) = nI 1709) ∨
      (t < no ∧ mi (y + 2) k = nI 18 ∧ mi 107 (off + (48 + 6 * k)) = nI 1721) ∨
      (t < np ∧ mi (y + 2) k = nI 7 ∧ mi 107 (off + (48 + 6 * k)) = nI 1708 ∧ ∃ s v, (s = 60 ∨ s = 61 ∨ s = 62) ∧ v ≤ 9 ∧ mi (y + 3) k = nI s ∧ mi 107 (off + (48 + 6 * k + 5)) = nI s ∧ mi (y + 5) k = nI v ∧ mi 107 (off + (48 + 6 * k + 2)) = nI v))))
def YR (y off no np : Nat) (mi : Nat → Nat → Int32) : Prop := (mi y 0 = nI 0 ∧ mi 107 (off + 8) = nM ∧ ∃ n, n ≤ 60 ∧ mi y 2 = nI n) ∨ (mi y 0 = nI 1 ∧ ∃ n w pt, n ≤ 60 ∧ mi y 2 = nI n ∧ mi 107 (off + 8) = nI n ∧ NEST n w pt ∧ ∀ k, k < n → ROW y off no np w pt mi k)
/-- a boat with its years: in the class at b and y, in the reference from off and noff -/
def BY (b y off noff : Nat) (a : Nat → Nat) (mi : Nat → Nat → Int32) (ml : Nat → Nat → Int64) : Prop := WB a ∧ CB b a mi ∧ MS off a mi ∧ NMS b noff (a 0) (a 1) ml ∧ YR y off (a 0) (a 1) mi
def BYc (b y off noff k j : Nat) : Prop := (b ≤ k ∧ k < b + 8) ∨ (y ≤ k ∧ k < y + 7) ∨ (k = 107 ∧ off ≤ j ∧ j < off + 408)
theorem MS_0 {a : Nat → Nat} {mi : Nat → Nat → Int32} : MS 0 a mi ↔ MA a mi := by
  unfold MS MA
  constructor
  · intro h k hk h8; rw [← h k hk h8, Nat.zero_add]
  · intro h k hk h8; rw [Nat.zero_add]; exact h k hk h8
theorem YR_fr {y off no np : Nat} {mi mi' : Nat → Nat → Int32} (h : YR y off no np mi) (hf : ∀ k j, (y ≤ k ∧ k < y + 7) ∨ (k = 107 ∧ (j = off + 8 ∨ off + 48 ≤ j ∧ j < off + 408)) → mi' k j = mi k j) : YR y off no np mi' := by
  unfold YR at *
  rw [hf y 0 (by omega), hf 107 (off + 8) (by omega), hf y 2 (by omega)]
  rcases h with h | ⟨h1, n, w, pt, h2, h3, h4, h5, h6⟩
  · exact Or.inl h
  · refine Or.inr ⟨h1, n, w, pt, h2, h3, h4, h5, fun k hk => ?_⟩
    have := h6 k hk
    unfold ROW at *
    rw [hf (y + 1) k (by omega), hf (y + 2) k (by omega), hf (y + 3) k (by omega), hf (y + 4) k (by omega), hf (y + 5) k (by omega), hf (y + 6) k (by omega), hf 107 (off + (48 + 6 * k)) (by omega), hf 107 (off + (48 + 6 * k + 1)) (by omega), hf 107 (off + (48 + 6 * k + 2)) (by omega), hf 107 (off + (48 + 6 * k + 4)) (by omega), hf 107 (off + (48 + 6 * k + 5)) (by omega)]
    exact this
theorem CB_frb {b : Nat} {a : Nat → Nat} {mi mi' : Nat → Nat → Int32} (h : CB b a mi) (hf : ∀ k j, b ≤ k ∧ k < b + 8 → mi' k j = mi k j) : CB b a mi' := by
  unfold CB at *
  simp only [hf b _ (by omega), hf (b + 1) _ (by omega), hf (b + 3) _ (by omega), hf (b + 4) _ (by omega), hf (b + 5) _ (by omega), hf (b + 6) _ (by omega)]
  exact h
theorem BY_fr {b y off noff : Nat} {a : Nat → Nat} {mi mi' : Nat → Nat → Int32} {ml ml' : Nat → Nat → Int64} (h : BY b y off noff a mi ml) (hf : ∀ k j, BYc b y off noff k j → mi' k j = mi k j) (hl : ∀ k j, (b ≤ k ∧ k < b + 8) ∨ (k = 108 ∧ noff ≤ j ∧ j < noff + 14) → ml' k j = ml k j) : BY b y off noff a mi' ml' := by
  unfold BY at *
  obtain ⟨h1, h2, h3, h4, h5⟩ := h
  have w0 := h1.1.1.1
  have w1 := h1.1.1.2.1
  refine ⟨h1, CB_frb h2 (fun k j hk => hf k j (Or.inl hk)), fun k hk h8 => ?_, ⟨fun o ho => ?_, fun p hp => ?_⟩, YR_fr h5 (fun k j hkj => hf k j ?_)⟩
  · rw [hf 107 (off + k) (by unfold BYc; omega)]; exact h3 k hk h8
  · rw [hl (b + 2) o (by omega), hl 108 (noff + o) (by omega)]; exact h4.1 o ho
  · rw [hl (b + 7) p (by omega), hl 108 (noff + 6 + p) (by omega)]; exact h4.2 p hp
  · unfold BYc; omega
def byt (x : Int32) : Int32 := Int8.toInt32 (Int32.toInt8 x)
def R_tape (mi : Nat → Nat → Int32) : Prop := ∃ tl, tl ≤ 900 ∧ mi 0 1 = nI tl ∧ mi 106 10 = nI tl ∧ ∀ i, i < tl → ∃ c, c < 256 ∧ mi 1 i = nI c ∧ mi 112 i = byt (nI c)
def R_tr (mi : Nat → Nat → Int32) (ml : Nat → Nat → Int64) : Prop := ∀ t, t < 4 → (mi 10 t = nI 0 ∧ mi 110 t = nM) ∨ (∃ n s, n ≤ 60 ∧ s < 4 ∧ mi 10 t = nI 1 ∧ mi 9 t = nI n ∧ mi 110 t = nI n ∧ mi 8 t = nI s ∧ mi 109 t = nI s ∧ ∀ i, i < n → ml (4 + t) i = ml 111 (60 * t + i))
def R_kept (mi : Nat → Nat → Int32) (ml : Nat → Nat → Int64) : Prop := ∃ m, m ≤ 3 ∧ mi 0 2 = nI m ∧ mi 106 36 = nI m ∧ ∀ j, j < m → ∃ a, BY (58 + 16 * j) (67 + 16 * j) (416 * (j + 1)) (14 * (j + 1)) a mi ml
def R_life (mi : Nat → Nat → Int32) : Prop := mi 51 0 = mi 106 35 ∧ (mi 51 0 = nI 0 ∨ (mi 51 0 = nI 1 ∧ mi 51 2 = mi 121 0 ∧ mi 51 3 = mi 121 1 ∧ mi 51 4 = mi 121 2 ∧ mi 51 5 = mi 121 3 ∧ mi 51 6 = mi 121 4 ∧ (mi 51 6 = nI 0 ∨ mi 51 6 = nI 1)))
def kwc (i : Nat) : Nat := ([17171915, 8423732, 495763, 632046, 17478035, 20201198, 542723566, 8892563, 16052, 1309981300, 2500036, 99724, 631287, 271493, 2590276, 646201, 1497, 762030, 20201203, 409072, 5572, 643568] : List Nat).getD i 0
def R_cst (ml : Nat → Nat → Int64) : Prop := ∀ i, i < 22 → ml 47 i = lN (kwc i)
def INV (mi : Nat → Nat → Int32) (ml : Nat → Nat → Int64) : Prop := mi 0 0 = mi 106 2 ∧ (ml 11 0 = ml 106 3 ∧ ml 11 1 = ml 106 4) ∧ (mi 46 9 = mi 106 16 ∧ mi 46 10 = mi 106 17) ∧ R_tape mi ∧ R_tr mi ml ∧ (∃ a, BY 12 21 0 0 a mi ml) ∧ R_kept mi ml ∧ R_life mi ∧ R_cst ml
/-- cells of which nothing is said between calls, and the two that hold the status -/
def scr (k j : Nat) : Prop := k = 20 ∨ (28 ≤ k ∧ k ≤ 43) ∨ (k = 46 ∧ j < 9) ∨ (48 ≤ k ∧ k ≤ 50) ∨ (k = 51 ∧ (j = 1 ∨ 7 ≤ j)) ∨ (52 ≤ k ∧ k ≤ 54) ∨ k = 56 ∨ k = 57 ∨ (k = 106 ∧ (11 ≤ j ∧ j ≤ 15 ∨ 18 ≤ j ∧ j ≤ 20 ∨ j = 22 ∨ j = 23 ∨ j = 25 ∨ j = 28 ∨ j = 30 ∨ j = 31)) ∨ (k = 107 ∧ (1664 ≤ j ∨ 408 ≤ j ∧ j < 416)) ∨ (113 ≤ k ∧ k ≤ 120) ∨ (k = 0 ∧ j = 0) ∨ (k = 106 ∧ j = 2)
def scl (k j : Nat) : Prop := (28 ≤ k ∧ k ≤ 36) ∨ (k = 46 ∧ j = 7) ∨ (k = 108 ∧ 56 ≤ j) ∨ k = 118
def frQ (mi mi' : Nat → Nat → Int32) : Prop := ∀ k j, ¬ scr k j → mi' k j = mi k j
def frL (ml ml' : Nat → Nat → Int64) : Prop := ∀ k j, ¬ scl k j → ml' k j = ml k j
theorem R_tape_fr {mi mi' : Nat → Nat → Int32} (h : R_tape mi) (hf : ∀ k j, (k = 0 ∧ j = 1) ∨ (k = 106 ∧ j = 10) ∨ k = 1 ∨ k = 112 → mi' k j = mi k j) : R_tape mi' := by
  unfold R_tape at *
  obtain ⟨tl, h1, h2, h3, h4⟩ := h
  refine ⟨tl, h1, by rw [hf 0 1 (by omega)]; exact h2, by rw [hf 106 10 (by omega)]; exact h3, fun i hi => ?_⟩
  rw [hf 1 i (by omega), hf 112 i (by omega)]
  exact h4 i hi
theorem R_tr_fr {mi mi' : Nat → Nat → Int32} {ml ml' : Nat → Nat → Int64} (h : R_tr mi ml) (hf : ∀ k j, (8 ≤ k ∧ k ≤ 10) ∨ k = 109 ∨ k = 110 → mi' k j = mi k j) (hl : ∀ k j, (4 ≤ k ∧ k ≤ 7) ∨ k = 111 → ml' k j = ml k j) : R_tr mi' ml' := by
  intro t ht
  have := h t ht
  rw [hf 10 t (by omega), hf 9 t (by omega), hf 8 t (by omega), hf 110 t (by omega), hf 109 t (by omega)]
  rcases this with h | ⟨n, s, h1, h2, h3, h4, h5, h6, h7, h8⟩
  · exact Or.inl h
  · refine Or.inr ⟨n, s, h1, h2, h3, h4, h5, h6, h7, fun i hi => ?_⟩
    rw [hl (4 + t) i (by omega), hl 111 _ (by omega)]
    exact h8 i hi
theorem R_kept_fr {mi mi' : Nat → Nat → Int32} {ml ml' : Nat → Nat → Int64} (h : R_kept mi ml) (hf : ∀ k j, (k = 0 ∧ j = 2) ∨ (k = 106 ∧ j = 36) ∨ (58 ≤ k ∧ k < 106) ∨ (k = 107 ∧ 416 ≤ j ∧ j < 1664) → mi' k j = mi k j) (hl : ∀ k j, (58 ≤ k ∧ k < 106) ∨ (k = 108 ∧ 14 ≤ j ∧ j < 56) → ml' k j = ml k j) : R_kept mi' ml' := by
  obtain ⟨m, h1, h2, h3, h4⟩ := h
  refine ⟨m, h1, by rw [hf 0 2 (by omega)]; exact h2, by rw [hf 106 36 (by omega)]; exact h3, fun j hj => ?_⟩
  obtain ⟨a, ha⟩ := h4 j hj
  exact ⟨a, BY_fr ha (fun k i hki => hf k i (by unfold BYc at hki; omega)) (fun k i hki => hl k i (by omega))⟩
theorem R_life_fr {mi mi' : Nat → Nat → Int32} (h : R_life mi) (hf : ∀ k j, (k = 51 ∧ (j = 0 ∨ 2 ≤ j ∧ j ≤ 6)) ∨ (k = 106 ∧ j = 35) ∨ k = 121 → mi' k j = mi k j) : R_life mi' := by
  unfold R_life at *
  rw [hf 51 0 (by omega), hf 51 2 (by omega), hf 51 3 (by omega), hf 51 4 (by omega), hf 51 5 (by omega), hf 51 6 (by omega), hf 106 35 (by omega), hf 121 0 (by omega), hf 121 1 (by omega), hf 121 2 (by omega), hf 121 3 (by omega), hf 121 4 (by omega)]
  exact h
theorem R_cst_fr {ml ml' : Nat → Nat → Int64} (h : R_cst ml) (hl : ∀ k j, k = 47 → ml' k j = ml k j) : R_cst ml' := fun i hi => by
  rw [hl 47 i rfl]; exact h i hi
/-- a call that only asks -/
theorem INV_q {mi mi' : Nat → Nat → Int32} {ml ml' : Nat → Nat → Int64} (h : INV mi ml) (hf : frQ mi mi') (hl : frL ml ml') (hs : mi' 0 0 = mi' 106 2) : INV mi' ml' := by
  obtain ⟨h1, h2, h3, h4, h5, ⟨a, h6⟩, h7, h8, h9⟩ := h
  unfold frQ scr at hf
  unfold frL scl at hl
  refine ⟨hs, ?_, ?_, R_tape_fr h4 (fun k j z => hf k j (by omega)), R_tr_fr h5 (fun k j z => hf k j (by omega)) (fun k j z => hl k j (by omega)), ⟨a, BY_fr h6 (fun k j z => hf k j (by unfold BYc at z; omega)) (fun k j z => hl k j (by omega))⟩, R_kept_fr h7 (fun k j z => hf k j (by omega)) (fun k j z => hl k j (by omega)), R_life_fr h8 (fun k j z => hf k j (by omega)), R_cst_fr h9 (fun k j z => hl k j (by omega))⟩
  · rw [hl 11 0 (by omega), hl 106 3 (by omega), hl 11 1 (by omega), hl 106 4 (by omega)]; exact h2
  · rw [hf 46 9 (by omega), hf 106 16 (by omega), hf 46 10 (by omega), hf 106 17 (by omega)]; exact h3
