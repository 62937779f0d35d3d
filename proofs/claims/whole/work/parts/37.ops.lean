/-! Calls that only ask, class and reference side by side. -/
theorem lgc_lt {x y : Int64} : (lg_cmp x y < nI 0) ↔ x < y := by
  unfold lg_cmp
  by_cases h : y < x
  · rw [if_pos h]
    rw [Int64.lt_iff_toInt_lt] at *
    exact ⟨fun z => absurd z (by decide), fun z => by omega⟩
  · rw [if_neg h]
    by_cases e : x = y
    · rw [if_pos e]
      subst e
      exact ⟨fun z => absurd z (by decide), fun z => absurd z h⟩
    · rw [if_neg e]
      rw [Int64.lt_iff_toInt_lt] at *
      rw [← Int64.toInt_inj] at e
      exact ⟨fun _ => by omega, fun _ => by decide⟩
theorem lgc_gt {x y : Int64} : (nI 0 < lg_cmp x y) ↔ y < x := by
  unfold lg_cmp
  by_cases h : y < x
  · rw [if_pos h]
    exact ⟨fun _ => h, fun _ => by decide⟩
  · rw [if_neg h]
    by_cases e : x = y
    · rw [if_pos e]
      exact ⟨fun z => absurd z (by decide), fun z => absurd z h⟩
    · rw [if_neg e]
      exact ⟨fun z => absurd z (by decide), fun z => absurd z h⟩
theorem lgc_ge {x y : Int64} : (nI 0 ≤ lg_cmp x y) ↔ y ≤ x := by
  have h1 : (nI 0 ≤ lg_cmp x y) ↔ ¬ (lg_cmp x y < nI 0) := by
    rw [Int32.le_iff_toInt_le, Int32.lt_iff_toInt_lt]; omega
  rw [h1, lgc_lt, Int64.le_iff_toInt_le, Int64.lt_iff_toInt_lt]; omega
theorem lgc_le {x y : Int64} : (lg_cmp x y ≤ nI 0) ↔ x ≤ y := by
  have h1 : (lg_cmp x y ≤ nI 0) ↔ ¬ (nI 0 < lg_cmp x y) := by
    rw [Int32.le_iff_toInt_le, Int32.lt_iff_toInt_lt]; omega
  rw [h1, lgc_gt, Int64.le_iff_toInt_le, Int64.lt_iff_toInt_lt]; omega
theorem w64_lt {x y : Int32} : (Int32.toInt64 x < Int32.toInt64 y) ↔ x < y := by
  rw [Int64.lt_iff_toInt_lt, Int32.lt_iff_toInt_lt, Int32.toInt_toInt64, Int32.toInt_toInt64]
theorem w64_le {x y : Int32} : (Int32.toInt64 x ≤ Int32.toInt64 y) ↔ x ≤ y := by
  rw [Int64.le_iff_toInt_le, Int32.le_iff_toInt_le, Int32.toInt_toInt64, Int32.toInt_toInt64]
theorem l64_0 : (0 : Int64) = Int32.toInt64 (nI 0) := by decide
theorem l64_1 : (1 : Int64) = Int32.toInt64 (nI 1) := by decide
theorem l64_3 : (3 : Int64) = Int32.toInt64 (nI 3) := by decide
theorem l64_5 : (5 : Int64) = Int32.toInt64 (nI 5) := by decide
theorem l64_9 : (9 : Int64) = Int32.toInt64 (nI 9) := by decide
theorem l64_12 : (12 : Int64) = Int32.toInt64 (nI 12) := by decide
theorem l64_16 : (16 : Int64) = Int32.toInt64 (nI 16) := by decide
theorem l64_20 : (20 : Int64) = Int32.toInt64 (nI 20) := by decide
theorem l64_60 : (60 : Int64) = Int32.toInt64 (nI 60) := by decide
theorem l64_9999 : (9999 : Int64) = Int32.toInt64 (nI 9999) := by decide
theorem rng_bad {x : Int32} {n : Nat} {A B : Prop} (hn : n < 2147483648) (hx : ¬ ∃ p, p < n ∧ x = nI p) (hA : A) : (x < nI 0 → A) ∧ (¬ x < nI 0 → ((nI n ≤ x → A) ∧ (¬ nI n ≤ x → B))) := by
  refine ⟨fun _ => hA, fun q => ⟨fun _ => hA, fun q2 => ?_⟩⟩
  obtain ⟨j, hj, rfl⟩ := ni_pos0 q
  rw [ni_le hn hj] at q2
  exact absurd ⟨j, by omega, rfl⟩ hx
theorem rng_bd2 {x : Int32} {n : Nat} {A B : Prop} (hn : n < 2147483648) (h1 : 1 ≤ n) (hx : ¬ ∃ p, p < n ∧ x = nI p) (hA : A) : (x < nI 0 → A) ∧ (¬ x < nI 0 → ((nI (n - 1) < x → A) ∧ (¬ nI (n - 1) < x → B))) := by
  refine ⟨fun _ => hA, fun q => ⟨fun _ => hA, fun q2 => ?_⟩⟩
  obtain ⟨j, hj, rfl⟩ := ni_pos0 q
  rw [ni_lt (by omega) hj] at q2
  exact absurd ⟨j, by omega, rfl⟩ hx
/-- the pair's form: whatever the class answers, the reference answers, and the relation holds behind it -/
def PR (y2 : Nat) (as2 : List Value) (E : am_E) (K : am_K) : Prop := ∀ r mi1 ml1, (∀ Km : am_K, (∀ mi2 ml2, INV mi2 ml2 → Km (some r) (S0, mi2, ml2)) → cq E 14 y2 as2 Km mi1 ml1) → K (some r) (S0, mi1, ml1)
def sc0 (k j : Nat) : Prop := k = 20 ∨ (28 ≤ k ∧ k ≤ 43) ∨ (k = 46 ∧ j < 9) ∨ (48 ≤ k ∧ k ≤ 50) ∨ (k = 51 ∧ (j = 1 ∨ 7 ≤ j)) ∨ (52 ≤ k ∧ k ≤ 54) ∨ k = 56 ∨ k = 57 ∨ (k = 106 ∧ (11 ≤ j ∧ j ≤ 15 ∨ 18 ≤ j ∧ j ≤ 20 ∨ j = 22 ∨ j = 23 ∨ j = 25 ∨ j = 28 ∨ j = 30 ∨ j = 31)) ∨ (k = 107 ∧ (1664 ≤ j ∨ 408 ≤ j ∧ j < 416)) ∨ (113 ≤ k ∧ k ≤ 120)
def fr0 (mi mi' : Nat → Nat → Int32) : Prop := ∀ k j, ¬ sc0 k j → mi' k j = mi k j
theorem fr0_rfl {mi : Nat → Nat → Int32} : fr0 mi mi := fun _ _ _ => rfl
theorem fr0_tr {mi mi' mi'' : Nat → Nat → Int32} (h : fr0 mi mi') (h2 : fr0 mi' mi'') : fr0 mi mi'' := fun k j hk => by rw [h2 k j hk, h k j hk]
theorem fr0_1 {mi mi' : Nat → Nat → Int32} (h : fr1 20 mi mi') : fr0 mi mi' := fun k j z => by unfold sc0 at z; rw [h k (by omega)]
theorem fr0_R {mi mi' : Nat → Nat → Int32} (h : frR mi mi') : fr0 mi mi' := fun k j z => by unfold sc0 at z; exact h k j (by omega)
theorem fr0_G {mi mi' : Nat → Nat → Int32} (h : frG mi mi') : fr0 mi mi' := fun k j z => by unfold sc0 at z; rw [h k (by omega)]
theorem fr0_P {mi mi' : Nat → Nat → Int32} (h : frP mi mi') : fr0 mi mi' := fun k j z => by unfold sc0 at z; exact h k j (by omega)
theorem INV_cm {mi m1 m2 : Nat → Nat → Int32} {ml : Nat → Nat → Int64} {x : Int32} (h : INV mi ml) (h1 : fr0 mi m1) (h2 : fr0 (am_si m1 0 0 x) m2) : INV (am_si m2 106 2 x) ml := by
  refine INV_q h (fun k j q => ?_) (fun k j _ => rfl) ?_
  · unfold scr at q
    rw [si_f (by omega), h2 k j (by unfold sc0; omega), si_f (by omega), h1 k j (by unfold sc0; omega)]
  · rw [si_f (by omega), si_t ⟨rfl, rfl⟩, h2 0 0 (by unfold sc0; omega), si_t ⟨rfl, rfl⟩]
theorem MA_0 {a : Nat → Nat} {mi m1 : Nat → Nat → Int32} {x : Int32} (h : MA a mi) (h1 : fr0 mi m1) : MA a (am_si m1 0 0 x) := fun k hk h8 => by
  rw [si_f (by omega), h1 107 k (by unfold sc0; omega)]; exact h k hk h8
theorem MA_f0 {a : Nat → Nat} {mi m1 : Nat → Nat → Int32} (h : MA a mi) (h1 : fr0 mi m1) : MA a m1 := fun k hk h8 => by
  rw [h1 107 k (by unfold sc0; omega)]; exact h k hk h8
theorem s107 {f : Nat → Nat → Int32} {i : Nat} {x : Int32} : am_si f 0 0 x 107 i = f 107 i := rfl
theorem s106 {f : Nat → Nat → Int32} {i : Nat} {x : Int32} : am_si f 0 0 x 106 i = f 106 i := rfl
theorem s110 {f : Nat → Nat → Int32} {i : Nat} {x : Int32} : am_si f 0 0 x 110 i = f 110 i := rfl
theorem s109 {f : Nat → Nat → Int32} {i : Nat} {x : Int32} : am_si f 0 0 x 109 i = f 109 i := rfl
theorem rng_ok {p n : Nat} {A B : Prop} (hn : n < 2147483648) (hp : p < n) (hB : B) : (nI p < nI 0 → A) ∧ (¬ nI p < nI 0 → ((nI n ≤ nI p → A) ∧ (¬ nI n ≤ nI p → B))) := by
  rw [ni_lt (by omega) (by omega), ni_le hn (by omega)]
  exact br_f (by omega) (br_f (by omega) hB)
theorem rng_ok2 {p n : Nat} {A B : Prop} (hn : n < 2147483648) (hp : p < n) (hB : B) : (nI p < nI 0 → A) ∧ (¬ nI p < nI 0 → ((nI (n - 1) < nI p → A) ∧ (¬ nI (n - 1) < nI p → B))) := by
  rw [ni_lt (by omega) (by omega), ni_lt (by omega) (by omega)]
  exact br_f (by omega) (br_f (by omega) hB)
theorem op_status {E : am_E} {K : am_K} {mi : Nat → Nat → Int32} {ml : Nat → Nat → Int64} (hI : INV mi ml) (hk : PR 184 [.ref 106] E K) : cq E 14 113 [.ref 0] K mi ml := by
  apply en_X9_status (d := 13)
  refine hk _ _ _ (fun Km hm => ?_)
  apply en_X10_status (d := 13)
  rw [← hI.1]
  exact hm _ _ hI
theorem op_top {E : am_E} {K : am_K} {mi : Nat → Nat → Int32} {ml : Nat → Nat → Int64} (hI : INV mi ml) (hk : PR 185 [.ref 106] E K) : cq E 14 114 [.ref 0] K mi ml := by
  apply en_X9_top (d := 13)
  refine hk _ _ _ (fun Km hm => ?_)
  apply en_X10_top (d := 13)
  rw [← hI.2.1.1]
  exact hm _ _ hI
theorem op_bottom {E : am_E} {K : am_K} {mi : Nat → Nat → Int32} {ml : Nat → Nat → Int64} (hI : INV mi ml) (hk : PR 186 [.ref 106] E K) : cq E 14 115 [.ref 0] K mi ml := by
  apply en_X9_bottom (d := 13)
  refine hk _ _ _ (fun Km hm => ?_)
  apply en_X10_bottom (d := 13)
  rw [← hI.2.1.2]
  exact hm _ _ hI
theorem op_fault {E : am_E} {K : am_K} {mi : Nat → Nat → Int32} {ml : Nat → Nat → Int64} (hI : INV mi ml) {x : Int32} (hk : PR 216 [.ref 106, .int x] E K) : cq E 14 128 [.ref 0, .int x] K mi ml := by
  apply en_X9_fault (d := 13)
  refine ⟨fun q => ⟨fun q2 => ?_, fun q2 => ?_⟩, fun q => ?_⟩
  · refine hk _ _ _ (fun Km hm => ?_)
    apply en_X10_fault (d := 13)
    exact br_t q (br_t q2 (hm _ _ hI))
  · refine hk _ _ _ (fun Km hm => ?_)
    apply en_X10_fault (d := 13)
    rw [← hI.2.2.1.2]
    exact br_t q (br_f q2 (hm _ _ hI))
  · refine hk _ _ _ (fun Km hm => ?_)
    apply en_X10_fault (d := 13)
    rw [← hI.2.2.1.1]
    exact br_f q (hm _ _ hI)
