/-! The law's start: both objects are made; what holds then; the law's meaning for every script. -/
def rfL : List (Nat × Nat × Nat) → Nat → Nat → Option Nat
  | [] => rf0
  | e :: l => rfS (rfL l) e.1 e.2.1 e.2.2
def rl10 : List (Nat × Nat × Nat) := [(106, 34, 121), (106, 33, 120), (106, 32, 119), (106, 29, 118), (106, 27, 117), (106, 26, 116), (106, 24, 115), (106, 21, 114), (106, 9, 113), (106, 8, 112), (106, 7, 111), (106, 6, 110), (106, 5, 109), (106, 1, 108), (106, 0, 107), (45, 2, 99), (99, 8, 105), (99, 7, 104), (99, 6, 103), (99, 5, 102), (99, 4, 101), (99, 3, 100), (44, 2, 90), (90, 15, 98), (90, 14, 97), (90, 13, 96), (90, 12, 95), (90, 11, 94), (90, 10, 93), (90, 9, 92), (90, 8, 91), (45, 1, 83), (83, 8, 89), (83, 7, 88), (83, 6, 87), (83, 5, 86), (83, 4, 85), (83, 3, 84), (44, 1, 74), (74, 15, 82), (74, 14, 81), (74, 13, 80), (74, 12, 79), (74, 11, 78), (74, 10, 77), (74, 9, 76), (74, 8, 75), (45, 0, 67), (67, 8, 73), (67, 7, 72), (67, 6, 71), (67, 5, 70), (67, 4, 69), (67, 3, 68), (44, 0, 58), (58, 15, 66), (58, 14, 65), (58, 13, 64), (58, 12, 63), (58, 11, 62), (58, 10, 61), (58, 9, 60), (58, 8, 59), (0, 17, 55), (55, 0, 12), (55, 2, 57), (55, 1, 56), (0, 16, 53), (53, 8, 54), (0, 15, 51), (51, 8, 52), (0, 14, 49), (49, 2, 12), (49, 1, 37), (49, 0, 46), (49, 3, 50), (0, 13, 48), (48, 1, 28), (48, 0, 46), (0, 12, 46), (46, 0, 1), (46, 1, 47), (0, 11, 45), (0, 10, 44), (0, 9, 37), (37, 8, 43), (37, 7, 42), (37, 6, 41), (37, 5, 40), (37, 4, 39), (37, 3, 38), (0, 8, 28), (28, 15, 36), (28, 14, 35), (28, 13, 34), (28, 12, 33), (28, 11, 32), (28, 10, 31), (28, 9, 30), (28, 8, 29), (0, 7, 21), (21, 8, 27), (21, 7, 26), (21, 6, 25), (21, 5, 24), (21, 4, 23), (21, 3, 22), (0, 6, 12), (12, 15, 20), (12, 14, 19), (12, 13, 18), (12, 12, 17), (12, 11, 16), (12, 10, 15), (12, 9, 14), (12, 8, 13), (0, 5, 11), (0, 4, 2), (2, 3, 10), (2, 2, 9), (2, 1, 8), (2, 0, 3), (3, 3, 7), (3, 2, 6), (3, 1, 5), (3, 0, 4), (0, 3, 1)]
theorem rfM_4 {f : Nat → Nat → Option Nat} (h : ∀ i, f 3 i = none) : rfM f 3 4 = rfS (rfS (rfS (rfS f 3 0 4) 3 1 5) 3 2 6) 3 3 7 := by
  funext x i
  unfold rfM rfS
  by_cases hx : x = 3
  · subst hx
    rw [if_pos rfl, if_pos rfl, if_pos rfl, if_pos rfl, if_pos rfl]
    by_cases i3 : i = 3
    · subst i3; rfl
    · rw [if_neg i3]
      by_cases i2 : i = 2
      · subst i2; rfl
      · rw [if_neg i2]
        by_cases i1 : i = 1
        · subst i1; rfl
        · rw [if_neg i1]
          by_cases i0 : i = 0
          · subst i0; rfl
          · rw [if_neg i0, if_neg (by omega)]; exact (h i).symm
  · rw [if_neg hx, if_neg hx, if_neg hx, if_neg hx, if_neg hx]
theorem rfL_mem {a j b : Nat} : ∀ {l : List (Nat × Nat × Nat)}, rfL l a j = some b → ∃ e ∈ l, e.1 = a ∧ e.2.1 = j
  | [], h => by cases h
  | e :: l, h => by
    have h' : (if a = e.1 then (if j = e.2.1 then some e.2.2 else rfL l a j) else rfL l a j) = some b := h
    by_cases ha : a = e.1
    · by_cases hj : j = e.2.1
      · exact ⟨e, List.mem_cons_self, ha.symm, hj.symm⟩
      · rw [if_pos ha, if_neg hj] at h'
        obtain ⟨e', h1, h2⟩ := rfL_mem h'
        exact ⟨e', List.mem_cons_of_mem _ h1, h2⟩
    · rw [if_neg ha] at h'
      obtain ⟨e', h1, h2⟩ := rfL_mem h'
      exact ⟨e', List.mem_cons_of_mem _ h1, h2⟩
theorem rf_eq {l : List (Nat × Nat × Nat)} (h1 : l.all (fun e => decide (rfL l e.1 e.2.1 = tb_ref e.1 e.2.1)) = true) (h2 : tb_rf.all (fun e => e.2.all (fun g => (rfL l e.1 g.1).isSome)) = true) : rfL l = tb_ref := by
  funext a j
  cases ha : rfL l a j with
  | some b =>
    obtain ⟨e, he, rfl, rfl⟩ := rfL_mem ha
    have := of_decide_eq_true (List.all_eq_true.mp h1 e he)
    rw [← this, ha]
  | none =>
    cases hb : tb_ref a j with
    | none => rfl
    | some b =>
      unfold tb_ref at hb
      split at hb
      · next lst hl =>
        have m1 := am_look_mem hl
        have m2 := am_look_mem hb
        have := List.all_eq_true.mp (List.all_eq_true.mp h2 _ m1) _ m2
        dsimp only at this
        rw [ha] at this
        cases this
      · cases hb
set_option maxRecDepth 100000 in
theorem F_ok : F10 F9 = tb_ref := by
  have e : F10 F9 = rfL rl10 := by
    unfold F10 F9
    rw [rfM_4 (fun i => rfl)]
    rfl
  rw [e]
  exact rf_eq (by decide +kernel) (by decide +kernel)
theorem s_plain0 {E : am_E} {d : Nat} {K : am_K} {mi : Nat → Nat → Int32} {ml : Nat → Nat → Int64} (hk : ∀ mi', (∀ k j, ¬ (k = 107 ∧ j < 416) → mi' k j = mi k j) → MS 0 pl0 mi' → mi' 107 8 = nM → K none (S0, mi', ml)) : cq E (d + 1) 183 [.ref 106, .int (nI 0)] K mi ml := by
  have key : ∀ i, i ≤ 416 → ∀ m, (∀ k j, ¬ (k = 107 ∧ j < 416) → m k j = mi k j) → (∀ j, j < i → m 107 j = nI 0) → rn E d 183 K 2 [.ref 106, .int (nI 0), .int (nI i)] [] m ml := by
    refine dn_ind 416 (fun i hi ih m f h1 => ?_)
    apply rg_X10_plain_2
    simp (disch := omega) only [nI_add, ni_cl, ni_in, ni_le]
    refine ⟨fun q => ⟨by omega, by omega, by omega, by omega, hk _ (fun k j z => ?_) (fun k hk h8 => ?_) ?_⟩, fun q => ⟨by omega, ih (by omega) _ (fun k j z => by rw [si_f (by omega)]; exact f k j z) (fun j hj => ?_)⟩⟩
    · rw [si_f (by omega), si_f (by omega), si_f (by omega), si_f (by omega)]; exact f k j z
    · rw [si_f (by omega)]
      unfold pl0
      by_cases k4 : k = 4
      · rw [si_t ⟨rfl, by omega⟩, if_neg (by omega), if_neg (by omega), if_pos k4]
      · rw [si_f (by omega)]
        by_cases k3 : k = 3
        · rw [si_t ⟨rfl, by omega⟩, if_neg (by omega), if_pos k3]
        · rw [si_f (by omega)]
          by_cases k2 : k = 2
          · rw [si_t ⟨rfl, by omega⟩, if_pos k2]
          · rw [si_f (by omega), if_neg k2, if_neg k3, if_neg k4, Nat.zero_add]
            exact h1 k (by omega)
    · rw [si_t ⟨rfl, rfl⟩]
    · by_cases e : j = i
      · rw [si_t ⟨rfl, by omega⟩]
      · rw [si_f (by omega)]; exact h1 j (by omega)
  apply en_X10_plain
  exact key 0 (by omega) mi (fun _ _ _ => rfl) (fun j hj => absurd hj (Nat.not_lt_zero _))
/-- what holds when both are made -/
theorem INV_0 {mi : Nat → Nat → Int32} {ml5 : Nat → Nat → Int64} (f1 : ∀ k j, ¬ (k = 107 ∧ j < 416) → mi k j = M10 M9 k j) (hMS : MS 0 pl0 mi) (h8 : mi 107 8 = nM) (p1 : ∀ i, i < 22 → ml5 47 i = lN (kwc i)) (p2 : ∀ k j, k ≠ 47 → ml5 k j = L9a k j) : INV mi (L10 (L9 ml5)) := by
  have F : ∀ k j, ¬ (k = 107 ∧ j < 416) → ∀ v, M10 M9 k j = v → mi k j = v := fun k j z v h => by rw [f1 k j z]; exact h
  have G : ∀ k j, k ≠ 47 → ¬ (k = 106 ∧ j = 4) → L10 (L9 ml5) k j = L9a k j := fun k j z1 z2 => by
    show am_sj ml5 106 4 1 k j = _
    rw [sj_f z2]; exact p2 k j z1
  have h0 : ∀ o, ¬ o < pl0 0 := fun o z => absurd z (Nat.not_lt_zero _)
  have h1 : ∀ o, ¬ o < pl0 1 := fun o z => absurd z (Nat.not_lt_zero _)
  refine ⟨?_, ⟨?_, ?_⟩, ⟨?_, ?_⟩, ⟨0, by omega, F 0 1 (by omega) _ rfl, F 106 10 (by omega) _ rfl, fun i hi => absurd hi (Nat.not_lt_zero _)⟩, fun t ht => Or.inl ?_, ⟨pl0, WFb_00.1, ⟨⟨F 12 0 (by omega) _ rfl, F 12 1 (by omega) _ rfl, F 12 2 (by omega) _ rfl, F 12 3 (by omega) _ rfl, F 12 4 (by omega) _ rfl, F 12 5 (by omega) _ rfl, F 12 6 (by omega) _ rfl, F 12 7 (by omega) _ rfl⟩, fun o ho => absurd ho (h0 o), fun o ho => absurd ho (h1 o)⟩, hMS, ⟨fun o ho => absurd ho (h0 o), fun o ho => absurd ho (h1 o)⟩, Or.inl ⟨F 21 0 (by omega) _ rfl, by rw [Nat.zero_add]; exact h8, 0, by omega, F 21 2 (by omega) _ rfl⟩⟩, ⟨0, by omega, F 0 2 (by omega) _ rfl, F 106 36 (by omega) _ rfl, fun j hj => absurd hj (Nat.not_lt_zero _)⟩, ⟨?_, Or.inl (F 51 0 (by omega) _ rfl)⟩, fun i hi => ?_⟩
  · rw [F 0 0 (by omega) _ rfl, F 106 2 (by omega) _ rfl]; rfl
  · rw [G 11 0 (by omega) (by omega), G 106 3 (by omega) (by omega)]; rfl
  · rw [G 11 1 (by omega) (by omega)]
    show _ = am_sj ml5 106 4 1 106 4
    rw [sj_t ⟨rfl, rfl⟩]; rfl
  · rw [F 46 9 (by omega) _ rfl, F 106 16 (by omega) _ rfl]; rfl
  · rw [F 46 10 (by omega) _ rfl, F 106 17 (by omega) _ rfl]; rfl
  · have : t = 0 ∨ t = 1 ∨ t = 2 ∨ t = 3 := by omega
    rcases this with rfl | rfl | rfl | rfl
    · exact ⟨F 10 0 (by omega) _ rfl, F 110 0 (by omega) _ rfl⟩
    · exact ⟨F 10 1 (by omega) _ rfl, F 110 1 (by omega) _ rfl⟩
    · exact ⟨F 10 2 (by omega) _ rfl, F 110 2 (by omega) _ rfl⟩
    · exact ⟨F 10 3 (by omega) _ rfl, F 110 3 (by omega) _ rfl⟩
  · rw [F 51 0 (by omega) _ rfl, F 106 35 (by omega) _ rfl]; rfl
  · show am_sj ml5 106 4 1 47 i = _
    rw [sj_f (by omega)]; exact p1 i hi
theorem EK_ok (L : Nat) (xs : Nat → Int32) : EK (lw_xE L xs) := by
  refine ⟨by show 1 < 2; omega, rfl, ?_⟩
  have : ∀ j, j < 121 → (tb_byt.getD 1 []).getD j 0 = nI (kch j) := by decide +kernel
  exact this
theorem T0_ok (L : Nat) (xs : Nat → Int32) : T0 (lw_xE L xs) := by
  refine ⟨by show 0 < 2; omega, rfl, ?_⟩
  have : ∀ j, j < 119 → (tb_byt.getD 0 []).getD j 0 = nI (kch0 j) := by decide +kernel
  exact this
theorem l0_lim : (am_l0 340).1 ≤ 600000 ∧ (am_l0 340).2 ≤ 7302250 := by decide +kernel
set_option maxRecDepth 100000 in
theorem lw_goal_ok : lw_goal := by
  intro L xs hL
  show qw (lw_xE L xs) 14 340 (600000, 7302250) (fun r _ => r = some (.int 1)) (Sh 0) rf0 0 [.retAddr 0, am_mk, am_mk, am_mk] [] mi0 ml0
  refine q_new (Sl' := Sh 1) (f_340 rfl) rfl sl_0 sz_0 rfl rfl rfl (q_dupR (f_340 rfl) (q_callI (y' := 111) (as := [.ref 0]) (rest := [.ref 0]) (f_340 rfl) rfl rfl rfl rfl rfl (q_bud sz_1 rfl rfl) trivial (ini_X9 (d := 7) (T0_ok L xs) (fun ml5 p1 p2 => ?_))))
  refine q_astore_n (L' := [.retAddr 0, .ref 0, am_mk, am_mk]) (f_340 rfl) rfl rfl (q_new (Sl' := Sh 107) (f_340 rfl) rfl sl_106 sz_106 rfl rfl rfl (q_dupR (f_340 rfl) (q_callI (y' := 181) (as := [.ref 106]) (rest := [.ref 106]) (f_340 rfl) rfl rfl rfl rfl rfl (q_bud sz_107 rfl rfl) trivial (pre_X10 (d := 12) ?_))))
  rw [F_ok]
  show cq (lw_xE L xs) 13 183 [.ref 106, .int (nI 0)] _ (M10 M9) (L10 (L9 ml5))
  apply s_plain0 (d := 12)
  intro mi' f1 hMS h8
  refine q_vret (f_182 rfl) rfl sl_122 sz_122 ?_
  refine q_astore_n (L' := [.retAddr 0, .ref 0, .ref 106, am_mk]) (f_340 rfl) rfl rfl (q_iconst (v := nI 0) (f_340 rfl) rfl (q_istore_n (L' := [.retAddr 0, .ref 0, .ref 106, .int (nI 0)]) (f_340 rfl) rfl rfl ?_))
  exact am_wp_lim l0_lim.1 l0_lim.2 (fun r M h => h.2.2) (lw_all (EK_ok L xs) hL (INV_0 f1 hMS h8 p1 p2))
