/-! The reference's games. -/
def valO (a : Nat → Nat) (w : Nat → Nat) (u o : Nat) : Nat := w (if o = a 0 then u else u ^^^ 1 <<< o)
def btr (c : Bool) (x y : Nat) : Bool := if c then decide (x < y) else decide (y < x)
theorem btr_t {x y : Nat} : btr true x y = true ↔ x < y := by
  show decide (x < y) = true ↔ _
  exact decide_eq_true_iff
theorem btr_f {x y : Nat} : btr false x y = true ↔ y < x := by
  show decide (y < x) = true ↔ _
  exact decide_eq_true_iff
def turS (a : Nat → Nat) (w : Nat → Nat) (c : Bool) (u o y : Nat) : Nat := if y = 0 ∨ btr c (valO a w u (y - 1)) (valO a w u o) = true then o + 1 else y
theorem turS_1 {a : Nat → Nat} {w : Nat → Nat} {c : Bool} {u o y : Nat} (h : y = 0 ∨ btr c (valO a w u (y - 1)) (valO a w u o) = true) : turS a w c u o y = o + 1 := if_pos h
theorem turS_0 {a : Nat → Nat} {w : Nat → Nat} {c : Bool} {u o y : Nat} (h : ¬ y = 0) (h2 : ¬ btr c (valO a w u (y - 1)) (valO a w u o) = true) : turS a w c u o y = y := if_neg (fun z => z.elim h h2)
theorem turS_pos (a : Nat → Nat) (w : Nat → Nat) (c : Bool) (u : Nat) : ∀ n, 1 ≤ foldN (turS a w c u) (n + 1) 0
  | 0 => by
    show 1 ≤ turS a w c u 0 0
    rw [turS_1 (Or.inl rfl)]; exact Nat.le_refl _
  | n + 1 => by
    have := turS_pos a w c u n
    rw [foldN_s]
    generalize foldN (turS a w c u) (n + 1) 0 = y at *
    unfold turS
    split <;> omega
theorem turS_le (a : Nat → Nat) (w : Nat → Nat) (c : Bool) (u n : Nat) : foldN (turS a w c u) n 0 ≤ n :=
  foldN_le (fun o y hy => by unfold turS; split <;> omega) n
theorem plyV_s (c : Bool) (w : Nat → Nat) (u o : Nat) : plyV c w u (o + 1) = if c then max (plyV c w u o) (w (u ^^^ 1 <<< o)) else min (plyV c w u o) (w (u ^^^ 1 <<< o)) := rfl
def mxm (c : Bool) (x y : Nat) : Nat := if c then max x y else min x y
theorem mxm_t (x y : Nat) : mxm true x y = max x y := rfl
theorem mxm_f (x y : Nat) : mxm false x y = min x y := rfl
theorem tur_val (a : Nat → Nat) (w : Nat → Nat) (c : Bool) (u : Nat) : ∀ n, n < a 0 → plyV c w u (n + 1) = mxm c (w u) (valO a w u (foldN (turS a w c u) (n + 1) 0 - 1))
  | 0, hn => by
    have e : foldN (turS a w c u) 1 0 = 1 := turS_1 (Or.inl rfl)
    rw [show (0 : Nat) + 1 = 1 from rfl, e, show (1 : Nat) - 1 = 0 from rfl]
    have e2 : valO a w u 0 = w (u ^^^ 1 <<< 0) := by unfold valO; rw [if_neg (by omega)]
    rw [e2]; rfl
  | n + 1, hn => by
    have ih := tur_val a w c u n (by omega)
    have hp := turS_pos a w c u n
    have e2 : valO a w u (n + 1) = w (u ^^^ 1 <<< (n + 1)) := by unfold valO; rw [if_neg (by omega)]
    have e3 : plyV c w u (n + 1 + 1) = mxm c (plyV c w u (n + 1)) (w (u ^^^ 1 <<< (n + 1))) := rfl
    rw [e3, ih, foldN_s (turS a w c u) (n + 1) 0, ← e2]
    generalize foldN (turS a w c u) (n + 1) 0 = y at *
    by_cases hb : btr c (valO a w u (y - 1)) (valO a w u (n + 1)) = true
    · rw [turS_1 (Or.inr hb), Nat.add_sub_cancel]
      cases c
      · rw [btr_f] at hb
        rw [mxm_f, mxm_f, mxm_f]; omega
      · rw [btr_t] at hb
        rw [mxm_t, mxm_t, mxm_t]; omega
    · rw [turS_0 (by omega) hb]
      cases c
      · rw [btr_f] at hb
        rw [mxm_f, mxm_f]; omega
      · rw [btr_t] at hb
        rw [mxm_t, mxm_t]; omega
theorem tur_end (a : Nat → Nat) (w : Nat → Nat) (c : Bool) (u : Nat) : valO a w u (foldN (turS a w c u) (a 0 + 1) 0 - 1) = plyW a c w u := by
  unfold plyW
  have e0 : valO a w u (a 0) = w u := by unfold valO; rw [if_pos rfl]
  rw [foldN_s]
  rcases Nat.eq_zero_or_pos (a 0) with z | z
  · rw [z]
    show valO a w u (turS a w c u 0 0 - 1) = plyV c w u 0
    rw [turS_1 (Or.inl rfl)]
    rw [z] at e0
    exact e0
  · obtain ⟨n, hn⟩ : ∃ n, a 0 = n + 1 := ⟨a 0 - 1, by omega⟩
    have ih := tur_val a w c u n (by omega)
    have hp := turS_pos a w c u n
    rw [← hn] at ih hp
    rw [ih]
    generalize foldN (turS a w c u) (a 0) 0 = y at *
    by_cases hb : btr c (valO a w u (y - 1)) (valO a w u (a 0)) = true
    · rw [turS_1 (Or.inr hb), Nat.add_sub_cancel]
      rw [e0] at hb ⊢
      cases c
      · rw [btr_f] at hb
        rw [mxm_f]; omega
      · rw [btr_t] at hb
        rw [mxm_t]; omega
    · rw [turS_0 (by omega) hb]
      rw [e0] at hb
      cases c
      · rw [btr_f] at hb
        rw [mxm_f]; omega
      · rw [btr_t] at hb
        rw [mxm_t]; omega
theorem cap_tur (a : Nat → Nat) (w : Nat → Nat) : ∀ n, n ≤ a 0 → foldN (capS a w) n 0 = if n = 0 then 0 else if w (a 6) ≤ valO a w (a 6) (foldN (turS a w true (a 6)) n 0 - 1) then foldN (turS a w true (a 6)) n 0 else 0
  | 0, _ => rfl
  | n + 1, hn => by
    have ih := cap_tur a w n (by omega)
    have e2 : w (a 6 ^^^ 1 <<< n) = valO a w (a 6) n := by unfold valO; rw [if_neg (by omega)]
    rw [foldN_s (capS a w) n 0, foldN_s (turS a w true (a 6)) n 0, ih, if_neg (show ¬ n + 1 = 0 by omega)]
    rcases Nat.eq_zero_or_pos n with z | z
    · subst z
      rw [if_pos rfl, show foldN (turS a w true (a 6)) 0 0 = 0 from rfl, turS_1 (Or.inl rfl)]
      have e3 : capS a w 0 0 = if w (a 6) ≤ w (a 6 ^^^ 1 <<< 0) then 0 + 1 else 0 := rfl
      rw [e3, e2]
    · rw [if_neg (show ¬ n = 0 by omega)]
      obtain ⟨m, rfl⟩ : ∃ m, n = m + 1 := ⟨n - 1, by omega⟩
      have hp := turS_pos a w true (a 6) m
      have hle := turS_le a w true (a 6) (m + 1)
      generalize foldN (turS a w true (a 6)) (m + 1) 0 = y at *
      have e3 : w (a 6 ^^^ 1 <<< (y - 1)) = valO a w (a 6) (y - 1) := by unfold valO; rw [if_neg (by omega)]
      by_cases h1 : w (a 6) ≤ valO a w (a 6) (y - 1)
      · rw [if_pos h1]
        have ec : capS a w (m + 1) y = if valO a w (a 6) (y - 1) < valO a w (a 6) (m + 1) then m + 1 + 1 else y := by
          unfold capS; rw [if_neg (show ¬ y = 0 by omega), e2, e3]
        rw [ec]
        by_cases h2 : valO a w (a 6) (y - 1) < valO a w (a 6) (m + 1)
        · rw [if_pos h2, turS_1 (Or.inr (btr_t.mpr h2)), Nat.add_sub_cancel, if_pos (show w (a 6) ≤ valO a w (a 6) (m + 1) by omega)]
        · rw [if_neg h2, turS_0 (by omega) (fun z => h2 (btr_t.mp z)), if_pos h1]
      · rw [if_neg h1]
        have ec : capS a w (m + 1) 0 = if w (a 6) ≤ valO a w (a 6) (m + 1) then m + 1 + 1 else 0 := by
          unfold capS; rw [if_pos rfl, e2]
        rw [ec]
        by_cases h2 : w (a 6) ≤ valO a w (a 6) (m + 1)
        · rw [if_pos h2, turS_1 (Or.inr (btr_t.mpr (by omega))), Nat.add_sub_cancel, if_pos h2]
        · rw [if_neg h2]
          by_cases h3 : valO a w (a 6) (y - 1) < valO a w (a 6) (m + 1)
          · rw [turS_1 (Or.inr (btr_t.mpr h3)), Nat.add_sub_cancel, if_neg h2]
          · rw [turS_0 (by omega) (fun z => h3 (btr_t.mp z)), if_neg h1]
theorem cap_end (a : Nat → Nat) (w : Nat → Nat) : foldN (capS a w) (a 0) 0 = if foldN (turS a w true (a 6)) (a 0 + 1) 0 = a 0 + 1 then 0 else foldN (turS a w true (a 6)) (a 0 + 1) 0 := by
  have e0 : valO a w (a 6) (a 0) = w (a 6) := by unfold valO; rw [if_pos rfl]
  rw [cap_tur a w (a 0) (Nat.le_refl _), foldN_s]
  have hle := turS_le a w true (a 6) (a 0)
  rcases Nat.eq_zero_or_pos (a 0) with z | z
  · rw [if_pos z]
    have e1 : foldN (turS a w true (a 6)) (a 0) 0 = 0 := by omega
    rw [e1, turS_1 (Or.inl rfl), if_pos rfl]
  · obtain ⟨m, hm⟩ : ∃ m, a 0 = m + 1 := ⟨a 0 - 1, by omega⟩
    have hp := turS_pos a w true (a 6) m
    rw [← hm] at hp
    rw [if_neg (show ¬ a 0 = 0 by omega)]
    generalize foldN (turS a w true (a 6)) (a 0) 0 = y at *
    by_cases h1 : w (a 6) ≤ valO a w (a 6) (y - 1)
    · rw [if_pos h1, turS_0 (by omega) (fun z => by rw [btr_t, e0] at z; omega), if_neg (by omega)]
    · rw [if_neg h1, turS_1 (Or.inr (btr_t.mpr (by rw [e0]; omega))), if_pos rfl]
/-- what a game of the reference leaves changed -/
def frP (mi mi' : Nat → Nat → Int32) : Prop := ∀ k j, ¬ (k = 115 ∨ k = 116 ∨ k = 117 ∨ k = 106 ∧ j = 25 ∨ k = 106 ∧ j = 28) → mi' k j = mi k j
theorem frP_tr {mi mi' mi'' : Nat → Nat → Int32} (h : frP mi mi') (h2 : frP mi' mi'') : frP mi mi'' := fun k j hk => by rw [h2 k j hk, h k j hk]
theorem MA_frP {a : Nat → Nat} {mi mi' : Nat → Nat → Int32} (h : MA a mi) (hf : frP mi mi') : MA a mi' := fun k hk h8 => by rw [hf 107 k (by omega)]; exact h k hk h8
theorem s_turnsTo {E : am_E} {d : Nat} {K : am_K} {mi : Nat → Nat → Int32} {ml : Nat → Nat → Int64} {a : Nat → Nat} (hM : MA a mi) (hW : WA a) {w : Nat → Nat} (hw : WO a w 117 mi) (hB : ∀ u, u < 2 ^ a 0 → w u ≤ 10) {c : Bool} {u : Nat} (hu : u < 2 ^ a 0) (hk : ∀ mi', (∀ k j, ¬ (k = 106 ∧ j = 28) → mi' k j = mi k j) → mi' 106 28 = nI (foldN (turS a w c u) (a 0 + 1) 0 - 1) → K (some (.int (nI (plyW a c w u)))) (S0, mi', ml)) : cq E (d + 1) 309 [.ref 106, .int (nI u), .int (nI (b01 c))] K mi ml := by
  have w0 := hW.1.1
  have w2 := WA_p2 hW
  have hM2 := hM
  unfold MA at hM2
  have hv : ∀ o, o ≤ a 0 → valO a w u o ≤ 10 := fun o ho => by
    unfold valO
    split
    · exact hB _ hu
    · exact hB _ (Nat.xor_lt_two_pow hu (shl_lt (by omega)))
  have key : ∀ i, i ≤ a 0 + 1 → ∀ mi', (∀ k j, ¬ (k = 106 ∧ j = 28) → mi' k j = mi k j) → (1 ≤ i → mi' 106 28 = nI (foldN (turS a w c u) i 0 - 1)) → rn E d 309 K 10 [.ref 106, .int (nI u), .int (nI (b01 c)), .int (if foldN (turS a w c u) i 0 = 0 then nM else nI (valO a w u (foldN (turS a w c u) i 0 - 1))), .int (nI i), am_mk] [] mi' ml := dn_ind (a 0 + 1) (by
    intro i hi ih mi' hf h28
    apply rg_X10_turnsTo_10
    have m0 : mi' 107 0 = nI (a 0) := by rw [hf 107 0 (by omega)]; exact hM 0 (by omega) (by omega)
    have m117 : ∀ v, v < 2 ^ a 0 → mi' 117 v = nI (w v) := fun v hv => by rw [hf 117 v (by omega)]; exact hw v hv
    have hle := turS_le a w c u i
    simp (disch := omega) only [ni_lt, ni_le, ni_eq, ni_cl, ni_in, nI_add, ni_mul, ni_and, ni_or, ni_xor, ni_dif, ni_bit, ni_b0, ni_b1, ni_nM, nM_ni, nM_lt, lt_nM, nM_le, le_nM, ni_shl, Nat.not_lt_zero, Nat.zero_add, Nat.add_zero, si_t, si_f, not_true_eq_false, not_false_eq_true, true_implies, false_implies, true_and, and_true, forall_const, m0]
    refine ⟨fun q => ?_, fun q => ?_⟩
    · have e : i = a 0 + 1 := by omega
      subst e
      have hp := turS_pos a w c u (a 0)
      rw [if_neg (by omega), tur_end]
      exact hk mi' hf (h28 (by omega))
    · have ih := ih (by omega)
      rw [foldN_s] at ih
      generalize foldN (turS a w c u) i 0 = y at *
      have hvi := hv i (by omega)
      have hvy := hv (y - 1) (by omega)
      have fin : ∀ v, v = valO a w u i → ((if y = 0 then nM else nI (valO a w u (y - 1))) = nM → rn E d 309 K 10 [.ref 106, .int (nI u), .int (nI (b01 c)), .int (nI v), .int (nI (i + 1)), am_mk] [] (am_si mi' 106 28 (nI i)) ml) ∧ (¬ (if y = 0 then nM else nI (valO a w u (y - 1))) = nM → ((c = false → ((nI v < (if y = 0 then nM else nI (valO a w u (y - 1))) → rn E d 309 K 10 [.ref 106, .int (nI u), .int (nI (b01 c)), .int (nI v), .int (nI (i + 1)), am_mk] [] (am_si mi' 106 28 (nI i)) ml) ∧ (¬ (nI v < (if y = 0 then nM else nI (valO a w u (y - 1)))) → rn E d 309 K 10 [.ref 106, .int (nI u), .int (nI (b01 c)), .int (if y = 0 then nM else nI (valO a w u (y - 1))), .int (nI (i + 1)), am_mk] [] mi' ml))) ∧ (¬ c = false → (((if y = 0 then nM else nI (valO a w u (y - 1))) < nI v → rn E d 309 K 10 [.ref 106, .int (nI u), .int (nI (b01 c)), .int (nI v), .int (nI (i + 1)), am_mk] [] (am_si mi' 106 28 (nI i)) ml) ∧ (¬ ((if y = 0 then nM else nI (valO a w u (y - 1))) < nI v) → rn E d 309 K 10 [.ref 106, .int (nI u), .int (nI (b01 c)), .int (if y = 0 then nM else nI (valO a w u (y - 1))), .int (nI (i + 1)), am_mk] [] mi' ml))))) := by
        intro v hv2
        subst hv2
        have take : (turS a w c u i y = i + 1) → rn E d 309 K 10 [.ref 106, .int (nI u), .int (nI (b01 c)), .int (nI (valO a w u i)), .int (nI (i + 1)), am_mk] [] (am_si mi' 106 28 (nI i)) ml := by
          intro e
          have := ih (am_si mi' 106 28 (nI i)) (fun k j hkj => by rw [si_f (by omega)]; exact hf k j hkj) (fun _ => by rw [si_t ⟨rfl, rfl⟩, e]; rfl)
          rw [e, if_neg (by omega)] at this
          exact this
        have leave : (turS a w c u i y = y) → 1 ≤ y → rn E d 309 K 10 [.ref 106, .int (nI u), .int (nI (b01 c)), .int (if y = 0 then nM else nI (valO a w u (y - 1))), .int (nI (i + 1)), am_mk] [] mi' ml := by
          intro e hy
          have := ih mi' hf (fun _ => by rw [e]; exact h28 (by omega))
          rw [e] at this
          exact this
        by_cases hy : y = 0
        · rw [if_pos hy]
          refine ⟨fun _ => take (turS_1 (Or.inl hy)), fun z => absurd rfl z⟩
        · rw [if_neg hy]
          rw [if_neg hy] at leave
          refine ⟨fun z => absurd ((ni_nM (by omega)).mp z) id, fun _ => ⟨fun hc => ⟨fun z => take ?_, fun z => leave ?_ (by omega)⟩, fun hc => ⟨fun z => take ?_, fun z => leave ?_ (by omega)⟩⟩⟩
          · rw [ni_lt (by omega) (by omega)] at z
            exact turS_1 (Or.inr (by rw [hc]; exact btr_f.mpr z))
          · rw [ni_lt (by omega) (by omega)] at z
            exact turS_0 hy (fun z2 => by rw [hc] at z2; exact z (btr_f.mp z2))
          · rw [ni_lt (by omega) (by omega)] at z
            have hc2 : c = true := by simpa using hc
            exact turS_1 (Or.inr (by rw [hc2]; exact btr_t.mpr z))
          · rw [ni_lt (by omega) (by omega)] at z
            have hc2 : c = true := by simpa using hc
            exact turS_0 hy (fun z2 => by rw [hc2] at z2; exact z (btr_t.mp z2))
      refine ⟨fun q2 => ?_, fun q2 => ?_⟩
      · have hxl : u ^^^ 1 <<< i < 2 ^ a 0 := Nat.xor_lt_two_pow hu (shl_lt (by omega))
        simp (disch := omega) only [ni_lt, ni_le, ni_eq, ni_cl, ni_in, nI_add, ni_mul, ni_and, ni_or, ni_xor, ni_dif, ni_bit, ni_b0, ni_b1, ni_nM, nM_ni, nM_lt, lt_nM, nM_le, le_nM, ni_shl, Nat.not_lt_zero, Nat.zero_add, Nat.add_zero, si_t, si_f, not_true_eq_false, not_false_eq_true, true_implies, false_implies, true_and, and_true, forall_const, m117]
        exact ⟨by omega, fin _ (by unfold valO; rw [if_neg q2])⟩
      · simp (disch := omega) only [ni_lt, ni_le, ni_eq, ni_cl, ni_in, nI_add, ni_mul, ni_and, ni_or, ni_xor, ni_dif, ni_bit, ni_b0, ni_b1, ni_nM, nM_ni, nM_lt, lt_nM, nM_le, le_nM, ni_shl, Nat.not_lt_zero, Nat.zero_add, Nat.add_zero, si_t, si_f, not_true_eq_false, not_false_eq_true, true_implies, false_implies, true_and, and_true, forall_const, m117]
        exact ⟨by omega, fin _ (by unfold valO; rw [if_pos (Classical.byContradiction q2)])⟩)
  apply en_X10_turnsTo
  exact key 0 (Nat.zero_le _) _ (fun k j hkj => si_f (by omega)) (fun h => absurd h (by omega))
theorem plyD_1 (a : Nat → Nat) {t : Nat} (ht : t ≤ 3) (w : Nat → Nat) : plyD a 1 t w = if t = 0 then w else plyW a true (plyD a 2 t w) := by
  rcases t with _ | _ | _ | _ | t
  · rfl
  · rfl
  · rfl
  · rfl
  · omega
theorem plyD_le {a : Nat → Nat} {f : Nat} : ∀ {t : Nat} {w : Nat → Nat}, (∀ u, u < 2 ^ a 0 → w u ≤ 10) → ∀ u, u < 2 ^ a 0 → plyD a f t w u ≤ 10
  | 0, _, h, u, hu => h u hu
  | t + 1, w, h, u, hu => by
    unfold plyD
    split
    · exact h u hu
    · exact plyD_le (fun v hv => plyV_le hv h (Nat.le_refl _)) u hu
theorem s_playing {E : am_E} {d : Nat} {K : am_K} {mi : Nat → Nat → Int32} {ml : Nat → Nat → Int64} {a : Nat → Nat} (hM : MA a mi) (hW : WA a) {t : Nat} (ht : t ≤ 3) (hk : ∀ mi', frP mi mi' → (1 ≤ t → mi' 106 28 = nI (foldN (turS a (plyD a 2 t (outW a)) true (a 6)) (a 0 + 1) 0 - 1)) → K (some (.int (nI (plyD a 1 t (outW a) (a 6))))) (S0, mi', ml)) : cq E (d + 7) 310 [.ref 106, .int (nI t)] K mi ml := by
  obtain ⟨⟨x0, x1, x2, x3, x4, x5, x6, x7, x8⟩, y, z⟩ := id hW
  have w2 := WA_p2 hW
  have hp2 := p2_pos (a 0)
  have hab := abo_lt hW
  have lev : ∀ l, l ≤ 2 → ∀ mi' w, frP mi mi' → WO a w 117 mi' → (∀ u, u < 2 ^ a 0 → w u ≤ 10) → 1 ≤ t → plyD a 2 (l + 1) w = plyD a 2 t (outW a) → rn E (d + 6) 310 K 38 [.ref 106, .int (nI t), .int (nI l), am_mk] [] mi' ml := by
    intro l
    induction l with
    | zero =>
      intro _ mi' w hf hw hB h1 he
      have hM' := MA_frP hM hf
      apply rg_X10_playing_38
      rw [hM' 6 (by omega) (by omega)]
      simp (disch := omega) only [ni_lt, ni_le, ni_eq, ni_cl, ni_in, nI_add, ni_mul, ni_and, ni_or, ni_xor, ni_dif, ni_bit, ni_b0, ni_b1, ni_nM, nM_ni, nM_lt, lt_nM, nM_le, le_nM, ni_shl, Nat.not_lt_zero, Nat.zero_add, Nat.add_zero, si_t, si_f, not_true_eq_false, not_false_eq_true, true_implies, false_implies, true_and, and_true, forall_const]
      refine ⟨fun _ => ⟨fun _ => ?_, fun q => by omega⟩, fun q => by omega⟩
      apply s_turnsTo (c := true) hM' hW hw hB x7
      intro mi2 hf2 h28
      apply rg_X10_playing_145
      have hw2 : w = plyD a 2 t (outW a) := by rw [← he]; rfl
      have hk := hk mi2 (fun k j hkj => by rw [hf2 k j (by omega)]; exact hf k j hkj) (fun _ => by rw [← hw2]; exact h28)
      rw [plyD_1 a ht, if_neg (by omega), ← hw2] at hk
      exact hk
    | succ l ih =>
      intro hl mi' w hf hw hB h1 he
      apply rg_X10_playing_38
      simp (disch := omega) only [ni_lt, ni_le, ni_eq, ni_cl, ni_in, nI_add, ni_mul, ni_and, ni_or, ni_xor, ni_dif, ni_bit, ni_b0, ni_b1, ni_nM, nM_ni, nM_lt, lt_nM, nM_le, le_nM, ni_shl, Nat.not_lt_zero, Nat.zero_add, Nat.add_zero, si_t, si_f, not_true_eq_false, not_false_eq_true, true_implies, false_implies, true_and, and_true, forall_const]
      refine ⟨fun q => by omega, fun _ => ?_⟩
      have c82 : ∀ i, i ≤ 2 ^ a 0 → ∀ mi2, frP mi mi2 → (∀ u, u < 2 ^ a 0 → mi2 116 u = nI (plyW a (decide ((l + 1 + 1) % 2 = 1)) w u)) → (∀ u, u < i → mi2 117 u = nI (plyW a (decide ((l + 1 + 1) % 2 = 1)) w u)) → rn E (d + 6) 310 K 82 [.ref 106, .int (nI t), .int (nI (l + 1)), .int (nI i)] [] mi2 ml := dn_ind (2 ^ a 0) (by
        intro i hi ih2 mi2 hf2 h116 h117
        have m0 : mi2 107 0 = nI (a 0) := MA_frP hM hf2 0 (by omega) (by omega)
        apply rg_X10_playing_82
        simp (disch := omega) only [ni_lt, ni_le, ni_eq, ni_cl, ni_in, nI_add, ni_mul, ni_and, ni_or, ni_xor, ni_dif, ni_bit, ni_b0, ni_b1, ni_nM, nM_ni, nM_lt, lt_nM, nM_le, le_nM, ni_shl, Nat.not_lt_zero, Nat.zero_add, Nat.add_zero, si_t, si_f, not_true_eq_false, not_false_eq_true, true_implies, false_implies, true_and, and_true, forall_const, m0, ni_all]
        refine ⟨fun q => ?_, fun q => ⟨by omega, by omega, ?_⟩⟩
        · have e : nI (l + 1) + nM = nI l := by
            rw [show nM = -1 from rfl, ← Int32.sub_eq_add_neg]
            exact nI_pred l
          rw [e]
          refine ih (by omega) mi2 _ hf2 (fun u hu => h117 u (by omega)) (fun u hu => plyV_le hu hB (Nat.le_refl _)) h1 ?_
          rw [← he]
          show _ = if l + 1 + 1 < 2 then w else plyD a 2 (l + 1) (plyW a (decide ((l + 1 + 1) % 2 = 1)) w)
          rw [if_neg (by omega)]
        · rw [h116 i (by omega)]
          refine ih2 (by omega) _ (fun k j hkj => by rw [si_f (by omega)]; exact hf2 k j hkj) (fun u hu => by rw [si_f (by omega)]; exact h116 u hu) (fun u hu => ?_)
          by_cases e : u = i
          · subst e; exact si_t ⟨rfl, rfl⟩
          · rw [si_f (by omega)]; exact h117 u (by omega))
      have c44 : ∀ i, i ≤ 2 ^ a 0 → ∀ mi2, frP mi mi2 → WO a w 117 mi2 → (∀ u, u < i → mi2 116 u = nI (plyW a (decide ((l + 1 + 1) % 2 = 1)) w u)) → rn E (d + 6) 310 K 44 [.ref 106, .int (nI t), .int (nI (l + 1)), .int (nI i)] [] mi2 ml := dn_ind (2 ^ a 0) (by
        intro i hi ih2 mi2 hf2 hw2 h116
        have hM2 := MA_frP hM hf2
        have m0 : mi2 107 0 = nI (a 0) := hM2 0 (by omega) (by omega)
        apply rg_X10_playing_44
        rw [rem2_all (l + 1) (by omega)]
        have hm := Nat.mod_lt (l + 1) (show 0 < 2 by omega)
        have go : ∀ c, c = decide ((l + 1 + 1) % 2 = 1) → i < 2 ^ a 0 → cq E (d + 6) 309 [.ref 106, .int (nI i), .int (nI (b01 c))] (kc E (d + 6) 310 K 73 [.ref 106, .int (nI t), .int (nI (l + 1)), .int (nI i)] [.int (nI i), .ref 116]) mi2 ml := by
          intro c hc hi2
          apply s_turnsTo hM2 hW hw2 hB hi2
          intro mi3 hf3 _
          apply rg_X10_playing_73
          simp (disch := omega) only [ni_lt, ni_le, ni_eq, ni_cl, ni_in, nI_add, ni_mul, ni_and, ni_or, ni_xor, ni_dif, ni_bit, ni_b0, ni_b1, ni_nM, nM_ni, nM_lt, lt_nM, nM_le, le_nM, ni_shl, Nat.not_lt_zero, Nat.zero_add, Nat.add_zero, si_t, si_f, not_true_eq_false, not_false_eq_true, true_implies, false_implies, true_and, and_true, forall_const]
          refine ⟨by omega, ih2 (by omega) _ (fun k j hkj => by rw [si_f (by omega), hf3 k j (by omega)]; exact hf2 k j hkj) (fun u hu => by rw [si_f (by omega), hf3 117 u (by omega)]; exact hw2 u hu) (fun u hu => ?_)⟩
          by_cases e : u = i
          · subst e; rw [si_t ⟨rfl, rfl⟩, hc]
          · rw [si_f (by omega), hf3 116 u (by omega)]; exact h116 u (by omega)
        simp (disch := omega) only [ni_lt, ni_le, ni_eq, ni_cl, ni_in, nI_add, ni_mul, ni_and, ni_or, ni_xor, ni_dif, ni_bit, ni_b0, ni_b1, ni_nM, nM_ni, nM_lt, lt_nM, nM_le, le_nM, ni_shl, Nat.not_lt_zero, Nat.zero_add, Nat.add_zero, si_t, si_f, not_true_eq_false, not_false_eq_true, true_implies, false_implies, true_and, and_true, forall_const, m0, ni_all]
        refine ⟨fun q => c82 0 (Nat.zero_le _) mi2 hf2 (fun u hu => h116 u (by omega)) (fun u hu => absurd hu (Nat.not_lt_zero _)), fun q => ⟨fun q2 => ?_, fun q2 => ?_⟩⟩
        · exact go false (by rw [decide_eq_false (by omega)]) (by omega)
        · exact go true (by rw [decide_eq_true (by omega)]) (by omega))
      exact c44 0 (Nat.zero_le _) mi' hf hw (fun u hu => absurd hu (Nat.not_lt_zero _))
  have first : ∀ i, i ≤ 2 ^ a 0 → ∀ mi', frP mi mi' → (∀ u, u < i → mi' 117 u = nI (outW a u)) → rn E (d + 6) 310 K 2 [.ref 106, .int (nI t), .int (nI i), am_mk] [] mi' ml := dn_ind (2 ^ a 0) (by
    intro i hi ih mi' hf h117
    have hM' := MA_frP hM hf
    have m0 : mi' 107 0 = nI (a 0) := hM' 0 (by omega) (by omega)
    apply rg_X10_playing_2
    simp (disch := omega) only [ni_lt, ni_le, ni_eq, ni_cl, ni_in, nI_add, ni_mul, ni_and, ni_or, ni_xor, ni_dif, ni_bit, ni_b0, ni_b1, ni_nM, nM_ni, nM_lt, lt_nM, nM_le, le_nM, ni_shl, Nat.not_lt_zero, Nat.zero_add, Nat.add_zero, si_t, si_f, not_true_eq_false, not_false_eq_true, true_implies, false_implies, true_and, and_true, forall_const, m0, ni_all]
    refine ⟨fun q => ?_, fun q => ?_⟩
    · rcases Nat.eq_zero_or_pos t with e | e
      · subst e
        rw [show nI 0 - nI 1 = nM by decide]
        apply rg_X10_playing_38
        rw [hM' 6 (by omega) (by omega)]
        simp (disch := omega) only [ni_lt, ni_le, ni_eq, ni_cl, ni_in, nI_add, ni_mul, ni_and, ni_or, ni_xor, ni_dif, ni_bit, ni_b0, ni_b1, ni_nM, nM_ni, nM_lt, lt_nM, nM_le, le_nM, ni_shl, Nat.not_lt_zero, Nat.zero_add, Nat.add_zero, si_t, si_f, not_true_eq_false, not_false_eq_true, true_implies, false_implies, true_and, and_true, forall_const]
        refine ⟨by omega, ?_⟩
        rw [h117 (a 6) (by omega)]
        exact hk mi' hf (fun z => by omega)
      · rw [ni_sub (by omega)]
        refine lev (t - 1) (by omega) mi' (outW a) hf (fun u hu => h117 u (by omega)) (fun u _ => pc_le _) e ?_
        rw [Nat.sub_add_cancel e]
    · have l1 := out_lt a (aboA a) i
      apply s_aboardM hM' hW
      apply rg_X10_playing_20
      apply s_outOfM hM' hW (by omega) hab
      intro mi2 hf2
      apply rg_X10_playing_24
      apply s_bits (by omega)
      apply rg_X10_playing_27
      simp (disch := omega) only [ni_lt, ni_le, ni_eq, ni_cl, ni_in, nI_add, ni_mul, ni_and, ni_or, ni_xor, ni_dif, ni_bit, ni_b0, ni_b1, ni_nM, nM_ni, nM_lt, lt_nM, nM_le, le_nM, ni_shl, Nat.not_lt_zero, Nat.zero_add, Nat.add_zero, si_t, si_f, not_true_eq_false, not_false_eq_true, true_implies, false_implies, true_and, and_true, forall_const]
      refine ⟨by omega, ih (by omega) _ (fun k j hkj => by rw [si_f (by omega), hf2 k j (by omega)]; exact hf k j hkj) (fun u hu => ?_)⟩
      by_cases e : u = i
      · subst e; exact si_t ⟨rfl, rfl⟩
      · rw [si_f (by omega), hf2 117 u (by omega)]; exact h117 u (by omega))
  apply en_X10_playing
  exact first 0 (Nat.zero_le _) mi (fun _ _ _ => rfl) (fun u hu => absurd hu (Nat.not_lt_zero _))
