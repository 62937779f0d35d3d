/-! What a method gives back is of its kind; more room does no harm. -/
section
variable {P : am_P} {E : am_E} {own kn : Nat} {ret : Option FieldType} {lim lim' : Nat × Nat} {C : am_C} {K K' : am_K} {R : am_R} {i : Instr} {t pc : Nat} {L st : List Value} {M : am_M}
theorem am_step_int (hr : ∃ ty, ret = some ty ∧ ty ≠ .long) (hK : ∀ x M, K (some (.int x)) M → K' (some (.int x)) M) (h : am_step P E own kn ret lim C K R i t pc L st M) : am_step P E own kn ret lim C K' R i t pc L st M := by
  obtain ⟨ty, rfl, hl⟩ := hr
  cases i <;> first | exact h | skip
  · rcases st with _ | ⟨v, _ | ⟨w, st⟩⟩
    · exact (show False from h).elim
    · cases v <;> first | exact (show False from h).elim | exact ⟨h.1, hK _ _ h.2⟩
    · cases v <;> exact (show False from h).elim
  · cases ty <;> first | exact absurd rfl hl | exact (show False from h).elim
theorem am_step_long (hr : ret = some .long) (hK : ∀ x M, K (some (.long x)) M → K' (some (.long x)) M) (h : am_step P E own kn ret lim C K R i t pc L st M) : am_step P E own kn ret lim C K' R i t pc L st M := by
  subst hr
  cases i <;> first | exact h | skip
  · rcases st with _ | ⟨v, _ | ⟨w, st⟩⟩
    · exact (show False from h).elim
    · cases v <;> first | exact (show False from h).elim | exact (show False from h.1).elim
    · cases v <;> exact (show False from h).elim
  · rcases st with _ | ⟨v, _ | ⟨w, st⟩⟩
    · exact (show False from h).elim
    · cases v <;> first | exact (show False from h).elim | exact hK _ _ h
    · cases v <;> exact (show False from h).elim
theorem am_bud_lim (h1 : lim.1 ≤ lim'.1) (h2 : lim.2 ≤ lim'.2) : ∀ {a b : Nat}, am_bud P lim a b M → am_bud P lim' a b M
  | 0, 0, _ => trivial
  | 0, _ + 1, h => ⟨Nat.le_trans h.1 h1, Nat.le_trans h.2 h2⟩
  | _ + 1, 0, h => ⟨Nat.le_trans h.1 h1, Nat.le_trans h.2 h2⟩
  | _ + 1, _ + 1, h => ⟨Nat.le_trans h.1 h1, Nat.le_trans h.2 h2⟩
theorem am_inv_lim {y : Nat} (h1 : lim.1 ≤ lim'.1) (h2 : lim.2 ≤ lim'.2) (h : am_inv P E lim C R y kn pc L st M) : am_inv P E lim' C R y kn pc L st M := by
  unfold am_inv at h ⊢
  generalize Nat.ble (iArg (pInf P y)) st.length = b1 at h ⊢
  generalize Nat.ble ((st.drop (iArg (pInf P y))).map (fun v => v.category)).sum 8 = b2 at h ⊢
  generalize Nat.beq kn (iKnd (pInf P y)) = b3 at h ⊢
  cases b1 <;> cases b2 <;> cases b3 <;> first | exact h | exact ⟨h.1, am_bud_lim h1 h2 h.2.1, h.2.2⟩
theorem am_step_lim (h1 : lim.1 ≤ lim'.1) (h2 : lim.2 ≤ lim'.2) (hK : ∀ r M, K r M → K' r M) (h : am_step P E own kn ret lim C K R i t pc L st M) : am_step P E own kn ret lim' C K' R i t pc L st M := by
  cases i <;> first | exact h | skip
  case new k =>
    unfold am_step at h ⊢
    dsimp only at h ⊢
    generalize pCls P own k = o at h ⊢
    cases o with
    | none => exact h
    | some ci => exact ⟨Nat.le_trans h.1 h1, Nat.le_trans h.2.1 h2, h.2.2⟩
  case newarray a =>
    rcases st with _ | ⟨v, st⟩
    · exact h
    · cases v <;> first | exact h | exact ⟨h.1, h.2.1, Nat.le_trans h.2.2.1 h1, Nat.le_trans h.2.2.2.1 h2, h.2.2.2.2⟩
  case anewarray k =>
    unfold am_step at h ⊢
    dsimp only at h ⊢
    generalize pCls P own k = o at h ⊢
    cases o with
    | none => exact h
    | some ci =>
      rcases st with _ | ⟨v, st⟩
      · exact h
      · cases v <;> first | exact h | exact ⟨h.1, h.2.1, Nat.le_trans h.2.2.1 h1, Nat.le_trans h.2.2.2.1 h2, h.2.2.2.2⟩
  case multianewarray k j =>
    unfold am_step at h ⊢
    dsimp only at h ⊢
    split at h
    · next e1 e2 =>
      obtain ⟨x, y, st', rfl, g1, g2, g3, g4, g5, g6, g7⟩ := am_i2_inv h
      exact ⟨g1, g2, g3, g4, Nat.le_trans g5 h1, Nat.le_trans g6 h2, g7⟩
    · exact h.elim
  case invokestatic k =>
    unfold am_step at h ⊢
    dsimp only at h ⊢
    generalize pMth P own k = o at h ⊢
    match o, h with
    | none, h => exact h
    | some 0, h => exact am_inv_lim h1 h2 h
    | some 1, h => exact h
    | some 2, h => exact h
    | some 3, h => exact h
    | some (_ + 4), h => exact am_inv_lim h1 h2 h
  case invokevirtual k =>
    unfold am_step at h ⊢
    dsimp only at h ⊢
    generalize pMth P own k = o at h ⊢
    match o, h with
    | none, h => exact h
    | some _, h => exact am_inv_lim h1 h2 h
  case invokespecial k =>
    unfold am_step at h ⊢
    dsimp only at h ⊢
    generalize pMth P own k = o at h ⊢
    match o, h with
    | none, h => exact h
    | some 0, h => exact h
    | some (_ + 1), h => exact am_inv_lim h1 h2 h
  case ireturn =>
    cases ret with
    | none => exact h
    | some ty =>
      rcases st with _ | ⟨v, _ | ⟨w, st⟩⟩
      · exact h
      · cases v <;> first | exact h | exact ⟨h.1, hK _ _ h.2⟩
      · cases v <;> exact h
  case lreturn =>
    cases ret with
    | none => exact h
    | some ty =>
      cases ty <;> first | exact h | skip
      rcases st with _ | ⟨v, _ | ⟨w, st⟩⟩
      · exact h
      · cases v <;> first | exact h | exact hK _ _ h
      · cases v <;> exact h
  case return_ =>
    cases ret with
    | none =>
      rcases st with _ | ⟨v, st⟩
      · exact hK _ _ h
      · exact h
    | some ty => exact h
end
theorem am_wp_lim {P : am_P} {E : am_E} {y : Nat} {lim lim' : Nat × Nat} {C : am_C} {K K' : am_K} {pc : Nat} {L st : List Value} {M : am_M} (h1 : lim.1 ≤ lim'.1) (h2 : lim.2 ≤ lim'.2) (hK : ∀ r M, K r M → K' r M) (h : am_wp P E y lim C K pc L st M) : am_wp P E y lim' C K' pc L st M :=
  fun R hR => h R (fun pc L st M i n t hc hs => hR pc L st M i n t hc (am_step_lim h1 h2 hK hs))
theorem cq_int {E : am_E} {d y : Nat} {as : List Value} {K : am_K} {mi : Nat → Nat → Int32} {ml : Nat → Nat → Int64} (hr : ∃ ty, iRet (pInf PP y) = some ty ∧ ty ≠ .long) (h : cq E (d + 1) y as (fun r M => (∃ x, r = some (.int x)) → K r M) mi ml) : cq E (d + 1) y as K mi ml := by
  obtain ⟨h1, h2, h3, h4⟩ := h
  exact ⟨h1, h2, h3, fun R hR => h4 R (fun pc L st M i n t hc hs => hR pc L st M i n t hc (am_step_int hr (fun x M k => ⟨k.1, k.2.1, k.2.2 ⟨x, rfl⟩⟩) hs))⟩
theorem cq_long {E : am_E} {d y : Nat} {as : List Value} {K : am_K} {mi : Nat → Nat → Int32} {ml : Nat → Nat → Int64} (hr : iRet (pInf PP y) = some .long) (h : cq E (d + 1) y as (fun r M => (∃ x, r = some (.long x)) → K r M) mi ml) : cq E (d + 1) y as K mi ml := by
  obtain ⟨h1, h2, h3, h4⟩ := h
  exact ⟨h1, h2, h3, fun R hR => h4 R (fun pc L st M i n t hc hs => hR pc L st M i n t hc (am_step_long hr (fun x M k => ⟨k.1, k.2.1, k.2.2 ⟨x, rfl⟩⟩) hs))⟩
