/-! Locals that nobody reads may hold anything. -/
def am_le (L L' : List Value) : Prop := L.length = L'.length ∧ ∀ (i : Nat) (v : Value), L[i]? = some v → am_isv v = true → L'[i]? = some v
theorem am_le_rf (L : List Value) : am_le L L := ⟨rfl, fun _ _ h _ => h⟩
theorem am_le_nil : am_le [] [] := am_le_rf []
theorem am_le_cons {a : Value} {L L' : List Value} (h : am_le L L') : am_le (a :: L) (a :: L') := by
  refine ⟨by simp [h.1], fun i v hi hv => ?_⟩
  match i, hi with
  | 0, hi => exact hi
  | i + 1, hi => exact h.2 i v hi hv
theorem am_le_mk {a : Value} {L L' : List Value} (h : am_le L L') : am_le (am_mk :: L) (a :: L') := by
  refine ⟨by simp [h.1], fun i v hi hv => ?_⟩
  match i, hi with
  | 0, hi => simp at hi; subst hi; cases hv
  | i + 1, hi => exact h.2 i v hi hv
theorem am_le_set {L L' : List Value} (h : am_le L L') (k : Nat) (v : Value) : am_le (am_set L k v) (am_set L' k v) := by
  have hl : ∀ (A : List Value), (am_set A k v).length = A.length := fun A => by unfold am_set; split; simp; split <;> simp
  refine ⟨by rw [hl, hl]; exact h.1, fun i u hi hu => ?_⟩
  have hlt : i < L.length := by have := (List.getElem?_eq_some_iff.mp hi).1; rw [hl] at this; exact this
  have hlt' : i < L'.length := by rw [← h.1]; exact hlt
  cases k with
  | zero =>
    unfold am_set at hi ⊢
    dsimp only at hi ⊢
    rw [List.getElem?_set] at hi ⊢
    by_cases e : 0 = i
    · subst e; simp only [if_true] at hi ⊢; simp [hlt] at hi; simp [hlt', hi]
    · simp only [e, if_false] at hi ⊢; exact h.2 i u hi hu
  | succ j =>
    by_cases e : j + 1 = i
    · subst e
      have e1 : (am_set L (j + 1) v)[j + 1]? = some v := by
        unfold am_set; dsimp only; split <;> (rw [List.getElem?_set]; simp [hlt])
      have e2 : (am_set L' (j + 1) v)[j + 1]? = some v := by
        unfold am_set; dsimp only; split <;> (rw [List.getElem?_set]; simp [hlt'])
      rw [e1] at hi
      rw [e2]
      exact hi
    · by_cases e' : j = i
      · subst e'
        unfold am_set at hi
        dsimp only at hi
        split at hi
        · rw [List.getElem?_set_ne e, List.getElem?_set] at hi
          simp [hlt] at hi
          subst hi
          cases hu
        · next hno =>
          rw [List.getElem?_set_ne e] at hi
          have h2 := h.2 _ u hi hu
          unfold am_set
          dsimp only
          split
          · next x hx =>
            rw [h2] at hx
            cases hx
            exact absurd hi (hno x)
          · rw [List.getElem?_set_ne e]; exact h2
      · have e1 : (am_set L (j + 1) v)[i]? = L[i]? := by
          unfold am_set; dsimp only; split
          · rw [List.getElem?_set_ne e, List.getElem?_set_ne e']
          · rw [List.getElem?_set_ne e]
        have e2 : (am_set L' (j + 1) v)[i]? = L'[i]? := by
          unfold am_set; dsimp only; split
          · rw [List.getElem?_set_ne e, List.getElem?_set_ne e']
          · rw [List.getElem?_set_ne e]
        rw [e1] at hi
        rw [e2]
        exact h.2 i u hi hu
theorem am_le_set2 {L L' : List Value} (h : am_le L L') (k : Nat) (v : Value) : am_le (am_set2 L k v) (am_set2 L' k v) := by
  obtain ⟨h1, h2⟩ := am_le_set h k v
  refine ⟨by simp [am_set2, h1], fun i u hi hu => ?_⟩
  unfold am_set2 at hi ⊢
  by_cases e : k + 1 = i
  · subst e
    rw [List.getElem?_set] at hi
    simp at hi
    obtain ⟨-, rfl⟩ := hi
    cases hu
  · rw [List.getElem?_set_ne e] at hi ⊢
    exact h2 i u hi hu
section
variable {P : am_P} {E : am_E} {own kn : Nat} {ret : Option FieldType} {lim : Nat × Nat} {C : am_C} {K : am_K} {R R' : am_R} {L L' : List Value}
theorem am_stI_weak {st : List Value} {k : Nat} {F F' : List Value → List Value → Prop} (hl : am_le L L') (h : ∀ A A' b, am_le A A' → F A b → F' A' b) : am_stI L k st F → am_stI L' k st F' := by
  unfold am_stI; rw [hl.1]; split
  · exact h _ _ _ (am_le_set hl _ _)
  · exact id
theorem am_stL_weak {st : List Value} {k : Nat} {F F' : List Value → List Value → Prop} (hl : am_le L L') (h : ∀ A A' b, am_le A A' → F A b → F' A' b) : am_stL L k st F → am_stL L' k st F' := by
  unfold am_stL; rw [hl.1]; split
  · exact h _ _ _ (am_le_set2 hl _ _)
  · exact id
theorem am_stA_weak {st : List Value} {k : Nat} {F F' : List Value → List Value → Prop} (hl : am_le L L') (h : ∀ A A' b, am_le A A' → F A b → F' A' b) : am_stA L k st F → am_stA L' k st F' := by
  unfold am_stA; rw [hl.1]; split
  · exact h _ _ _ (am_le_set hl _ _)
  · exact h _ _ _ (am_le_set hl _ _)
  · exact id
theorem am_ldI_weak {k : Nat} {F F' : Value → Prop} (hl : am_le L L') (h : ∀ v, F v → F' v) (g : am_ldI L k F) : am_ldI L' k F' := by
  obtain ⟨x, e1, g⟩ := am_ldI_inv g
  unfold am_ldI; rw [hl.2 _ _ e1 rfl]; exact h _ g
theorem am_ldL_weak {k : Nat} {F F' : Value → Prop} (hl : am_le L L') (h : ∀ v, F v → F' v) (g : am_ldL L k F) : am_ldL L' k F' := by
  obtain ⟨x, e1, g⟩ := am_ldL_inv g
  unfold am_ldL; rw [hl.2 _ _ e1 rfl]; exact h _ g
theorem am_ldA_weak {k : Nat} {F F' : Value → Prop} (hl : am_le L L') (h : ∀ v, F v → F' v) (g : am_ldA L k F) : am_ldA L' k F' := by
  rcases am_ldA_inv g with ⟨x, e1, g⟩ | ⟨x, e1, g⟩
  · unfold am_ldA; rw [hl.2 _ _ e1 rfl]; exact h _ g
  · unfold am_ldA; rw [hl.2 _ _ e1 rfl]; exact h _ g
def am_locI (i : Instr) : Bool := match i with
  | .iload_n _ | .iload _ | .lload_n _ | .lload _ | .aload_n _ | .aload _ | .istore_n _ | .istore _ | .lstore_n _ | .lstore _ | .astore_n _ | .astore _ | .iinc _ _ => true
  | _ => false
/-- a step that does not touch the locals, seen with other locals -/
theorem am_step_L {i : Instr} {t pc : Nat} {st : List Value} {M : am_M} (hi : am_locI i = false) (hl : am_le L L') (hC : am_mC C) (hR : ∀ pc st M, R pc L st M → R' pc L' st M) :
    am_step P E own kn ret lim C K R i t pc L st M → am_step P E own kn ret lim C K R' i t pc L' st M := by
  have key : ∀ Q : am_R, am_step P E own kn ret lim C K (fun pc _ st M => Q pc L st M) i t pc L st M ↔ am_step P E own kn ret lim C K (fun pc _ st M => Q pc L st M) i t pc L' st M := by
    intro Q
    cases i <;> first | exact absurd (show true = false from hi) (by decide) | exact Iff.rfl
  intro h
  have h1 : am_step P E own kn ret lim C K (fun pc _ st M => R pc L st M) i t pc L st M := by
    cases i <;> first | exact absurd (show true = false from hi) (by decide) | exact h
  have h2 := (key R).mp h1
  have h3 : am_step P E own kn ret lim C K (fun pc _ st M => R' pc L' st M) i t pc L' st M := am_step_mono hC (fun _ _ h => h) (fun pc _ st M g => hR pc st M g) h2
  cases i <;> first | exact absurd (show true = false from hi) (by decide) | exact h3
theorem am_wp_weak {y : Nat} (hC : am_mC C) {pc : Nat} {st : List Value} {M : am_M} (hl : am_le L L') (h : am_wp P E y lim C K pc L st M) : am_wp P E y lim C K pc L' st M := by
  intro R hR
  refine h (fun pc L st M => ∀ L', am_le L L' → R pc L' st M) (fun pc L st M i n t hc hs L' hl => hR _ _ _ _ _ _ _ hc ?_) L' hl
  by_cases hi : am_locI i = true
  · cases i <;> first | exact absurd (show false = true from hi) (by decide) | skip
    all_goals (unfold am_step at hs ⊢; dsimp only at hs ⊢)
    case iload_n => exact am_ldI_weak hl (fun v g => g L' hl) hs
    case iload => exact am_ldI_weak hl (fun v g => g L' hl) hs
    case lload_n => exact am_ldL_weak hl (fun v g => g L' hl) hs
    case lload => exact am_ldL_weak hl (fun v g => g L' hl) hs
    case aload_n => exact am_ldA_weak hl (fun v g => g L' hl) hs
    case aload => exact am_ldA_weak hl (fun v g => g L' hl) hs
    case istore_n => exact am_stI_weak hl (fun A A' b ha g => g A' ha) hs
    case istore => exact am_stI_weak hl (fun A A' b ha g => g A' ha) hs
    case lstore_n => exact am_stL_weak hl (fun A A' b ha g => g A' ha) hs
    case lstore => exact am_stL_weak hl (fun A A' b ha g => g A' ha) hs
    case astore_n => exact am_stA_weak hl (fun A A' b ha g => g A' ha) hs
    case astore => exact am_stA_weak hl (fun A A' b ha g => g A' ha) hs
    case iinc k v =>
      split at hs
      · next x hb hx =>
        rw [← hl.1, hb, hl.2 _ _ hx rfl]
        exact hs _ (am_le_set hl _ _)
      · exact hs.elim
  · have hi' : am_locI i = false := by cases h9 : am_locI i <;> simp_all
    exact am_step_L hi' hl hC (fun pc st M g => g L' hl) hs
end
