def am_mC (C : am_C) : Prop := ∀ (y : Nat) (as : List Value) (M : am_M) (K K' : am_K), (∀ r M', K r M' → K' r M') → C y as M K → C y as M K'
section
variable {P : am_P} {E : am_E} {own kn : Nat} {ret : Option FieldType} {lim : Nat × Nat} {C : am_C} {K K' : am_K} {R R' : am_R}
theorem am_ldI_mono {L : List Value} {k : Nat} {F F' : Value → Prop} (h : ∀ v, F v → F' v) : am_ldI L k F → am_ldI L k F' := by
  unfold am_ldI; split
  · exact h _
  · exact id
theorem am_ldL_mono {L : List Value} {k : Nat} {F F' : Value → Prop} (h : ∀ v, F v → F' v) : am_ldL L k F → am_ldL L k F' := by
  unfold am_ldL; split
  · exact h _
  · exact id
theorem am_ldA_mono {L : List Value} {k : Nat} {F F' : Value → Prop} (h : ∀ v, F v → F' v) : am_ldA L k F → am_ldA L k F' := by
  unfold am_ldA; split
  · exact h _
  · exact h _
  · exact id
theorem am_stI_mono {L st : List Value} {k : Nat} {F F' : List Value → List Value → Prop} (h : ∀ a b, F a b → F' a b) : am_stI L k st F → am_stI L k st F' := by
  unfold am_stI; split
  · exact h _ _
  · exact id
theorem am_stL_mono {L st : List Value} {k : Nat} {F F' : List Value → List Value → Prop} (h : ∀ a b, F a b → F' a b) : am_stL L k st F → am_stL L k st F' := by
  unfold am_stL; split
  · exact h _ _
  · exact id
theorem am_stA_mono {L st : List Value} {k : Nat} {F F' : List Value → List Value → Prop} (h : ∀ a b, F a b → F' a b) : am_stA L k st F → am_stA L k st F' := by
  unfold am_stA; split
  · exact h _ _
  · exact h _ _
  · exact id
theorem am_i1_mono {st : List Value} {F F' : Int32 → List Value → Prop} (h : ∀ a b, F a b → F' a b) : am_i1 st F → am_i1 st F' := by
  unfold am_i1; split
  · exact h _ _
  · exact id
theorem am_i2_mono {st : List Value} {F F' : Int32 → Int32 → List Value → Prop} (h : ∀ a b c, F a b c → F' a b c) : am_i2 st F → am_i2 st F' := by
  unfold am_i2; split
  · exact h _ _ _
  · exact id
theorem am_l1_mono {st : List Value} {F F' : Int64 → List Value → Prop} (h : ∀ a b, F a b → F' a b) : am_l1 st F → am_l1 st F' := by
  unfold am_l1; split
  · exact h _ _
  · exact id
theorem am_l2_mono {st : List Value} {F F' : Int64 → Int64 → List Value → Prop} (h : ∀ a b c, F a b c → F' a b c) : am_l2 st F → am_l2 st F' := by
  unfold am_l2; split
  · exact h _ _ _
  · exact id
theorem am_li_mono {st : List Value} {F F' : Int64 → Int32 → List Value → Prop} (h : ∀ a b c, F a b c → F' a b c) : am_li st F → am_li st F' := by
  unfold am_li; split
  · exact h _ _ _
  · exact id
theorem am_inv_mono (hC : am_mC C) (hR : ∀ pc L st M, R pc L st M → R' pc L st M) {y kn pc : Nat} {L st : List Value} {M : am_M} : am_inv P E lim C R y kn pc L st M → am_inv P E lim C R' y kn pc L st M := by
  unfold am_inv; split
  · rintro ⟨h1, h2, h3⟩
    exact ⟨h1, h2, hC _ _ _ _ _ (fun r M' h => hR _ _ _ _ h) h3⟩
  · exact id
theorem am_obj_mono (hR : ∀ pc L st M, R pc L st M → R' pc L st M) {pc : Nat} {L st : List Value} {M : am_M} : am_obj R pc L st M → am_obj R' pc L st M := by
  unfold am_obj; split
  · split
    · exact hR _ _ _ _
    · exact id
  · exact id
theorem am_cpy_mono (hR : ∀ pc L st M, R pc L st M → R' pc L st M) {pc : Nat} {L st : List Value} {M : am_M} : am_cpy R pc L st M → am_cpy R' pc L st M := by
  unfold am_cpy; split
  · split
    · rintro ⟨h1, h2, h3, h4⟩
      refine ⟨h1, h2, h3, ?_⟩
      rcases h4 with ⟨n0, n1, a, b, c, d, e⟩ | ⟨n0, n1, a, b, c, d, e⟩
      · exact Or.inl ⟨n0, n1, a, b, c, d, hR _ _ _ _ e⟩
      · exact Or.inr ⟨n0, n1, a, b, c, d, hR _ _ _ _ e⟩
    · exact id
  · exact id
theorem am_mm_mono (hR : ∀ pc L st M, R pc L st M → R' pc L st M) {f : Int32 → Int32 → Int32} {pc : Nat} {L st : List Value} {M : am_M} : am_mm R f pc L st M → am_mm R' f pc L st M := by
  unfold am_mm; split
  · split
    · exact hR _ _ _ _
    · exact id
  · exact id
theorem am_get_mono (hR : ∀ pc L st M, R pc L st M → R' pc L st M) {f : Nat × Nat} {pc : Nat} {L st : List Value} {M : am_M} : am_get P E R f pc L st M → am_get P E R' f pc L st M := by
  unfold am_get; split
  · rintro ⟨h1, h2⟩
    refine ⟨h1, ?_⟩
    revert h2
    split
    · exact hR _ _ _ _
    · exact hR _ _ _ _
    · rintro ⟨a, h, h3⟩; exact ⟨a, h, hR _ _ _ _ h3⟩
    · exact id
  · exact id
theorem am_getS_mono (hR : ∀ pc L st M, R pc L st M → R' pc L st M) {j pc : Nat} {L st : List Value} {M : am_M} : am_getS E R j pc L st M → am_getS E R' j pc L st M := by
  unfold am_getS; split
  · rintro ⟨i, h1, h2, h3⟩
    refine ⟨i, h1, h2, ?_⟩
    revert h3
    split
    · exact hR _ _ _ _
    · exact hR _ _ _ _
    · exact id
  · exact id
theorem am_put_mono (hR : ∀ pc L st M, R pc L st M → R' pc L st M) {f : Nat × Nat} {pc : Nat} {L st : List Value} {M : am_M} : am_put P own kn R f pc L st M → am_put P own kn R' f pc L st M := by
  unfold am_put; split
  · split
    · rintro ⟨h1, h2, h3⟩; exact ⟨h1, h2, hR _ _ _ _ h3⟩
    · rintro ⟨h1, h3⟩; exact ⟨h1, hR _ _ _ _ h3⟩
    · rintro ⟨h1, h3⟩; exact ⟨h1, hR _ _ _ _ h3⟩
    · exact id
  · exact id
theorem am_step_mono (hC : am_mC C) (hK : ∀ r M, K r M → K' r M) (hR : ∀ pc L st M, R pc L st M → R' pc L st M) {i : Instr} {t pc : Nat} {L st : List Value} {M : am_M} :
    am_step P E own kn ret lim C K R i t pc L st M → am_step P E own kn ret lim C K' R' i t pc L st M := by
  unfold am_step
  split
  case _ => exact hR _ _ _ _
  case _ => exact hR _ _ _ _
  case _ => exact hR _ _ _ _
  case _ => exact hR _ _ _ _
  case _ => exact am_ldI_mono fun _ => hR _ _ _ _
  case _ => exact am_ldI_mono fun _ => hR _ _ _ _
  case _ => exact am_ldL_mono fun _ => hR _ _ _ _
  case _ => exact am_ldL_mono fun _ => hR _ _ _ _
  case _ => exact am_ldA_mono fun _ => hR _ _ _ _
  case _ => exact am_ldA_mono fun _ => hR _ _ _ _
  case _ => exact am_stI_mono fun _ _ => hR _ _ _ _
  case _ => exact am_stI_mono fun _ _ => hR _ _ _ _
  case _ => exact am_stL_mono fun _ _ => hR _ _ _ _
  case _ => exact am_stL_mono fun _ _ => hR _ _ _ _
  case _ => exact am_stA_mono fun _ _ => hR _ _ _ _
  case _ => exact am_stA_mono fun _ _ => hR _ _ _ _
  all_goals first
    | exact am_i2_mono fun _ _ _ => hR _ _ _ _
    | exact am_i2_mono fun _ _ _ h => ⟨h.1, hR _ _ _ _ h.2⟩
    | exact am_l2_mono fun _ _ _ => hR _ _ _ _
    | exact am_l2_mono fun _ _ _ h => ⟨h.1, hR _ _ _ _ h.2⟩
    | exact am_li_mono fun _ _ _ => hR _ _ _ _
    | exact am_i1_mono fun _ _ => hR _ _ _ _
    | exact am_l1_mono fun _ _ => hR _ _ _ _
    | exact hR _ _ _ _
    | exact am_i1_mono fun _ _ h => ⟨fun c => hR _ _ _ _ (h.1 c), fun c => hR _ _ _ _ (h.2 c)⟩
    | exact am_i2_mono fun _ _ _ h => ⟨fun c => hR _ _ _ _ (h.1 c), fun c => hR _ _ _ _ (h.2 c)⟩
    | exact am_i1_mono fun _ _ ⟨t', h1, h2⟩ => ⟨t', h1, hR _ _ _ _ h2⟩
    | exact am_i1_mono fun _ _ ⟨t', h1, h2, h3⟩ => ⟨t', h1, h2, hR _ _ _ _ h3⟩
    | exact am_i1_mono fun _ _ ⟨h1, h2, h3, h4, h5⟩ => ⟨h1, h2, h3, h4, hR _ _ _ _ h5⟩
    | (split <;> first | exact hR _ _ _ _ | exact id)
    | (split <;> first
        | exact am_get_mono hR
        | exact am_getS_mono hR
        | exact am_put_mono hR
        | exact am_cpy_mono hR
        | exact am_mm_mono hR
        | exact am_obj_mono hR
        | exact am_inv_mono hC hR
        | exact id)
    | (split <;> first
        | (rintro ⟨n, h1, h2, h3⟩; exact ⟨n, h1, h2, hR _ _ _ _ h3⟩)
        | (rintro ⟨h1, h2⟩; exact ⟨h1, hR _ _ _ _ h2⟩)
        | (rintro ⟨h1, h2, h3⟩; exact ⟨h1, h2, hR _ _ _ _ h3⟩)
        | (rintro ⟨n, ty, h1, h2⟩; exact ⟨n, ty, h1, hR _ _ _ _ h2⟩)
        | (rintro ⟨n, ty, h1, h2, h3, h4⟩; exact ⟨n, ty, h1, h2, h3, hR _ _ _ _ h4⟩)
        | (rintro ⟨n, ty, a, h1, h2, h3, h4, h5⟩; exact ⟨n, ty, a, h1, h2, h3, h4, hR _ _ _ _ h5⟩)
        | (rintro ⟨j, h1, h2, h3, h4⟩; exact ⟨j, h1, h2, h3, hR _ _ _ _ h4⟩)
        | (rintro (⟨h1, h2⟩ | ⟨j, h1, h2, h3⟩); exact Or.inl ⟨h1, hR _ _ _ _ h2⟩; exact Or.inr ⟨j, h1, h2, hR _ _ _ _ h3⟩)
        | exact am_i1_mono fun _ _ ⟨h1, h2, h3, h4, h5⟩ => ⟨h1, h2, h3, h4, hR _ _ _ _ h5⟩
        | exact am_i2_mono fun _ _ _ ⟨h1, h2, h3, h4, h5, h6, h7⟩ => ⟨h1, h2, h3, h4, h5, h6, hR _ _ _ _ h7⟩
        | exact id)
    | (split <;> first
        | exact hK _ _
        | (rintro ⟨h1, h2⟩; exact ⟨h1, hK _ _ h2⟩)
        | exact id)
    | exact id
/-- one step back -/
theorem am_wp_step {y : Nat} (hC : am_mC C) {pc : Nat} {L st : List Value} {M : am_M} {i : Instr} {n t : Nat} (hc : pCode P y pc = some (i, n, t))
    (h : am_step P E (iOwn (pInf P y)) (iKnd (pInf P y)) (iRet (pInf P y)) lim C K (am_wp P E y lim C K) i t pc L st M) : am_wp P E y lim C K pc L st M := by
  intro R hR
  exact hR _ _ _ _ _ _ _ hc (am_step_mono hC (fun _ _ h => h) (fun pc L st M h => h R hR) h)
theorem am_wp_mono {y : Nat} (hC : am_mC C) (hK : ∀ r M, K r M → K' r M) {pc : Nat} {L st : List Value} {M : am_M} (h : am_wp P E y lim C K pc L st M) : am_wp P E y lim C K' pc L st M := by
  intro R hR
  exact h R fun pc L st M i n t hc hs => hR _ _ _ _ _ _ _ hc (am_step_mono hC hK (fun _ _ _ _ h => h) hs)
theorem am_call_mono : ∀ d : Nat, am_mC (am_call P E d)
  | 0 => fun _ _ _ _ _ _ h => h
  | d + 1 => fun y as M K K' hK h => ⟨h.1, h.2.1, h.2.2.1, am_wp_mono (am_call_mono d) (fun r M' h => ⟨h.1, h.2.1, hK _ _ h.2.2⟩) h.2.2.2⟩
end
