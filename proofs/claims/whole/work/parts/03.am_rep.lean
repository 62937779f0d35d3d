/-! What the small machine's memory is on the heap. -/
def am_cv (base : Nat) (tv : Nat → Value) (v : Value) : Value := match v with
  | .ref k => .ref (base + k)
  | .retAddr n => tv n
  | v => v
def am_val (base : Nat) (ty : FieldType) (M : am_M) (k j : Nat) : Value := match am_kd ty with
  | 0 => .int (M.2.1 k j)
  | 1 => .long (M.2.2 k j)
  | _ => match M.1.2 k j with
    | some a => .ref (base + a)
    | none => .null
def am_at (base : Nat) (D : va_G) (cl : List vw_C) (aC : FieldType → Option ClassId) (P : am_P) (M : am_M) (H : Heap) (k : Nat) (q : am_Shp) : Prop := match q with
  | .inl ci => ∃ r : vw_C, cl[ci]? = some r ∧ t_OB (base + k) (D.1 ci) r.2.2 (D.2 ci) H (fun j => am_val base (pTy P ci j) M k j)
  | .inr (ty, n) => ∃ cA, aC ty = some cA ∧ H[base + k]? = some (arrV cA n (fun j => am_val base ty M k j))
def am_Rep (base : Nat) (D : va_G) (cl : List vw_C) (aC : FieldType → Option ClassId) (P : am_P) (M : am_M) (H : Heap) : Prop :=
  H.size = base + M.1.1.length ∧ (∀ (k : Nat) (q : am_Shp), M.1.1[k]? = some q → am_at base D cl aC P M H k q) ∧ ∀ k, M.1.1.length ≤ k → ∀ j, M.2.1 k j = 0 ∧ M.2.2 k j = 0 ∧ M.1.2 k j = none
theorem am_val_congr {base : Nat} {ty : FieldType} {M M' : am_M} {k j : Nat} (h1 : M'.2.1 k j = M.2.1 k j) (h2 : M'.2.2 k j = M.2.2 k j) (h3 : M'.1.2 k j = M.1.2 k j) : am_val base ty M' k j = am_val base ty M k j := by
  unfold am_val; rw [h1, h2, h3]
theorem am_at_congr {base : Nat} {D : va_G} {cl : List vw_C} {aC : FieldType → Option ClassId} {P : am_P} {M M' : am_M} {H H' : Heap} {k : Nat} {q : am_Shp} (h : am_at base D cl aC P M H k q) (hH : H'[base + k]? = H[base + k]?) (hv : ∀ j, M'.2.1 k j = M.2.1 k j ∧ M'.2.2 k j = M.2.2 k j ∧ M'.1.2 k j = M.1.2 k j) : am_at base D cl aC P M' H' k q := by
  have e : ∀ (ty : FieldType) (j : Nat), am_val base ty M' k j = am_val base ty M k j := fun ty j => am_val_congr (hv j).1 (hv j).2.1 (hv j).2.2
  cases q with
  | inl ci =>
    obtain ⟨r, h1, h2⟩ := h
    exact ⟨r, h1, (h2.kept hH).to fun j _ => (e _ j).symm⟩
  | inr a =>
    obtain ⟨ty, n⟩ := a
    obtain ⟨cA, h1, h2⟩ := h
    refine ⟨cA, h1, ?_⟩
    rw [hH, h2]
    congr 2
    funext j
    exact (e ty j).symm
/-- one cell is written -/
theorem am_Rep.put {base : Nat} {D : va_G} {cl : List vw_C} {aC : FieldType → Option ClassId} {P : am_P} {M M' : am_M} {H H' : Heap} {k0 : Nat} {q0 : am_Shp} (h : am_Rep base D cl aC P M H) (hs : M'.1.1 = M.1.1) (hq : M.1.1[k0]? = some q0)
    (hv : ∀ k, k ≠ k0 → ∀ j, M'.2.1 k j = M.2.1 k j ∧ M'.2.2 k j = M.2.2 k j ∧ M'.1.2 k j = M.1.2 k j) (hz : H'.size = H.size) (ho : ∀ q, q ≠ base + k0 → H'[q]? = H[q]?) (ha : am_at base D cl aC P M' H' k0 q0) : am_Rep base D cl aC P M' H' := by
  obtain ⟨h1, h2, h3⟩ := h
  refine ⟨by rw [hz, h1, hs], fun k q hk => ?_, fun k hk j => ?_⟩
  · rw [hs] at hk
    by_cases e : k = k0
    · subst e
      cases hq.symm.trans hk
      exact ha
    · exact am_at_congr (h2 k q hk) (ho _ (by omega)) (hv k e)
  · rw [hs] at hk
    have hlt : k0 < M.1.1.length := (List.getElem?_eq_some_iff.mp hq).1
    have e : k ≠ k0 := by omega
    obtain ⟨a, b, c⟩ := hv k e j
    obtain ⟨a', b', c'⟩ := h3 k hk j
    exact ⟨a.trans a', b.trans b', c.trans c'⟩
/-- one cell is made -/
theorem am_Rep.new {base : Nat} {D : va_G} {cl : List vw_C} {aC : FieldType → Option ClassId} {P : am_P} {M : am_M} {H H' : Heap} {q0 : am_Shp} (h : am_Rep base D cl aC P M H) (hz : H'.size = H.size + 1) (ho : ∀ q, q < H.size → H'[q]? = H[q]?) (ha : am_at base D cl aC P M H' M.1.1.length q0) : am_Rep base D cl aC P (am_push M q0) H' := by
  obtain ⟨h1, h2, h3⟩ := h
  refine ⟨by simp [am_push, hz, h1]; omega, fun k q hk => ?_, fun k hk j => ?_⟩
  · have hk' : (M.1.1 ++ [q0])[k]? = some q := hk
    by_cases e : k < M.1.1.length
    · rw [List.getElem?_append_left e] at hk'
      exact am_at_congr (h2 k q hk') (ho _ (by omega)) (fun j => ⟨rfl, rfl, rfl⟩)
    · have hl : k < (M.1.1 ++ [q0]).length := (List.getElem?_eq_some_iff.mp hk').1
      simp at hl
      have e2 : k = M.1.1.length := by omega
      subst e2
      simp at hk'
      subst hk'
      exact am_at_congr ha rfl (fun j => ⟨rfl, rfl, rfl⟩)
  · have hk' : (M.1.1 ++ [q0]).length ≤ k := hk
    simp at hk'
    exact h3 k (by omega) j
theorem am_sz_push (P : am_P) (M : am_M) (q : am_Shp) : am_sz P (am_push M q) = am_sz P M + am_szq P q := by
  simp [am_sz, am_push]
/-! locals -/
def am_LH (base : Nat) (tv : Nat → Value) (ls : Array Slot) (L : List Value) : Prop := ls.size = L.length ∧ lv_wf ls ∧ ∀ (i : Nat) (v : Value), L[i]? = some v → am_isv v = true → ls[i]? = some (.val (am_cv base tv v))
def am_tvok (tv : Nat → Value) : Prop := ∀ n, tv n = .null ∨ ∃ a, tv n = .ref a
theorem am_cat1 {base : Nat} {tv : Nat → Value} (ht : am_tvok tv) {v : Value} (hv : am_isv v = true) (hl : ∀ x, v ≠ .long x) : (am_cv base tv v).category = 1 := by
  cases v with
  | int x => rfl
  | long x => exact absurd rfl (hl x)
  | ref x => rfl
  | retAddr n =>
    show (tv n).category = 1
    rcases ht n with h | ⟨a, h⟩ <;> rw [h] <;> rfl
  | _ => cases hv
def am_prs (base : Nat) (tv : Nat → Value) (L : List Value) : List (Nat × Value) := (List.range L.length).filterMap fun i => match L[i]? with
  | some v => if am_isv v = true then some (i, am_cv base tv v) else none
  | none => none
theorem am_prs_mem {base : Nat} {tv : Nat → Value} {L : List Value} {i : Nat} {v : Value} (h : L[i]? = some v) (hv : am_isv v = true) : (i, am_cv base tv v) ∈ am_prs base tv L := by
  refine List.mem_filterMap.mpr ⟨i, List.mem_range.mpr (List.getElem?_eq_some_iff.mp h).1, ?_⟩
  simp [h, hv]
theorem am_LH.has {base : Nat} {tv : Nat → Value} {ls : Array Slot} {L : List Value} (h : am_LH base tv ls L) : lv_has ls L.length (am_prs base tv L) := by
  refine ⟨h.1, h.2.1, fun q hq => ?_⟩
  obtain ⟨i, -, hi⟩ := List.mem_filterMap.mp hq
  split at hi
  · next v hv =>
    split at hi
    · next hs => cases hi; exact h.2.2 i v hv hs
    · cases hi
  · cases hi
theorem am_LH.set {base : Nat} {tv : Nat → Value} {ls' : Array Slot} {L : List Value} {k : Nat} {v : Value} (ht : am_tvok tv) (hv : am_isv v = true)
    (h : lv_has ls' L.length ((k, am_cv base tv v) :: (am_prs base tv L).filter (fun q => !(q.1 == k) && !(q.1 + 1 == k && q.2.category == 2)))) : am_LH base tv ls' (am_set L k v) := by
  have hlen : (am_set L k v).length = L.length := by
    unfold am_set; split
    · simp
    · split <;> simp
  refine ⟨by rw [hlen]; exact h.1, h.2.1, fun i u hi hu => ?_⟩
  have head : ls'[k]? = some (.val (am_cv base tv v)) := h.2.2 (k, am_cv base tv v) List.mem_cons_self
  have rest : L[i]? = some u → i ≠ k → ¬ (i + 1 = k ∧ (am_cv base tv u).category = 2) → ls'[i]? = some (.val (am_cv base tv u)) := fun h1 h2 h3 => by
    refine h.2.2 (i, am_cv base tv u) (List.mem_cons_of_mem _ (List.mem_filter.mpr ⟨am_prs_mem h1 hu, ?_⟩))
    simp only [Bool.and_eq_true, Bool.not_eq_true', beq_eq_false_iff_ne]
    refine ⟨h2, ?_⟩
    by_cases e : i + 1 = k
    · have : ¬ (am_cv base tv u).category = 2 := fun z => h3 ⟨e, z⟩
      simp [e, this]
    · simp [e]
  unfold am_set at hi
  split at hi
  · by_cases e : i = 0
    · subst e
      rw [List.getElem?_set] at hi
      simp at hi
      obtain ⟨-, rfl⟩ := hi
      exact head
    · rw [List.getElem?_set_ne (by omega)] at hi
      exact rest hi (by omega) (by omega)
  · next j =>
    split at hi
    · by_cases e : i = j + 1
      · subst e
        rw [List.getElem?_set] at hi
        simp at hi
        obtain ⟨-, rfl⟩ := hi
        exact head
      · rw [List.getElem?_set_ne (by omega)] at hi
        by_cases e2 : i = j
        · subst e2
          rw [List.getElem?_set] at hi
          simp at hi
          obtain ⟨-, rfl⟩ := hi
          cases hu
        · rw [List.getElem?_set_ne (by omega)] at hi
          exact rest hi e (by omega)
    · next hno =>
      by_cases e : i = j + 1
      · subst e
        rw [List.getElem?_set] at hi
        simp at hi
        obtain ⟨-, rfl⟩ := hi
        exact head
      · rw [List.getElem?_set_ne (by omega)] at hi
        refine rest hi e fun ⟨z, z2⟩ => ?_
        have e2 : i = j := by omega
        subst e2
        have hl : ∀ x, u ≠ .long x := fun x hx => hno x (by rw [hi, hx])
        have := am_cat1 (base := base) ht hu hl
        omega
theorem am_LH.set2 {base : Nat} {tv : Nat → Value} {ls' : Array Slot} {L : List Value} {k : Nat} {v : Value} (ht : am_tvok tv) (hv : am_isv v = true)
    (h : lv_has ls' L.length ((k, am_cv base tv v) :: (am_prs base tv L).filter (fun q => !(q.1 == k) && (!(q.1 == k + 1) && !(q.1 + 1 == k && q.2.category == 2))))) : am_LH base tv ls' (am_set2 L k v) := by
  have hlen : (am_set L k v).length = L.length := by
    unfold am_set; split
    · simp
    · split <;> simp
  refine ⟨by simp [am_set2, hlen]; exact h.1, h.2.1, fun i u hi hu => ?_⟩
  have head : ls'[k]? = some (.val (am_cv base tv v)) := h.2.2 (k, am_cv base tv v) List.mem_cons_self
  have rest : L[i]? = some u → i ≠ k → i ≠ k + 1 → ¬ (i + 1 = k ∧ (am_cv base tv u).category = 2) → ls'[i]? = some (.val (am_cv base tv u)) := fun h1 h2 h4 h3 => by
    refine h.2.2 (i, am_cv base tv u) (List.mem_cons_of_mem _ (List.mem_filter.mpr ⟨am_prs_mem h1 hu, ?_⟩))
    simp only [Bool.and_eq_true, Bool.not_eq_true', beq_eq_false_iff_ne]
    refine ⟨h2, h4, ?_⟩
    by_cases e : i + 1 = k
    · have : ¬ (am_cv base tv u).category = 2 := fun z => h3 ⟨e, z⟩
      simp [e, this]
    · simp [e]
  unfold am_set2 at hi
  by_cases ek : i = k + 1
  · subst ek
    rw [List.getElem?_set] at hi
    simp at hi
    obtain ⟨-, rfl⟩ := hi
    cases hu
  rw [List.getElem?_set_ne (by omega)] at hi
  unfold am_set at hi
  split at hi
  · by_cases e : i = 0
    · subst e
      rw [List.getElem?_set] at hi
      simp at hi
      obtain ⟨-, rfl⟩ := hi
      exact head
    · rw [List.getElem?_set_ne (by omega)] at hi
      exact rest hi (by omega) ek (by omega)
  · next j =>
    split at hi
    · by_cases e : i = j + 1
      · subst e
        rw [List.getElem?_set] at hi
        simp at hi
        obtain ⟨-, rfl⟩ := hi
        exact head
      · rw [List.getElem?_set_ne (by omega)] at hi
        by_cases e2 : i = j
        · subst e2
          rw [List.getElem?_set] at hi
          simp at hi
          obtain ⟨-, rfl⟩ := hi
          cases hu
        · rw [List.getElem?_set_ne (by omega)] at hi
          exact rest hi e ek (by omega)
    · next hno =>
      by_cases e : i = j + 1
      · subst e
        rw [List.getElem?_set] at hi
        simp at hi
        obtain ⟨-, rfl⟩ := hi
        exact head
      · rw [List.getElem?_set_ne (by omega)] at hi
        refine rest hi e ek fun ⟨z, z2⟩ => ?_
        have e2 : i = j := by omega
        subst e2
        have hl : ∀ x, u ≠ .long x := fun x hx => hno x (by rw [hi, hx])
        have := am_cat1 (base := base) ht hu hl
        omega
theorem am_sl_lg {base : Nat} {tv : Nat → Value} (ht : am_tvok tv) : ∀ as : List Value, as.all am_isv = true → (am_sl as).length = (lg_sl (as.map (am_cv base tv))).length ∧ ∀ (i : Nat) (v : Value), (am_sl as)[i]? = some v → am_isv v = true → (lg_sl (as.map (am_cv base tv)))[i]? = some (.val (am_cv base tv v))
  | [], _ => ⟨rfl, fun i v h => by simp [am_sl] at h⟩
  | a :: as, h => by
    simp only [List.all_cons, Bool.and_eq_true] at h
    obtain ⟨ha, hs⟩ := h
    obtain ⟨i1, i2⟩ := am_sl_lg (base := base) ht as hs
    have hcons : lg_sl ((a :: as).map (am_cv base tv)) = (if (am_cv base tv a).category = 2 then [.val (am_cv base tv a), .second] else [.val (am_cv base tv a)]) ++ lg_sl (as.map (am_cv base tv)) := by simp [lg_sl]
    by_cases hl : ∃ x, a = .long x
    · obtain ⟨x, rfl⟩ := hl
      have e1 : (am_cv base tv (.long x)).category = 2 := rfl
      rw [hcons, if_pos e1]
      have e2 : am_sl (.long x :: as) = .long x :: am_mk :: am_sl as := rfl
      rw [e2]
      refine ⟨by simp [i1], fun i v hi hv => ?_⟩
      match i, hi with
      | 0, hi => simp at hi; subst hi; rfl
      | 1, hi => simp at hi; subst hi; cases hv
      | i + 2, hi =>
        simp at hi
        simp
        exact i2 i v hi hv
    · have hl' : ∀ x, a ≠ .long x := fun x e => hl ⟨x, e⟩
      have e1 := am_cat1 (base := base) ht ha hl'
      rw [hcons, if_neg (by omega)]
      have e2 : am_sl (a :: as) = a :: am_sl as := by
        cases a <;> first | rfl | exact absurd rfl (hl' _)
      rw [e2]
      refine ⟨by simp [i1], fun i v hi hv => ?_⟩
      match i, hi with
      | 0, hi => simp at hi; subst hi; rfl
      | i + 1, hi =>
        simp at hi
        simp
        exact i2 i v hi hv
theorem am_LH.ent {base : Nat} {tv : Nat → Value} (ht : am_tvok tv) {as : List Value} {n : Nat} (h : as.all am_isv = true) (hn : (am_sl as).length ≤ n) : am_LH base tv ((lg_sl (as.map (am_cv base tv)) ++ List.replicate (n - (lg_sl (as.map (am_cv base tv))).length) Slot.unset).toArray) (am_ent n as) := by
  obtain ⟨i1, i2⟩ := am_sl_lg (base := base) ht as h
  have he := lv_entry (as.map (am_cv base tv)) (n := n) (by rw [← i1]; exact hn)
  refine ⟨?_, he.2.1, fun i v hi hv => ?_⟩
  · rw [he.1]
    simp [am_ent]; omega
  · unfold am_ent at hi
    by_cases e : i < (am_sl as).length
    · rw [List.getElem?_append_left e] at hi
      rw [List.getElem?_toArray, List.getElem?_append_left (by rw [← i1]; exact e)]
      exact i2 i v hi hv
    · rw [List.getElem?_append_right (by omega)] at hi
      have := List.mem_replicate.mp (List.mem_of_getElem? hi)
      rw [this.2] at hv
      cases hv
