/-! Tokens, by the reference: words, names, what is wanted. -/
def toM : Nat → Nat
  | 0 => 0
  | w + 1 => iot w + 1
def MT (c : Nat → Nat) (n p i : Nat) : Prop := tkE c n p - tkS c n p = ken i - kst i ∧ ∀ t, t < ken i - kst i → c (tkS c n p + t) = kch (kst i + t)
theorem MT_iff {c : Nat → Nat} {n p i : Nat} (hp : p ≤ n) (hK : tkK c n p = 0) (hi : i < 22) : MT c n p i ↔ tkC c n p = kwc (kap i) := by
  obtain ⟨a1, a2, a3, a4, a5, a6, a7, a8, a9, a10⟩ := kw_tab i hi
  obtain ⟨w1, w2, w3, w4⟩ := tkK_word hK
  have he := tkE_le (c := c) hp
  constructor
  · intro h
    unfold tkC
    rw [if_pos ⟨hK, by rw [h.1]; omega⟩, ← a6, h.1]
    exact cdg_cong _ h.2
  · intro h
    unfold tkC at h
    split at h
    · next q =>
      rw [← a6] at h
      obtain ⟨e1, e2⟩ := cdg_inj _ _ (fun t ht => w4 _ (by omega) (by omega)) (fun t ht => kw_let i hi (kst i + t) (by omega) (by omega) (by omega)) h
      exact ⟨e1, fun t ht => e2 t (by omega)⟩
    · have := (kwc_pos (kap i) a7).1
      omega
theorem toM_hit {c : Nat → Nat} {n p i : Nat} (hK : tkK c n p = 0) (hi : i < 22) (h : tkC c n p = kwc (kap i)) : toM (tkW c n p) = i + 1 := by
  obtain ⟨a1, a2, a3, a4, a5, a6, a7, a8, a9, a10⟩ := kw_tab i hi
  unfold tkW
  rw [if_pos hK, kwL_eq h a7 (Nat.le_refl _)]
  show iot (kap i) + 1 = i + 1
  rw [a8]
theorem tkW_none {c : Nat → Nat} {n p : Nat} (h : ∀ i, i < 22 → ¬ tkC c n p = kwc (kap i)) : tkW c n p = 0 := by
  unfold tkW
  split
  · match e : kwL (tkC c n p) 22 with
    | 0 => rfl
    | j + 1 =>
      obtain ⟨e1, e2⟩ := kwL_inv e
      obtain ⟨a1, a2, a3, a4, a5, a6, a7, a8, a9, a10⟩ := kw_tab j e2
      exact absurd (by rw [a10]; exact e1) (h (iot j) a9)
  · rfl
theorem tmK_eq {k v : Nat} (hk : k ≤ 4) : (tmK k = 0 ↔ k = 3) ∧ (tmK k = 1 ↔ k = 4) ∧ (tmK k = 2 ↔ k = 0) ∧ (tmK k = 3 ↔ k = 1) ∧ (tmK k = 4 ↔ k = 2) := by
  have : k = 0 ∨ k = 1 ∨ k = 2 ∨ k = 3 ∨ k = 4 := by omega
  rcases this with rfl | rfl | rfl | rfl | rfl <;> decide
theorem tm_eq {c : Nat → Nat} {n p v : Nat} (hv : v ≤ 4) : (nI (tmK (tkK c n p)) = nI v) ↔ tmK (tkK c n p) = v := by
  have := tmK_le (tkK c n p)
  rw [ni_eq (by omega) (by omega)]
theorem s_inWords {E : am_E} {d : Nat} {K : am_K} {mi : Nat → Nat → Int32} {ml : Nat → Nat → Int64} {c : Nat → Nat} {n p : Nat} (hE : EK E) (hT : TXm c n mi) (hM : TM c n p mi) (hp : p ≤ n) (hk : K (some (.int (nP (toM (tkW c n p))))) (S0, mi, ml)) : cq E (d + 6) 207 [.ref 106, .retAddr 4] K mi ml := by
  have hn := hT.1
  have hs := tkS_le (c := c) hp
  have he := tkE_le (c := c) hp
  obtain ⟨m1, m2, m3, m4, m5⟩ := hM
  have hk4 := tmK_eq (v := 0) (tkK_le c n p)
  apply en_X10_inWords
  rw [m3, tm_eq (by omega), hk4.2.2.1]
  refine ⟨fun hK => ?_, fun hK => by unfold tkW at hk; rw [if_neg hK] at hk; exact hk⟩
  have key : ∀ i, i ≤ 22 → (∀ j, j < i → ¬ tkC c n p = kwc (kap j)) → rn E (d + 5) 207 K 14 [.ref 106, .retAddr 4, .int (nI i), .int (nI (kst i)), am_mk, am_mk, am_mk] [] mi ml := by
    refine dn_ind 22 (fun i hi ih hno => ?_)
    apply rg_X10_inWords_14 hE.1
    apply s_len hE
    apply rg_X10_inWords_19
    by_cases e : i = 22
    · subst e
      rw [show kst 22 = 121 from rfl]
      refine br_t (by decide) ?_
      rw [tkW_none hno] at hk; exact hk
    have hi2 : i < 22 := by omega
    obtain ⟨a1, a2, a3, a4, a5, a6, a7, a8, a9, a10⟩ := kw_tab i hi2
    rw [ni_le (by omega) (by omega)]
    refine br_f (by omega) ?_
    have next : ¬ MT c n p i → rn E (d + 5) 207 K 14 [.ref 106, .retAddr 4, .int (nI i + nI 1), .int (nI (ken i) + nI 1), am_mk, am_mk, am_mk] [] mi ml := fun h => by
      rw [nI_add, nI_add, ← a3]
      refine ih hi2 (fun j hj => ?_)
      by_cases ej : j = i
      · subst ej; exact fun z => h ((MT_iff hp hK hi2).mpr z)
      · exact hno j (by omega)
    -- the letters
    have cmp : ∀ t, t ≤ ken i → kst i ≤ t → ∀ b, b ≤ 1 → (b = 0 → ¬ MT c n p i) → (b = 1 → tkE c n p - tkS c n p = ken i - kst i ∧ ∀ u, kst i ≤ u → u < t → kch u = c (tkS c n p + (u - kst i))) → rn E (d + 5) 207 K 68 [.ref 106, .retAddr 4, .int (nI i), .int (nI (kst i)), .int (nI (ken i)), .int (nI b), .int (nI t)] [] mi ml := by
      refine dn_ind (ken i) (fun t ht iht hkt b hb h0 h1 => ?_)
      apply rg_X10_inWords_68 hE.1
      rw [ni_le (by omega) (by omega), ni_eq (by omega) (by omega)]
      refine ⟨fun q => ⟨fun q2 => next (h0 q2), fun q2 => ?_⟩, fun q => ⟨fun q2 => br_t q2 (next (h0 q2)), fun q2 => ?_⟩⟩
      · have ht2 : t = ken i := by omega
        obtain ⟨z1, z2⟩ := h1 (by omega)
        have hm : MT c n p i := ⟨z1, fun u hu => by
          have := z2 (kst i + u) (by omega) (by omega)
          rw [show kst i + u - kst i = u by omega] at this
          exact this.symm⟩
        rw [toM_hit hK hi2 ((MT_iff hp hK hi2).mp hm)] at hk
        exact hk
      · obtain ⟨z1, z2⟩ := h1 (by omega)
        apply s_chr hE (by omega)
        apply rg_X10_inWords_86
        rw [m1, nI_add, ni_sub (by omega)]
        apply s_byteAt hT (by omega)
        apply rg_X10_inWords_99
        have hlt : tkS c n p + t - kst i < n := by omega
        have hc := (hT.2.2 _ hlt).1
        have hch := kch_lt t (by omega)
        unfold bA
        rw [if_pos hlt, nI_add, ni_eq (by omega) (by omega)]
        have et : tkS c n p + t - kst i = tkS c n p + (t - kst i) := by omega
        refine ⟨fun q3 => iht (by omega) (by omega) 0 (by omega) (fun _ z => ?_) (fun z => by omega), fun q3 => iht (by omega) (by omega) 1 (by omega) (fun z => by omega) (fun _ => ⟨z1, fun u u1 u2 => ?_⟩)⟩
        · have := z.2 (t - kst i) (by omega)
          rw [show kst i + (t - kst i) = t by omega, ← et] at this
          exact q3 this.symm
        · by_cases eu : u = t
          · subst eu; rw [← et]; exact Classical.byContradiction q3
          · exact z2 u u1 (by omega)
    -- the word's end
    have wend : ∀ j, j ≤ ken i → kst i ≤ j → rn E (d + 5) 207 K 25 [.ref 106, .retAddr 4, .int (nI i), .int (nI (kst i)), .int (nI j), am_mk, am_mk] [] mi ml := by
      refine dn_ind (ken i) (fun j hj ihj hkj => ?_)
      apply rg_X10_inWords_25 hE.1
      apply s_chr hE (by omega)
      apply rg_X10_inWords_31
      have hch := kch_lt j (by omega)
      rw [ni_eq (by omega) (by omega), m1, m2, ni_sub (by omega), ni_sub (by omega), ni_eq (by omega) (by omega), nI_add]
      by_cases ej : j = ken i
      · subst ej
        refine br_t a4 ⟨fun q => cmp _ (by omega) (Nat.le_refl _) 0 (by omega) (fun _ z => q z.1.symm) (fun z => by omega), fun q => cmp _ (by omega) (Nat.le_refl _) 1 (by omega) (fun z => by omega) (fun _ => ⟨(Classical.byContradiction q).symm, fun u u1 u2 => by omega⟩)⟩
      · have := kw_let i hi2 j (by omega) hkj (by omega)
        exact br_f (by omega) (ihj (by omega) (by omega))
    exact wend (kst i) (by omega) (Nat.le_refl _)
  exact key 0 (by omega) (fun j hj => by omega)
/-! what fails -/
def frY (f g : Nat → Nat → Int32) : Prop := ∀ k j, ¬ (k = 106 ∧ 12 ≤ j ∧ j ≤ 18 ∧ j ≠ 16) → g k j = f k j
theorem frY_M {f g : Nat → Nat → Int32} (h : frM f g) : frY f g := fun k j z => h k j (by omega)
theorem frY_tr {f g h : Nat → Nat → Int32} (h1 : frY f g) (h2 : frY g h) : frY f h := fun k j z => by rw [h2 k j z, h1 k j z]
def FLM (k s : Nat) (mi : Nat → Nat → Int32) : Prop := mi 106 18 = nI k ∧ mi 106 17 = nI s
theorem s_fails {E : am_E} {d : Nat} {K : am_K} {mi : Nat → Nat → Int32} {ml : Nat → Nat → Int64} {c : Nat → Nat} {n p k : Nat} (hM : TM c n p mi) (h18 : mi 106 18 = nI 0) (hk : ∀ mi', frY mi mi' → FLM (badK c n p k) (tkS c n p) mi' → K (some (.int (nI 0))) (S0, mi', ml)) : cq E (d + 1) 208 [.ref 106, .int (nI k)] K mi ml := by
  obtain ⟨m1, m2, m3, m4, m5⟩ := hM
  have hk4 := tmK_eq (v := 0) (tkK_le c n p)
  apply en_X10_fails
  rw [h18, m3, tm_eq (by omega), hk4.2.1]
  refine br_f (fun z => z rfl) ⟨fun q => hk _ (fun k j z => by rw [si_f (by omega), si_f (by omega)]) ⟨?_, ?_⟩, fun q => hk _ (fun k j z => by rw [si_f (by omega), si_f (by omega)]) ⟨?_, ?_⟩⟩
  · rw [si_f (by omega), si_t ⟨rfl, rfl⟩, badK_n q]
  · rw [si_t ⟨rfl, rfl⟩, si_f (by omega), m1]
  · rw [si_f (by omega), si_t ⟨rfl, rfl⟩, badK_4 (Classical.byContradiction q)]
  · rw [si_t ⟨rfl, rfl⟩, si_f (by omega), m1]
/-- on to the next token -/
theorem s_next {E : am_E} {d : Nat} {K : am_K} {mi : Nat → Nat → Int32} {ml : Nat → Nat → Int64} {c : Nat → Nat} {n p : Nat} (hT : TXm c n mi) (hM : TM c n p mi) (hp : p ≤ n) (hk : ∀ mi', frM mi mi' → TM c n (tkE c n p) mi' → K none (S0, mi', ml)) : cq E (d + 2) 205 [.ref 106] K mi ml :=
  s_ahead hT (tkE_le hp).2 hM.2.1 hk
theorem s_wantSt {E : am_E} {d : Nat} {K : am_K} {mi : Nat → Nat → Int32} {ml : Nat → Nat → Int64} {c : Nat → Nat} {n p : Nat} (hT : TXm c n mi) (hM : TM c n p mi) (hp : p ≤ n) (h18 : mi 106 18 = nI 0) (h1 : isSt c n p → ∀ mi', frM mi mi' → TM c n (tkE c n p) mi' → K (some (.int (nI 1))) (S0, mi', ml)) (h0 : ¬ isSt c n p → ∀ mi', frY mi mi' → FLM (badK c n p 2) (tkS c n p) mi' → K (some (.int (nI 0))) (S0, mi', ml)) : cq E (d + 3) 210 [.ref 106, .int (nI 59)] K mi ml := by
  have m3 := hM.2.2.1
  have m5 := hM.2.2.2.2
  have hk4 := tmK_eq (v := 0) (tkK_le c n p)
  have bad : ¬ isSt c n p → cq E (d + 2) 208 [.ref 106, .int (nI 2)] (kc E (d + 2) 210 K 13 [am_mk, am_mk] []) mi ml := fun z => by
    apply s_fails (d := d + 1) hM h18
    intro m f h
    apply rg_X10_wantSign_13
    exact ⟨Or.inl rfl, h0 z m f h⟩
  apply en_X10_wantSign
  rw [m3, tm_eq (by omega), hk4.2.2.2.2]
  refine ⟨fun q => bad (fun z => q z.1), fun q => ?_⟩
  have k2 : tkK c n p = 2 := Classical.byContradiction q
  have hs : tkS c n p < n := by
    apply Classical.byContradiction; intro y
    unfold tkK kN at k2
    rw [if_pos (by omega)] at k2; omega
  have hcb := (hT.2.2 _ hs).1
  rw [m5 k2, ni_eq (by omega) (by omega)]
  refine ⟨fun q2 => bad (fun z => q2 z.2), fun q2 => ?_⟩
  apply s_next hT hM hp
  intro m f h
  apply rg_X10_wantSign_18
  exact h1 ⟨k2, Classical.byContradiction q2⟩ m f h
theorem iot_inj : ∀ i, i < 22 → ∀ j, j < 22 → iot i = iot j → i = j := by decide +kernel
theorem toM_iff {c : Nat → Nat} {n p w : Nat} (hw : w < 22) : (nP (toM (tkW c n p)) = nI (iot w)) ↔ tkW c n p = w + 1 := by
  have h22 := tkW_le c n p
  have h2 := (kw_tab w hw).2.2.2.2.2.2.2.2.1
  match e : tkW c n p with
  | 0 =>
    refine ⟨fun z => ?_, fun z => by omega⟩
    exact absurd z (fun z => (nM_ni (a := iot w) (by omega)).mp z)
  | v + 1 =>
    have h3 := (kw_tab v (by omega)).2.2.2.2.2.2.2.2.1
    show nI (iot v) = nI (iot w) ↔ _
    rw [ni_eq (by omega) (by omega)]
    exact ⟨fun z => by rw [iot_inj v (by omega) w hw z], fun z => by rw [show v = w by omega]⟩
theorem s_wantWord {E : am_E} {d : Nat} {K : am_K} {mi : Nat → Nat → Int32} {ml : Nat → Nat → Int64} {c : Nat → Nat} {n p w : Nat} (hE : EK E) (hT : TXm c n mi) (hM : TM c n p mi) (hp : p ≤ n) (h18 : mi 106 18 = nI 0) (hw : w < 22) (h1 : tkW c n p = w + 1 → ∀ mi', frM mi mi' → TM c n (tkE c n p) mi' → K (some (.int (nI 1))) (S0, mi', ml)) (h0 : ¬ tkW c n p = w + 1 → ∀ mi', frY mi mi' → FLM (badK c n p 2) (tkS c n p) mi' → K (some (.int (nI 0))) (S0, mi', ml)) : cq E (d + 7) 211 [.ref 106, .retAddr 4, .int (nI (iot w))] K mi ml := by
  apply en_X10_wantWord
  apply s_inWords hE hT hM hp
  apply rg_X10_wantWord_5
  rw [toM_iff hw]
  refine ⟨fun q => ?_, fun q => ?_⟩
  · apply s_next (d := d + 4) hT hM hp
    intro m f h
    apply rg_X10_wantWord_19
    exact h1 q m f h
  · apply s_fails (d := d + 5) hM h18
    intro m f h
    apply rg_X10_wantWord_14
    exact ⟨Or.inl rfl, h0 q m f h⟩
theorem s_number {E : am_E} {d : Nat} {K : am_K} {mi : Nat → Nat → Int32} {ml : Nat → Nat → Int64} {c : Nat → Nat} {n p to lo hi : Nat} (hT : TXm c n mi) (hM : TM c n p mi) (hp : p ≤ n) (h18 : mi 106 18 = nI 0) (hto : to < 2592) (hlo : lo < 1000) (hhi : hi < 1000) (h1 : isNo c n p lo hi → ∀ mi', frM (am_si mi 107 to (nI (tkV c n p))) mi' → TM c n (tkE c n p) mi' → K (some (.int (nI 1))) (S0, mi', ml)) (h0 : ¬ isNo c n p lo hi → ∀ mi', frY mi mi' → FLM (noK c n p) (tkS c n p) mi' → K (some (.int (nI 0))) (S0, mi', ml)) : cq E (d + 3) 212 [.ref 106, .int (nI to), .int (nI lo), .int (nI hi)] K mi ml := by
  have m3 := hM.2.2.1
  have m4 := hM.2.2.2.1
  have hk4 := tmK_eq (v := 0) (tkK_le c n p)
  apply en_X10_number
  rw [m3, tm_eq (by omega), hk4.2.2.2.1]
  refine ⟨fun q => ?_, fun q => ?_⟩
  · have hv := (tkK_num q).2.1
    have e4 : badK c n p 4 = noK c n p := by unfold noK badK; rw [if_pos q, if_neg (by omega)]
    have bad : ¬ isNo c n p lo hi → cq E (d + 2) 208 [.ref 106, .int (nI 4)] (kc E (d + 2) 212 K 35 [am_mk, am_mk, am_mk, am_mk] []) mi ml := fun z => by
      apply s_fails (d := d + 1) hM h18
      intro m f h
      apply rg_X10_number_35
      rw [e4] at h
      exact ⟨Or.inl rfl, h0 z m f h⟩
    rw [m4 q, ni_lt (by omega) (by omega), ni_le (by omega) (by omega), ni_cl (by omega)]
    refine ⟨fun z => bad (fun y => by have := y.2.1; omega), fun z => ⟨fun z2 => ⟨by rw [ni_in (by omega)]; omega, ?_⟩, fun z2 => bad (fun y => by have := y.2.2; omega)⟩⟩
    apply s_next (TXm_fr hT (fun k j z => si_f (by omega))) (TM_fr hM (fun j z z => si_f (by omega))) hp
    intro m f h
    apply rg_X10_number_50
    exact h1 ⟨q, by omega, z2⟩ m f h
  · apply s_fails (d := d + 1) hM h18
    intro m f h
    apply rg_X10_number_13
    have e2 : badK c n p 2 = noK c n p := by unfold noK; rw [if_neg q]
    rw [e2] at h
    exact ⟨Or.inl rfl, h0 (fun z => q z.1) m f h⟩
theorem isNm_iff {c : Nat → Nat} {n p : Nat} (hp : p ≤ n) : isNm c n p ↔ tkK c n p = 0 ∧ tkE c n p - tkS c n p ≤ 8 ∧ tkW c n p = 0 := by
  unfold isNm
  constructor
  · intro h
    refine ⟨h.1, Classical.byContradiction (fun z => h.2.2 ?_), h.2.1⟩
    unfold tkC; rw [if_neg (fun y => z y.2)]
  · intro h
    refine ⟨h.1, h.2.2, fun z => ?_⟩
    unfold tkC at z
    rw [if_pos ⟨h.1, h.2.1⟩] at z
    obtain ⟨w1, w2, w3, w4⟩ := tkK_word h.1
    have hg := tkE_gt hp (show ¬ tkK c n p = 3 by omega)
    have hlt : tkS c n p < tkE c n p := by
      rw [w3, sc_go w1 w2]
      have := sc_ge (fL c) n (tkS c n p + 1)
      omega
    rw [show tkE c n p - tkS c n p = tkE c n p - tkS c n p - 1 + 1 by omega] at z
    have z' : cdg c (tkS c n p) (tkE c n p - tkS c n p - 1) * 32 + (c (tkS c n p + (tkE c n p - tkS c n p - 1)) - 96) = 0 := z
    have := w4 (tkS c n p + (tkE c n p - tkS c n p - 1)) (by omega) (by omega)
    omega
theorem s_isName {E : am_E} {d : Nat} {K : am_K} {mi : Nat → Nat → Int32} {ml : Nat → Nat → Int64} {c : Nat → Nat} {n p : Nat} (hE : EK E) (hT : TXm c n mi) (hM : TM c n p mi) (hp : p ≤ n) (h1 : isNm c n p → K (some (.int (nI 1))) (S0, mi, ml)) (h0 : ¬ isNm c n p → K (some (.int (nI 0))) (S0, mi, ml)) : cq E (d + 7) 213 [.ref 106, .retAddr 4] K mi ml := by
  have hn := hT.1
  have hs := tkS_le (c := c) hp
  have he := tkE_le (c := c) hp
  obtain ⟨m1, m2, m3, m4, m5⟩ := id hM
  have hk4 := tmK_eq (v := 0) (tkK_le c n p)
  have h22 := tkW_le c n p
  rw [isNm_iff hp] at h1 h0
  apply en_X10_isName
  rw [m3, tm_eq (by omega), hk4.2.2.1, m2, m1, ni_sub (by omega), ni_lt (by omega) (by omega)]
  refine ⟨fun q => h0 (fun z => q z.1), fun q => ⟨fun q2 => h0 (fun z => by have := z.2.1; omega), fun q2 => ?_⟩⟩
  apply s_inWords hE hT hM hp
  apply rg_X10_isName_27
  have e0 : (nP (toM (tkW c n p)) = nM) ↔ tkW c n p = 0 := by
    match e : tkW c n p with
    | 0 => exact ⟨fun _ => rfl, fun _ => rfl⟩
    | v + 1 =>
      have h3 := (kw_tab v (by omega)).2.2.2.2.2.2.2.2.1
      exact ⟨fun z => absurd z (fun z => (ni_nM (a := iot v) (by omega)).mp z), fun z => by omega⟩
  rw [e0]
  exact ⟨fun q3 => h0 (fun z => q3 z.2.2), fun q3 => h1 ⟨Classical.byContradiction q, by omega, Classical.byContradiction q3⟩⟩
theorem lN_shl8 (x : Nat) : lN x <<< (Int32.toInt64 (nI 8) &&& 63) = lN (x * 256) := by
  apply Int64.toBitVec_inj.1
  rw [Int64.toBitVec_shiftLeft]
  rw [show (Int32.toInt64 (nI 8) &&& 63).toBitVec.smod 64 = 8#64 by decide]
  show BitVec.ofNat 64 x <<< 8#64 = BitVec.ofNat 64 (x * 256)
  apply BitVec.eq_of_toNat_eq
  rw [BitVec.shiftLeft_eq', BitVec.toNat_shiftLeft]
  show ((BitVec.ofNat 64 x).toNat <<< 8) % 2 ^ 64 = (BitVec.ofNat 64 (x * 256)).toNat
  rw [BitVec.toNat_ofNat, BitVec.toNat_ofNat]
  rw [Nat.shiftLeft_eq]
  omega
theorem lN_or8 {x y : Nat} (hy : y < 256) : lN (x * 256) ||| lN y = lN (x * 256 + y) := by
  apply Int64.toBitVec_inj.1
  rw [Int64.toBitVec_or]
  show BitVec.ofNat 64 (x * 256) ||| BitVec.ofNat 64 y = BitVec.ofNat 64 (x * 256 + y)
  have e : x * 256 + y = x * 256 ||| y := by
    have := Nat.shiftLeft_add_eq_or_of_lt (i := 8) (b := y) (show y < 2 ^ 8 by omega) x
    rw [Nat.shiftLeft_eq] at this
    exact this
  rw [e]
  apply BitVec.eq_of_getLsbD_eq
  intro i hi
  rw [BitVec.getLsbD_or, BitVec.getLsbD_ofNat, BitVec.getLsbD_ofNat, BitVec.getLsbD_ofNat, Nat.testBit_or]
  simp [hi]
theorem s_nameHere {E : am_E} {d : Nat} {K : am_K} {mi : Nat → Nat → Int32} {ml : Nat → Nat → Int64} {c : Nat → Nat} {n p : Nat} (hT : TXm c n mi) (hM : TM c n p mi) (hp : p ≤ n) (hN : isNm c n p) (hk : K (some (.long (lN (cvn 8 (tkC c n p))))) (S0, mi, ml)) : cq E (d + 2) 214 [.ref 106] K mi ml := by
  have hn := hT.1
  have hs := tkS_le (c := c) hp
  have he := tkE_le (c := c) hp
  obtain ⟨m1, m2, m3, m4, m5⟩ := id hM
  obtain ⟨i1, i2, i3⟩ := (isNm_iff hp).mp hN
  obtain ⟨w1, w2, w3, w4⟩ := tkK_word i1
  have key : ∀ i, i ≤ tkE c n p → tkS c n p ≤ i → rn E (d + 1) 214 K 7 [.ref 106, .long (lN (cm8 c (tkS c n p) (i - tkS c n p))), am_mk, .int (nI i)] [] mi ml := by
    refine dn_ind (tkE c n p) (fun i hi ih his => ?_)
    apply rg_X10_nameHere_7
    rw [m2, ni_le (by omega) (by omega)]
    refine ⟨fun q => ?_, fun q => ?_⟩
    · have e : i = tkE c n p := by omega
      subst e
      unfold tkC at hk
      rw [if_pos ⟨i1, i2⟩, cvn_cdg _ 8 i2 (fun t ht => w4 _ (by omega) (by omega))] at hk
      exact hk
    · apply s_byteAt hT (by omega)
      apply rg_X10_nameHere_24
      have hlt : i < n := by omega
      have hc := (hT.2.2 _ hlt).1
      unfold bA
      rw [if_pos hlt, lN_shl8, nI_l (by omega), lN_or8 hc, nI_add]
      have := ih (by omega) (by omega)
      rw [show i + 1 - tkS c n p = i - tkS c n p + 1 by omega] at this
      have e : cm8 c (tkS c n p) (i - tkS c n p + 1) = cm8 c (tkS c n p) (i - tkS c n p) * 256 + c i := by
        show cm8 c (tkS c n p) (i - tkS c n p) * 256 + c (tkS c n p + (i - tkS c n p)) = _
        rw [show tkS c n p + (i - tkS c n p) = i by omega]
      rw [e] at this
      exact this
  apply en_X10_nameHere
  rw [m1]
  have := key (tkS c n p) he.1 (Nat.le_refl _)
  rw [Nat.sub_self] at this
  exact this
/-- the names from base on are those with codes N -/
def NMm (base : Nat) (N : Nat → Nat) (m : Nat) (ml : Nat → Nat → Int64) : Prop := ∀ k, k < m → N k < 32 ^ 8 ∧ ml 108 (base + k) = lN (cvn 8 (N k))
theorem s_findHere {E : am_E} {d : Nat} {K : am_K} {mi : Nat → Nat → Int32} {ml : Nat → Nat → Int64} {c : Nat → Nat} {n p base m : Nat} {N : Nat → Nat} (hT : TXm c n mi) (hM : TM c n p mi) (hp : p ≤ n) (hI : isNm c n p) (hb : base + m ≤ 84) (hN : NMm base N m ml) (hk : K (some (.int (nP (fnd N (tkC c n p) m)))) (S0, mi, ml)) : cq E (d + 3) 215 [.ref 106, .int (nI base), .int (nI m)] K mi ml := by
  have key : ∀ i, i ≤ m → fnd N (tkC c n p) i = 0 → rn E (d + 2) 215 K 2 [.ref 106, .int (nI base), .int (nI m), .int (nI i)] [] mi ml := by
    refine dn_ind m (fun i hi ih h0 => ?_)
    apply rg_X10_findHere_2
    rw [ni_le (by omega) (by omega), nI_add, ni_cl (by omega)]
    refine ⟨fun q => ?_, fun q => ⟨by rw [ni_in (by omega)]; omega, ?_⟩⟩
    · have : i = m := by omega
      subst this
      rw [h0] at hk; exact hk
    · obtain ⟨n1, n2⟩ := hN i (by omega)
      apply s_nameHere hT hM hp hI
      apply rg_X10_findHere_19
      rw [n2, lgc_eq, pk_lEQ (cvn_8 _) (cvn_8 _), nI_add]
      refine ⟨fun q2 => ih (by omega) (fnd_next h0 (fun z => q2 (by rw [z]))), fun q2 => ?_⟩
      have e := cvn_inj 8 _ _ n1 (tkC_lt c n p) (Classical.byContradiction q2)
      rw [fnd_hit h0 e m (by omega)] at hk
      exact hk
  apply en_X10_findHere
  exact key 0 (by omega) rfl
theorem s_isThere {E : am_E} {d : Nat} {K : am_K} {mi : Nat → Nat → Int32} {ml : Nat → Nat → Int64} {c : Nat → Nat} {n p w : Nat} (hE : EK E) (hT : TXm c n mi) (hM : TM c n p mi) (hp : p ≤ n) (hw : w < 22) (h1 : tkW c n p = w + 1 → ∀ mi', frM mi mi' → TM c n (tkE c n p) mi' → K (some (.int (nI 1))) (S0, mi', ml)) (h0 : ¬ tkW c n p = w + 1 → K (some (.int (nI 0))) (S0, mi, ml)) : cq E (d + 7) 219 [.ref 106, .int (nI (iot w))] K mi ml := by
  apply en_X10_isThere
  apply s_inWords hE hT hM hp
  apply rg_X10_isThere_6
  rw [toM_iff hw]
  refine ⟨fun q => ?_, fun q => h0 q⟩
  apply s_next (d := d + 4) hT hM hp
  intro m f h
  apply rg_X10_isThere_16
  exact h1 q m f h
theorem byt_byt : ∀ c, c < 256 → byt (byt (nI c)) = byt (nI c) := by decide +kernel
theorem s_begins {E : am_E} {d : Nat} {K : am_K} {mi : Nat → Nat → Int32} {ml : Nat → Nat → Int64} {c : Nat → Nat} {n tl most : Nat} {x : Int32} (htl : tl ≤ 900) (hmost : most ≤ 900) (h10 : mi 106 10 = nI tl) (hc : ∀ i, i < tl → c i < 256 ∧ mi 112 i = byt (nI (c i))) (h1 : ∀ n, x = nI n → n ≤ tl → n ≤ most → ∀ mi', (∀ k j, ¬ (k = 106 ∧ 10 ≤ j ∧ j ≤ 19 ∧ j ≠ 16) → k ≠ 113 → mi' k j = mi k j) → TXm c n mi' → TM c n 0 mi' → mi' 106 18 = nI 0 → mi' 106 17 = nM → mi' 106 10 = nI 0 → K (some (.int (nI 1))) (S0, mi', ml)) (h0 : ¬ (∃ n, x = nI n ∧ n ≤ tl ∧ n ≤ most) → K (some (.int (nI 0))) (S0, mi, ml)) : cq E (d + 3) 209 [.ref 106, .int x, .int (nI most)] K mi ml := by
  by_cases hx : ¬ ∃ n, n < 901 ∧ x = nI n
  · apply en_X10_begins
    have hk0 := h0 (fun z => by obtain ⟨n, z1, z2, z3⟩ := z; exact hx ⟨n, by omega, z1⟩)
    rw [h10]
    refine ⟨fun _ => hk0, fun q => ⟨fun _ => hk0, fun q2 => ?_⟩⟩
    obtain ⟨j, hj, rfl⟩ := ni_pos0 q
    rw [ni_lt (by omega) hj] at q2
    exact absurd ⟨j, by omega, rfl⟩ hx
  obtain ⟨n, hn, rfl⟩ := Classical.byContradiction hx
  apply en_X10_begins
  rw [h10, ni_lt (by omega) (by omega), ni_lt (by omega) (by omega), ni_le (by omega) (by omega)]
  have uq : ∀ n', nI n = nI n' → n' ≤ tl → n' = n := fun n' e h => ((ni_eq (by omega) (by omega)).mp e).symm
  refine br_f (by omega) ⟨fun q => h0 (fun z => by obtain ⟨n', z1, z2, z3⟩ := z; rw [uq n' z1 z2] at z2; omega), fun q => ⟨fun q2 => ?_, fun q2 => h0 (fun z => by obtain ⟨n', z1, z2, z3⟩ := z; rw [uq n' z1 z2] at z3; omega)⟩⟩
  have key : ∀ i, i ≤ n → ∀ m, (∀ k j, ¬ (k = 106 ∧ j = 11) → k ≠ 113 → m k j = mi k j) → m 106 11 = nI n → (∀ j, j < i → m 113 j = byt (nI (c j))) → rn E (d + 2) 209 K 26 [.ref 106, .int (nI n), am_mk, .int (nI i)] [] m ml := by
    refine dn_ind n (fun i hi ih m f e11 ht => ?_)
    apply rg_X10_begins_26
    rw [ni_le (by omega) (by omega), ni_cl (by omega), nI_add]
    refine ⟨fun q3 => ?_, fun q3 => ⟨by rw [ni_in (by omega)]; omega, by rw [ni_in (by omega)]; omega, ?_⟩⟩
    · have e : i = n := by omega
      subst e
      have hT : TXm c i (am_si (am_si (am_si (am_si (am_si m 106 10 (nI 0)) 106 18 (nI 0)) 106 17 nM) 106 14 (nI 0)) 106 19 (nI 0)) := by
        refine TXm_fr (mi := m) ⟨by omega, e11, fun j hj => ⟨(hc j (by omega)).1, ht j hj⟩⟩ (fun k j z => ?_)
        rw [si_f (by omega), si_f (by omega), si_f (by omega), si_f (by omega), si_f (by omega)]
      apply s_ahead hT (p := 0) (by omega)
      · rw [si_f (by omega), si_t ⟨rfl, rfl⟩]
      intro m' f' hTM
      apply rg_X10_begins_78
      refine h1 i rfl (by omega) q2 m' (fun k j z z2 => ?_) (TXm_fr hT (fun k j z => f' k j (by omega))) hTM ?_ ?_ ?_
      · rw [f' k j (by omega), si_f (by omega), si_f (by omega), si_f (by omega), si_f (by omega), si_f (by omega)]
        exact f k j (by omega) z2
      · rw [f' 106 18 (by omega), si_f (by omega), si_f (by omega), si_f (by omega), si_t ⟨rfl, rfl⟩]
      · rw [f' 106 17 (by omega), si_f (by omega), si_f (by omega), si_t ⟨rfl, rfl⟩]
      · rw [f' 106 10 (by omega), si_f (by omega), si_f (by omega), si_f (by omega), si_f (by omega), si_t ⟨rfl, rfl⟩]
    · have h112 : m 112 i = byt (nI (c i)) := by rw [f 112 i (by omega) (by omega)]; exact (hc i (by omega)).2
      rw [h112, show vp_nar .byte (byt (nI (c i))) = byt (nI (c i)) by unfold byt; rw [pk_vb]]
      refine ih (by omega) _ (fun k j z z2 => by rw [si_f (by omega)]; exact f k j z z2) (by rw [si_f (by omega)]; exact e11) (fun j hj => ?_)
      by_cases ej : j = i
      · subst ej; rw [si_t ⟨rfl, rfl⟩]
      · rw [si_f (by omega)]; exact ht j (by omega)
  exact key 0 (by omega) _ (fun k j z z2 => si_f (by omega)) (si_t ⟨rfl, rfl⟩) (fun j hj => by omega)
