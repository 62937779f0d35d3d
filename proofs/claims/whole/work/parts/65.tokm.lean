/-! Tokens, by the reference. -/
def kch (j : Nat) : Nat := ([32, 112, 108, 97, 110, 107, 32, 104, 97, 98, 105, 116, 32, 111, 100, 100, 115, 32, 115, 105, 103, 110, 32, 112, 101, 114, 115, 111, 110, 32, 98, 108, 105, 110, 100, 32, 112, 117, 108, 108, 115, 32, 115, 104, 111, 119, 110, 32, 104, 111, 108, 100, 115, 32, 111, 117, 116, 32, 97, 103, 97, 105, 110, 115, 116, 32, 99, 97, 108, 108, 32, 115, 104, 111, 119, 32, 104, 105, 100, 101, 32, 98, 111, 97, 114, 100, 32, 115, 119, 97, 121, 32, 97, 110, 121, 32, 119, 104, 101, 110, 32, 108, 111, 111, 112, 32, 101, 110, 100, 32, 115, 116, 111, 112, 32, 115, 104, 111, 119, 115, 32] : List Nat).getD j 0
def kst (i : Nat) : Nat := ([1, 7, 13, 18, 23, 30, 36, 42, 48, 54, 58, 66, 71, 76, 81, 87, 92, 96, 101, 106, 110, 115, 121] : List Nat).getD i 0
def ken (i : Nat) : Nat := ([6, 12, 17, 22, 29, 35, 41, 47, 53, 57, 65, 70, 75, 80, 86, 91, 95, 100, 105, 109, 114, 120] : List Nat).getD i 0
/-- the class's number of the reference's word, and the other way -/
def kap (i : Nat) : Nat := ([0, 1, 2, 3, 6, 10, 4, 5, 7, 8, 9, 11, 12, 13, 14, 15, 16, 17, 19, 20, 21, 18] : List Nat).getD i 0
def iot (i : Nat) : Nat := ([0, 1, 2, 3, 6, 7, 4, 8, 9, 10, 5, 11, 12, 13, 14, 15, 16, 17, 21, 18, 19, 20] : List Nat).getD i 0
theorem kw_tab : ∀ i, i < 22 → kst i < ken i ∧ ken i < 121 ∧ kst (i + 1) = ken i + 1 ∧ kch (ken i) = 32 ∧ ken i - kst i ≤ 7 ∧ cdg kch (kst i) (ken i - kst i) = kwc (kap i) ∧ kap i < 22 ∧ iot (kap i) = i ∧ iot i < 22 ∧ kap (iot i) = i := by decide +kernel
theorem kw_let : ∀ i, i < 22 → ∀ j, j < 121 → kst i ≤ j → j < ken i → 97 ≤ kch j ∧ kch j ≤ 122 := by decide +kernel
theorem kch_lt : ∀ j, j < 121 → kch j < 128 := by decide +kernel
/-- the text of the words, as the reference has it -/
def EK (E : am_E) : Prop := 1 < E.2.1 ∧ E.2.2.1 1 = 121 ∧ ∀ j, j < 121 → E.2.2.2 1 j = nI (kch j)
theorem nr_b0 : narrow .byte (.int (nI 0)) = .int (nI 0) := by decide
theorem sh_0' : Int32.ofNat 121 >>> ms (nI 0) = nI 121 := by decide
theorem ch_val : ∀ c, c < 128 → UInt32.toInt32 (Int32.toUInt32 (nI c &&& nI 255) % 65536) = nI c := by decide +kernel
theorem ch_nar : ∀ c, c < 128 → narrow .char (.int (nI c)) = .int (nI c) := by decide +kernel
theorem s_len {E : am_E} {d : Nat} {K : am_K} {mi : Nat → Nat → Int32} {ml : Nat → Nat → Int64} (hE : EK E) (hk : K (some (.int (nI 121))) (S0, mi, ml)) : cq E (d + 2) 329 [.retAddr 4] K mi ml := by
  apply en_J0_length_8abf5 hE.1
  rw [hE.2.1, sh_0']
  exact ⟨nr_b0, hk⟩
theorem s_chr {E : am_E} {d : Nat} {K : am_K} {mi : Nat → Nat → Int32} {ml : Nat → Nat → Int64} (hE : EK E) {j : Nat} (hj : j < 121) (hk : K (some (.int (nI (kch j)))) (S0, mi, ml)) : cq E (d + 5) 330 [.retAddr 4, .int (nI j)] K mi ml := by
  have hc := kch_lt j hj
  apply en_J0_charAt_5068e hE.1
  rw [hE.2.1, ni_cl (by omega), hE.2.2 j hj, ch_val _ hc, show Int32.ofNat 121 = nI 121 from rfl, ni_lt (by omega) (by omega), ni_lt (by omega) (by omega)]
  exact br_f (by omega) (br_t (by omega) ⟨by rw [ni_in (by omega)]; omega, ch_nar _ hc, ch_nar _ hc, hk⟩)
def TXm (c : Nat → Nat) (n : Nat) (mi : Nat → Nat → Int32) : Prop := n ≤ 900 ∧ mi 106 11 = nI n ∧ ∀ i, i < n → c i < 256 ∧ mi 113 i = byt (nI (c i))
def frM (f g : Nat → Nat → Int32) : Prop := ∀ k j, ¬ (k = 106 ∧ 12 ≤ j ∧ j ≤ 15) → g k j = f k j
theorem frM_tr {f g h : Nat → Nat → Int32} (h1 : frM f g) (h2 : frM g h) : frM f h := fun k j z => by rw [h2 k j z, h1 k j z]
theorem TXm_fr {c : Nat → Nat} {n : Nat} {mi mi' : Nat → Nat → Int32} (h : TXm c n mi) (hf : ∀ k j, (k = 106 ∧ j = 11) ∨ k = 113 → mi' k j = mi k j) : TXm c n mi' := ⟨h.1, by rw [hf 106 11 (by omega)]; exact h.2.1, fun i hi => ⟨(h.2.2 i hi).1, by rw [hf 113 i (by omega)]; exact (h.2.2 i hi).2⟩⟩
def bA (c : Nat → Nat) (n k : Nat) : Int32 := if k < n then nI (c k) else nM
theorem byt_255 : ∀ c, c < 256 → byt (nI c) &&& nI 255 = nI c := by decide +kernel
theorem s_byteAt {E : am_E} {d : Nat} {K : am_K} {mi : Nat → Nat → Int32} {ml : Nat → Nat → Int64} {c : Nat → Nat} {n k : Nat} (hT : TXm c n mi) (hk31 : k < 2147483648) (hk : K (some (.int (bA c n k))) (S0, mi, ml)) : cq E (d + 1) 202 [.ref 106, .int (nI k)] K mi ml := by
  have hn := hT.1
  apply en_X10_byteAt
  unfold bA at hk
  rw [hT.2.1, ni_le (by omega) hk31, ni_cl hk31]
  refine ⟨fun q => ?_, fun q => ⟨by rw [ni_in hk31]; omega, ?_⟩⟩
  · rw [if_neg (by omega)] at hk; exact hk
  · obtain ⟨t1, t2⟩ := hT.2.2 k (by omega)
    rw [if_pos (by omega)] at hk
    rw [t2, byt_255 _ t1]; exact hk
def tmK (k : Nat) : Nat := if k = 0 then 2 else if k = 1 then 3 else if k = 2 then 4 else if k = 3 then 0 else 1
theorem tmK_le (k : Nat) : tmK k ≤ 4 := by unfold tmK; repeat (first | omega | split)
/-- the token at p is ahead -/
def TM (c : Nat → Nat) (n p : Nat) (mi : Nat → Nat → Int32) : Prop := mi 106 13 = nI (tkS c n p) ∧ mi 106 14 = nI (tkE c n p) ∧ mi 106 12 = nI (tmK (tkK c n p)) ∧ (tkK c n p = 1 → mi 106 15 = nI (tkV c n p)) ∧ (tkK c n p = 2 → mi 106 15 = nI (c (tkS c n p)))
theorem TM_fr {c : Nat → Nat} {n p : Nat} {mi mi' : Nat → Nat → Int32} (h : TM c n p mi) (hf : ∀ j, 12 ≤ j → j ≤ 15 → mi' 106 j = mi 106 j) : TM c n p mi' := by
  unfold TM at *
  rw [hf 13 (by omega) (by omega), hf 14 (by omega) (by omega), hf 12 (by omega) (by omega), hf 15 (by omega) (by omega)]
  exact h
def mnV (c : Nat → Nat) (s : Nat) : Nat → Nat
  | 0 => 0
  | l + 1 => min 100000 (10 * mnV c s l + (c (s + l) - 48))
theorem mnV_le (c : Nat → Nat) (s : Nat) : ∀ l, mnV c s l ≤ 100000
  | 0 => Nat.zero_le _
  | _ + 1 => Nat.min_le_left _ _
theorem mnV_eq (c : Nat → Nat) (s : Nat) : ∀ l, l ≤ 4 → (∀ t, t < l → c (s + t) ≤ 57) → mnV c s l = vN c s l
  | 0, _, _ => rfl
  | l + 1, hl, h => by
    have e := mnV_eq c s l (by omega) (fun t ht => h t (by omega))
    have h1 := vN_lt c s l (fun t ht => h t (by omega))
    have h2 : (10 : Nat) ^ l ≤ 10 ^ 3 := Nat.pow_le_pow_right (by omega) (by omega)
    have h3 := h l (by omega)
    show min 100000 (10 * mnV c s l + (c (s + l) - 48)) = vN c s l * 10 + (c (s + l) - 48)
    rw [e]; omega
theorem s_ahead {E : am_E} {d : Nat} {K : am_K} {mi : Nat → Nat → Int32} {ml : Nat → Nat → Int64} {c : Nat → Nat} {n p : Nat} (hT : TXm c n mi) (hp : p ≤ n) (h14 : mi 106 14 = nI p) (hk : ∀ mi', frM mi mi' → TM c n p mi' → K none (S0, mi', ml)) : cq E (d + 2) 205 [.ref 106] K mi ml := by
  have hs := tkS_le (c := c) hp
  have he := tkE_le (c := c) hp
  have hn := hT.1
  have TF : ∀ {m}, frM mi m → TXm c n m := fun f => TXm_fr hT (fun k j z => f k j (by omega))
  -- a word
  have word : tkK c n p = 0 → ∀ i, i ≤ tkE c n p → tkS c n p ≤ i → ∀ m, frM mi m → m 106 13 = nI (tkS c n p) → m 106 14 = nI i → rn E (d + 1) 205 K 81 [.ref 106, am_mk] [] m ml := by
    intro hK
    obtain ⟨w1, w2, w3, w4⟩ := tkK_word hK
    refine dn_ind (tkE c n p) (fun i hi ih his m f1 e13 e14 => ?_)
    apply rg_X10_ahead_81
    rw [e14]
    apply s_byteAt (TF f1) (by omega)
    apply rg_X10_ahead_89
    have fin : i = tkE c n p → K none (S0, am_si m 106 12 (nI 2), ml) := fun e => by
      subst e
      exact hk _ (fun k j z => by rw [si_f (by omega)]; exact f1 k j z) ⟨by rw [si_f (by omega)]; exact e13, by rw [si_f (by omega)]; exact e14, by rw [si_t ⟨rfl, rfl⟩, hK]; rfl, fun z => by omega, fun z => by omega⟩
    unfold bA
    by_cases ei : i < n
    · have hc := ((TF f1).2.2 i ei).1
      rw [if_pos ei, ni_lt (by omega) (by omega), ni_lt (by omega) (by omega), e14, nI_add]
      refine ⟨fun q => fin ?_, fun q => ⟨fun q2 => fin ?_, fun q2 => ?_⟩⟩
      · apply Classical.byContradiction; intro z
        have := w4 i his (by omega); omega
      · apply Classical.byContradiction; intro z
        have := w4 i his (by omega); omega
      · have hlt : i < tkE c n p := by
          apply Classical.byContradiction; intro z
          have e : i = sc (fL c) n (tkS c n p) := by omega
          have := sc_end (fL c) n (tkS c n p)
          rw [← e] at this
          exact this ⟨ei, decide_eq_true (by omega)⟩
        exact ih hlt (by omega) _ (fun k j z => by rw [si_f (by omega)]; exact f1 k j z) (by rw [si_f (by omega)]; exact e13) (si_t ⟨rfl, rfl⟩)
    · rw [if_neg ei]
      exact br_t (by decide) (fin (by omega))
  -- a number
  have numb : tkS c n p < n → ¬ fL c (tkS c n p) = true → fD c (tkS c n p) = true → ∀ i, i ≤ tkE c n p → tkS c n p ≤ i → ∀ m, frM mi m → m 106 13 = nI (tkS c n p) → m 106 14 = nI i → m 106 15 = nI (mnV c (tkS c n p) (i - tkS c n p)) → rn E (d + 1) 205 K 128 [.ref 106, am_mk] [] m ml := by
    intro hs1 hL hD
    have eE : tkE c n p = sc (fD c) n (tkS c n p) := by unfold tkE eN; rw [if_neg (by omega), if_neg hL, if_pos hD]
    have eK : tkK c n p = if tkE c n p - tkS c n p ≤ 4 then 1 else 4 := by
      unfold tkK kN; rw [if_neg (by omega), if_neg hL, if_pos hD]; rfl
    have w4 : ∀ i, tkS c n p ≤ i → i < tkE c n p → 48 ≤ c i ∧ c i ≤ 57 := fun i i1 i2 => by
      rw [eE] at i2
      exact of_decide_eq_true (sc_in i1 i2).2
    refine dn_ind (tkE c n p) (fun i hi ih his m f1 e13 e14 e15 => ?_)
    have fin : i = tkE c n p → rn E (d + 1) 205 K 183 [.ref 106, am_mk] [] m ml := fun e => by
      subst e
      apply rg_X10_ahead_183
      rw [e13, e14, ni_sub (by omega), ni_le (by omega) (by omega)]
      refine ⟨fun q => ?_, fun q => ?_⟩
      · have k1 : tkK c n p = 1 := by rw [eK, if_pos q]
        refine hk _ (fun k j z => by rw [si_f (by omega)]; exact f1 k j z) ⟨by rw [si_f (by omega)]; exact e13, by rw [si_f (by omega)]; exact e14, by rw [si_t ⟨rfl, rfl⟩, k1]; rfl, fun z => ?_, fun z => by omega⟩
        rw [si_f (by omega), e15, mnV_eq _ _ _ q (fun t ht => (w4 _ (by omega) (by omega)).2)]; rfl
      · have k4 : tkK c n p = 4 := by rw [eK, if_neg q]
        exact hk _ (fun k j z => by rw [si_f (by omega)]; exact f1 k j z) ⟨by rw [si_f (by omega)]; exact e13, by rw [si_f (by omega)]; exact e14, by rw [si_t ⟨rfl, rfl⟩, k4]; rfl, fun z => by omega, fun z => by omega⟩
    apply rg_X10_ahead_128
    rw [e14]
    apply s_byteAt (TF f1) (by omega)
    apply rg_X10_ahead_136
    by_cases ei : i < n
    · have hc := ((TF f1).2.2 i ei).1
      have eb : bA c n i = nI (c i) := if_pos ei
      rw [eb, ni_lt (by omega) (by omega), ni_lt (by omega) (by omega)]
      refine ⟨fun q => fin ?_, fun q => ⟨fun q2 => fin ?_, fun q2 => ?_⟩⟩
      · apply Classical.byContradiction; intro z
        have := w4 i his (by omega); omega
      · apply Classical.byContradiction; intro z
        have := w4 i his (by omega); omega
      · have hlt : i < tkE c n p := by
          apply Classical.byContradiction; intro z
          have e : i = sc (fD c) n (tkS c n p) := by omega
          have := sc_end (fD c) n (tkS c n p)
          rw [← e] at this
          exact this ⟨ei, decide_eq_true (by omega)⟩
        have hmv := mnV_le c (tkS c n p) (i - tkS c n p)
        rw [e14, e15, ni_mul]
        apply s_byteAt (TF f1) (by omega)
        apply rg_X10_ahead_160
        rw [eb, nI_add, ni_sub (by omega)]
        have emin : (if nI (10 * mnV c (tkS c n p) (i - tkS c n p) + c i - 48) < nI 100000 then nI (10 * mnV c (tkS c n p) (i - tkS c n p) + c i - 48) else nI 100000) = nI (mnV c (tkS c n p) (i + 1 - tkS c n p)) := by
          rw [show i + 1 - tkS c n p = i - tkS c n p + 1 by omega]
          show _ = nI (min 100000 (10 * mnV c (tkS c n p) (i - tkS c n p) + (c (tkS c n p + (i - tkS c n p)) - 48)))
          rw [show tkS c n p + (i - tkS c n p) = i by omega]
          split
          · next z => rw [ni_lt (by omega) (by omega)] at z; rw [Nat.min_eq_right (by omega), show 10 * mnV c (tkS c n p) (i - tkS c n p) + c i - 48 = 10 * mnV c (tkS c n p) (i - tkS c n p) + (c i - 48) by omega]
          · next z => rw [ni_lt (by omega) (by omega)] at z; rw [Nat.min_eq_left (by omega)]
        rw [emin, si_f (f := m) (by omega), e14, nI_add]
        exact ih hlt (by omega) _ (fun k j z => by rw [si_f (by omega), si_f (by omega)]; exact f1 k j z) (by rw [si_f (by omega), si_f (by omega)]; exact e13) (si_t ⟨rfl, rfl⟩) (by rw [si_f (by omega), si_t ⟨rfl, rfl⟩])
    · have eb : bA c n i = nM := if_neg ei
      rw [eb]
      exact br_t (by decide) (fin (by omega))
  -- the token itself
  have tok : ∀ m, frM mi m → m 106 14 = nI (tkS c n p) → rn E (d + 1) 205 K 39 [.ref 106, am_mk] [] m ml := by
    intro m f1 e14
    apply rg_X10_ahead_39
    have g1 : frM mi (am_si m 106 13 (m 106 14)) := fun k j z => by rw [si_f (by omega)]; exact f1 k j z
    rw [si_f (f := m) (by omega), e14]
    rw [e14] at g1
    apply s_byteAt (TF g1) (by omega)
    apply rg_X10_ahead_55
    apply rg_X10_ahead_61
    have m13 : am_si (am_si m 106 13 (nI (tkS c n p))) 106 15 (bA c n (tkS c n p)) 106 13 = nI (tkS c n p) := by rw [si_f (by omega), si_t ⟨rfl, rfl⟩]
    have m14 : am_si (am_si m 106 13 (nI (tkS c n p))) 106 15 (bA c n (tkS c n p)) 106 14 = nI (tkS c n p) := by rw [si_f (by omega), si_f (by omega)]; exact e14
    have m15 : am_si (am_si m 106 13 (nI (tkS c n p))) 106 15 (bA c n (tkS c n p)) 106 15 = bA c n (tkS c n p) := si_t ⟨rfl, rfl⟩
    have g2 : frM mi (am_si (am_si m 106 13 (nI (tkS c n p))) 106 15 (bA c n (tkS c n p))) := fun k j z => by rw [si_f (by omega)]; exact g1 k j z
    generalize am_si (am_si m 106 13 (nI (tkS c n p))) 106 15 (bA c n (tkS c n p)) = m2 at *
    by_cases es : tkS c n p < n
    · have hc := (hT.2.2 _ es).1
      have eb : bA c n (tkS c n p) = nI (c (tkS c n p)) := if_pos es
      rw [eb] at m15 ⊢
      have other : ¬ fL c (tkS c n p) = true → rn E (d + 1) 205 K 116 [.ref 106, .int (nI (c (tkS c n p)))] [] m2 ml := fun hL => by
        have sign : ¬ fD c (tkS c n p) = true → rn E (d + 1) 205 K 208 [.ref 106, .int (nI (c (tkS c n p)))] [] m2 ml := fun hD => by
          have eK : tkK c n p = if c (tkS c n p) = 59 ∨ c (tkS c n p) = 60 ∨ c (tkS c n p) = 62 ∨ c (tkS c n p) = 61 then 2 else 4 := by
            unfold tkK kN; rw [if_neg (by omega), if_neg hL, if_neg hD]
          have eE : tkE c n p = tkS c n p + 1 := by unfold tkE eN; rw [if_neg (by omega), if_neg hL, if_neg hD]
          have good : (c (tkS c n p) = 59 ∨ c (tkS c n p) = 60 ∨ c (tkS c n p) = 62 ∨ c (tkS c n p) = 61) → K none (S0, am_si (am_si m2 106 14 (nI (tkS c n p + 1))) 106 12 (nI 4), ml) := fun z => by
            rw [if_pos z] at eK
            exact hk _ (fun k j z => by rw [si_f (by omega), si_f (by omega)]; exact g2 k j z) ⟨by rw [si_f (by omega), si_f (by omega)]; exact m13, by rw [si_f (by omega), si_t ⟨rfl, rfl⟩, eE], by rw [si_t ⟨rfl, rfl⟩, eK]; rfl, fun z => by omega, fun _ => by rw [si_f (by omega), si_f (by omega)]; exact m15⟩
          apply rg_X10_ahead_208
          rw [m14, nI_add, ni_eq (by omega) (by omega), ni_eq (by omega) (by omega), ni_eq (by omega) (by omega), ni_eq (by omega) (by omega)]
          refine ⟨fun q1 => good (Or.inl q1), fun q1 => ⟨fun q2 => good (Or.inr (Or.inl q2)), fun q2 => ⟨fun q3 => good (Or.inr (Or.inr (Or.inl q3))), fun q3 => ⟨fun q4 => ?_, fun q4 => good (Or.inr (Or.inr (Or.inr (Classical.byContradiction q4))))⟩⟩⟩⟩
          rw [if_neg (by omega)] at eK
          exact hk _ (fun k j z => by rw [si_f (by omega), si_f (by omega)]; exact g2 k j z) ⟨by rw [si_f (by omega), si_f (by omega)]; exact m13, by rw [si_f (by omega), si_t ⟨rfl, rfl⟩, eE], by rw [si_t ⟨rfl, rfl⟩, eK]; rfl, fun z => by omega, fun z => by omega⟩
        apply rg_X10_ahead_116
        rw [ni_lt (by omega) (by omega), ni_lt (by omega) (by omega)]
        refine ⟨fun q1 => sign (fun z => ?_), fun q1 => ⟨fun q2 => sign (fun z => ?_), fun q2 => ?_⟩⟩
        · have := of_decide_eq_true z; omega
        · have := of_decide_eq_true z; omega
        · refine numb es hL (decide_eq_true (by omega)) (tkS c n p) he.1 (Nat.le_refl _) _ (fun k j z => by rw [si_f (by omega)]; exact g2 k j z) (by rw [si_f (by omega)]; exact m13) (by rw [si_f (by omega)]; exact m14) ?_
          rw [si_t ⟨rfl, rfl⟩, Nat.sub_self]; rfl
      rw [ni_nM (by omega), ni_lt (by omega) (by omega), ni_lt (by omega) (by omega)]
      refine br_t (fun z => z) ⟨fun q1 => other (fun z => ?_), fun q1 => ⟨fun q2 => other (fun z => ?_), fun q2 => ?_⟩⟩
      · have := of_decide_eq_true z; omega
      · have := of_decide_eq_true z; omega
      · have hL : fL c (tkS c n p) = true := decide_eq_true (by omega)
        have eK : tkK c n p = 0 := by unfold tkK kN; rw [if_neg (by omega), if_pos hL]
        exact word eK (tkS c n p) he.1 (Nat.le_refl _) m2 g2 m13 m14
    · have eb : bA c n (tkS c n p) = nM := if_neg es
      rw [eb]
      have eK : tkK c n p = 3 := by unfold tkK kN; rw [if_pos (by omega)]
      have eE : tkE c n p = tkS c n p := by unfold tkE eN; rw [if_pos (by omega)]
      refine br_f (fun z => z rfl) (hk _ (fun k j z => by rw [si_f (by omega)]; exact g2 k j z) ⟨by rw [si_f (by omega)]; exact m13, by rw [si_f (by omega), m14, eE], by rw [si_t ⟨rfl, rfl⟩, eK]; rfl, fun z => by omega, fun z => by omega⟩)
  -- blanks
  have bl : ∀ i, i ≤ tkS c n p → p ≤ i → ∀ m, frM mi m → m 106 14 = nI i → rn E (d + 1) 205 K 0 [.ref 106, am_mk] [] m ml := by
    refine dn_ind (tkS c n p) (fun i hi ih hpi m f1 e14 => ?_)
    apply rg_X10_ahead_0
    rw [e14]
    apply s_byteAt (TF f1) (by omega)
    apply rg_X10_ahead_8
    have more : i < n → fB c i = true → rn E (d + 1) 205 K 0 [.ref 106, am_mk] [] (am_si m 106 14 (m 106 14 + nI 1)) ml := fun ei hb => by
      have hlt : i < tkS c n p := by
        apply Classical.byContradiction; intro z
        have e : i = sc (fB c) n p := by show i = tkS c n p; omega
        have := sc_end (fB c) n p
        rw [← e] at this
        exact this ⟨ei, hb⟩
      rw [e14, nI_add]
      exact ih hlt (by omega) _ (fun k j z => by rw [si_f (by omega)]; exact f1 k j z) (si_t ⟨rfl, rfl⟩)
    have stop : (i < n → fB c i = false) → rn E (d + 1) 205 K 39 [.ref 106, am_mk] [] m ml := fun h => by
      have e : i = tkS c n p := by
        apply Classical.byContradiction; intro z
        obtain ⟨y1, y2⟩ := sc_in (f := fB c) (n := n) (p := p) (i := i) hpi (by show i < tkS c n p; omega)
        rw [h y1] at y2; cases y2
      exact tok m f1 (by rw [e14, e])
    have go2 : ∀ r, r = bA c n i → rn E (d + 1) 205 K 21 [.ref 106, am_mk] [.int r] m ml ∨ r = nI 32 := fun r hr => by
      by_cases q : r = nI 32
      · exact Or.inr q
      · refine Or.inl ?_
        apply rg_X10_ahead_21
        subst hr
        unfold bA at q ⊢
        by_cases ei : i < n
        · have hc := ((TF f1).2.2 i ei).1
          rw [if_pos ei, ni_eq (by omega) (by omega)] at q
          rw [if_pos ei, ni_eq (by omega) (by omega)]
          refine ⟨fun q2 => stop (fun _ => decide_eq_false (by omega)), fun q2 => more ei (decide_eq_true (Or.inr (Classical.byContradiction q2)))⟩
        · rw [if_neg ei]
          exact br_t (by decide) (stop (fun z => absurd z ei))
    refine ⟨fun q => ?_, fun q => ?_⟩
    · unfold bA at q
      by_cases ei : i < n
      · have hc := ((TF f1).2.2 i ei).1
        rw [if_pos ei, ni_eq (by omega) (by omega)] at q
        exact more ei (decide_eq_true (Or.inl q))
      · rw [if_neg ei] at q
        exact absurd q (by decide)
    · rw [e14]
      apply s_byteAt (TF f1) (by omega)
      rcases go2 _ rfl with h | h
      · exact h
      · exact absurd h q
  exact r_ent (L' := [.ref 106, am_mk]) rfl rfl rfl rfl (bl p hs.1 (Nat.le_refl _) mi (fun _ _ _ => rfl) h14)
