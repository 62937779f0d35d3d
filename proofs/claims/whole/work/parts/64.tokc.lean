/-! Tokens, by the class. -/
/-- what is read: the text, the words -/
def TX (c : Nat → Nat) (n : Nat) (mi : Nat → Nat → Int32) (ml : Nat → Nat → Int64) : Prop := n ≤ 900 ∧ mi 46 2 = nI n ∧ (∀ i, i < n → c i < 256 ∧ mi 1 i = nI (c i)) ∧ ∀ i, i < 22 → ml 47 i = lN (kwc i)
def frT (f g : Nat → Nat → Int32) : Prop := ∀ k j, ¬ (k = 46 ∧ 3 ≤ j) → g k j = f k j
def frU (f g : Nat → Nat → Int64) : Prop := ∀ k j, ¬ (k = 46 ∧ j = 7) → g k j = f k j
theorem frT_tr {f g h : Nat → Nat → Int32} (h1 : frT f g) (h2 : frT g h) : frT f h := fun k j z => by rw [h2 k j z, h1 k j z]
theorem frU_tr {f g h : Nat → Nat → Int64} (h1 : frU f g) (h2 : frU g h) : frU f h := fun k j z => by rw [h2 k j z, h1 k j z]
theorem TX_fr {c : Nat → Nat} {n : Nat} {mi mi' : Nat → Nat → Int32} {ml ml' : Nat → Nat → Int64} (h : TX c n mi ml) (h1 : frT mi mi') (h2 : frU ml ml') : TX c n mi' ml' := by
  obtain ⟨a1, a2, a3, a4⟩ := h
  exact ⟨a1, by rw [h1 46 2 (by omega)]; exact a2, fun i hi => ⟨(a3 i hi).1, by rw [h1 1 i (by omega)]; exact (a3 i hi).2⟩, fun i hi => by rw [h2 47 i (by omega)]; exact a4 i hi⟩
/-- the token at p is taken -/
def TC (c : Nat → Nat) (n p : Nat) (mi : Nat → Nat → Int32) (ml : Nat → Nat → Int64) : Prop := mi 46 3 = nI (tkE c n p) ∧ mi 46 4 = nI (tkS c n p) ∧ mi 46 5 = nI (tkK c n p) ∧ mi 46 8 = nP (tkW c n p) ∧ ml 46 7 = lN (tkC c n p) ∧ (tkK c n p = 1 → mi 46 6 = nI (tkV c n p)) ∧ (tkK c n p = 2 → mi 46 6 = nI (c (tkS c n p)))
theorem lN_32 : (32 : Int64) = lN 32 := rfl
theorem s_takeWord {E : am_E} {d : Nat} {K : am_K} {mi : Nat → Nat → Int32} {ml : Nat → Nat → Int64} {c : Nat → Nat} {n p : Nat} (hT : TX c n mi ml) (hp : p ≤ n) (hK : tkK c n p = 0) (h3 : mi 46 3 = nI (tkS c n p)) (h4 : mi 46 4 = nI (tkS c n p)) (h8 : mi 46 8 = nM) (h7 : ml 46 7 = 0) (hk : ∀ mi' ml', frT mi mi' → frU ml ml' → TC c n p mi' ml' → mi' 46 9 = mi 46 9 → mi' 46 10 = mi 46 10 → K none (S0, mi', ml')) : cq E (d + 1) 77 [.ref 46] K mi ml := by
  obtain ⟨w1, w2, w3, w4⟩ := tkK_word hK
  have hs := tkS_le (c := c) hp
  have he := tkE_le (c := c) hp
  have hn := hT.1
  -- the words
  have words : ∀ i, i ≤ 22 → ∀ mi' ml', frT mi mi' → frU ml ml' → mi' 46 3 = nI (tkE c n p) → mi' 46 4 = nI (tkS c n p) → mi' 46 5 = nI 0 → mi' 46 8 = nP (kwL (tkC c n p) i) → ml' 46 7 = lN (tkC c n p) → mi' 46 9 = mi 46 9 → mi' 46 10 = mi 46 10 → rn E d 77 K 106 [.ref 46, .int (nI i)] [] mi' ml' := by
    refine dn_ind 22 (fun i hi ih mi' ml' f1 f2 e3 e4 e5 e8 e7 e9 e10 => ?_)
    apply rg_X5_takeWord_106
    rw [ni_le (by omega) (by omega), nI_add, ni_cl (by omega), e7]
    refine ⟨fun q => ?_, fun q => ⟨by rw [ni_in (by omega)]; omega, ?_⟩⟩
    · have : i = 22 := by omega
      subst this
      refine hk _ _ f1 f2 ⟨e3, e4, by rw [hK]; exact e5, ?_, e7, fun z => by omega, fun z => by omega⟩ e9 e10
      unfold tkW
      rw [if_pos hK]; exact e8
    · have hkc := (kwc_pos i (by omega)).2
      have htc := tkC_lt c n p
      rw [f2 47 i (by omega), hT.2.2.2 i (by omega), lgc_eq, pk_lEQ (by omega) (by omega)]
      refine ⟨fun q2 => ih (by omega) _ _ f1 f2 e3 e4 e5 ?_ e7 e9 e10, fun q2 => ih (by omega) _ _ (fun k j z => by rw [si_f (by omega)]; exact f1 k j z) f2 (by rw [si_f (by omega)]; exact e3) (by rw [si_f (by omega)]; exact e4) (by rw [si_f (by omega)]; exact e5) ?_ e7 (by rw [si_f (by omega)]; exact e9) (by rw [si_f (by omega)]; exact e10)⟩
      · show _ = nP (if tkC c n p = kwc i then i + 1 else kwL (tkC c n p) i)
        rw [if_neg q2]; exact e8
      · show _ = nP (if tkC c n p = kwc i then i + 1 else kwL (tkC c n p) i)
        rw [if_pos (by omega), si_t ⟨rfl, rfl⟩]; rfl
  -- the letters
  have lets : ∀ i, i ≤ tkE c n p → tkS c n p ≤ i → ∀ mi' ml', frT mi mi' → frU ml ml' → mi' 46 3 = nI i → mi' 46 4 = nI (tkS c n p) → mi' 46 5 = nI 0 → mi' 46 8 = nM → ml' 46 7 = lN (cdg c (tkS c n p) (i - tkS c n p)) → mi' 46 9 = mi 46 9 → mi' 46 10 = mi 46 10 → rn E d 77 K 5 [.ref 46, am_mk] [] mi' ml' := by
    refine dn_ind (tkE c n p) (fun i hi ih his mi' ml' f1 f2 e3 e4 e5 e8 e7 e9 e10 => ?_)
    have hT' := TX_fr hT f1 f2
    -- the word's end
    have fin : i = tkE c n p → rn E d 77 K 85 [.ref 46, am_mk] [] mi' ml' := fun e => by
      subst e
      apply rg_X5_takeWord_85
      rw [e3, e4, ni_sub (by omega), ni_le (by omega) (by omega)]
      have wd : ∀ ml'', frU ml ml'' → ml'' 46 7 = lN (tkC c n p) → rn E d 77 K 106 [.ref 46, .int (nI 0)] [] mi' ml'' := fun ml'' g1 g2 =>
        words 0 (by omega) mi' ml'' f1 g1 e3 e4 e5 (by rw [e8]; rfl) g2 e9 e10
      refine ⟨fun q => wd _ f2 ?_, fun q => wd _ (fun k j z => by rw [sj_f (by omega)]; exact f2 k j z) ?_⟩
      · unfold tkC
        rw [if_pos ⟨hK, q⟩]; exact e7
      · unfold tkC
        rw [if_neg (fun z => q z.2), sj_t ⟨rfl, rfl⟩]; rfl
    apply rg_X5_takeWord_5
    rw [hT'.2.1, e3, ni_le (by omega) (by omega), ni_cl (by omega)]
    by_cases ei : i < n
    · obtain ⟨t1, t2⟩ := hT'.2.2.1 i ei
      have hin : vp_in (nI i) 900 := by rw [ni_in (by omega)]; omega
      rw [t2, ni_lt (by omega) (by omega), ni_lt (by omega) (by omega)]
      refine br_f (by omega) ⟨hin, fun q => fin ?_, fun q => ⟨hin, fun q2 => fin ?_, fun q2 => ⟨hin, ?_⟩⟩⟩
      · apply Classical.byContradiction; intro z
        have := w4 i his (by omega)
        omega
      · apply Classical.byContradiction; intro z
        have := w4 i his (by omega)
        omega
      · have hlt : i < tkE c n p := by
          apply Classical.byContradiction; intro z
          have e : i = sc (fL c) n (tkS c n p) := by omega
          have := sc_end (fL c) n (tkS c n p)
          rw [← e] at this
          exact this ⟨ei, decide_eq_true (by omega)⟩
        rw [ni_sub (by omega), nI_add, nI_add, nI_l (by omega), e7, lN_32, lN_mul, lN_add]
        refine ih hlt (by omega) _ _ (fun k j z => by rw [si_f (by omega)]; exact f1 k j z) (fun k j z => by rw [sj_f (by omega)]; exact f2 k j z) (si_t ⟨rfl, rfl⟩) (by rw [si_f (by omega)]; exact e4) (by rw [si_f (by omega)]; exact e5) (by rw [si_f (by omega)]; exact e8) ?_ (by rw [si_f (by omega)]; exact e9) (by rw [si_f (by omega)]; exact e10)
        rw [sj_t ⟨rfl, rfl⟩, show i + 1 - tkS c n p = i - tkS c n p + 1 by omega]
        show lN (cdg c (tkS c n p) (i - tkS c n p) * 32 + (c i - 97 + 1)) = lN (cdg c (tkS c n p) (i - tkS c n p) * 32 + (c (tkS c n p + (i - tkS c n p)) - 96))
        rw [show tkS c n p + (i - tkS c n p) = i by omega, show c i - 97 + 1 = c i - 96 by omega]
    · exact br_t (by omega) (fin (by omega))
  apply en_X5_takeWord
  refine lets (tkS c n p) he.1 (Nat.le_refl _) _ ml (fun k j z => by rw [si_f (by omega)]) (fun _ _ _ => rfl) (by rw [si_f (by omega)]; exact h3) (by rw [si_f (by omega)]; exact h4) (si_t ⟨rfl, rfl⟩) (by rw [si_f (by omega)]; exact h8) ?_ (by rw [si_f (by omega)]) (by rw [si_f (by omega)])
  rw [Nat.sub_self, h7]; rfl
theorem s_takeNumber {E : am_E} {d : Nat} {K : am_K} {mi : Nat → Nat → Int32} {ml : Nat → Nat → Int64} {c : Nat → Nat} {n p : Nat} (hT : TX c n mi ml) (hp : p ≤ n) (hs1 : tkS c n p < n) (hL : ¬ fL c (tkS c n p) = true) (hD : fD c (tkS c n p) = true) (h3 : mi 46 3 = nI (tkS c n p)) (h4 : mi 46 4 = nI (tkS c n p)) (h8 : mi 46 8 = nM) (h7 : ml 46 7 = 0) (h6 : mi 46 6 = nI 0) (hk : ∀ mi', frT mi mi' → (tkK c n p = 4 → mi' 46 9 = nI 1 ∧ mi' 46 10 = nI (tkS c n p)) → (¬ tkK c n p = 4 → TC c n p mi' ml ∧ mi' 46 9 = mi 46 9 ∧ mi' 46 10 = mi 46 10) → K (some (.int (nI (b01 (decide (¬ tkK c n p = 4)))))) (S0, mi', ml)) : cq E (d + 2) 78 [.ref 46] K mi ml := by
  have hs := tkS_le (c := c) hp
  have he := tkE_le (c := c) hp
  have hn := hT.1
  have eE : tkE c n p = sc (fD c) n (tkS c n p) := by unfold tkE eN; rw [if_neg (by omega), if_neg hL, if_pos hD]
  have eK : tkK c n p = if tkE c n p - tkS c n p ≤ 4 then 1 else 4 := by
    unfold tkK kN; rw [if_neg (by omega), if_neg hL, if_pos hD]; rfl
  have w4 : ∀ i, tkS c n p ≤ i → i < tkE c n p → 48 ≤ c i ∧ c i ≤ 57 := fun i i1 i2 => by
    rw [eE] at i2
    exact of_decide_eq_true (sc_in i1 i2).2
  have digs : ∀ i, i ≤ tkE c n p → tkS c n p ≤ i → ∀ mi', frT mi mi' → mi' 46 3 = nI i → mi' 46 4 = nI (tkS c n p) → mi' 46 5 = nI 1 → mi' 46 8 = nM → mi' 46 6 = nI (vN c (tkS c n p) (i - tkS c n p)) → mi' 46 9 = mi 46 9 → mi' 46 10 = mi 46 10 → rn E (d + 1) 78 K 5 [.ref 46] [] mi' ml := by
    refine dn_ind (tkE c n p) (fun i hi ih his mi' f1 e3 e4 e5 e8 e6 e9 e10 => ?_)
    have hT' := TX_fr hT f1 (fun _ _ _ => rfl)
    have fin : i = tkE c n p → rn E (d + 1) 78 K 81 [.ref 46] [] mi' ml := fun e => by
      subst e
      apply rg_X5_takeNumber_81
      rw [si_f (by omega), e3, e4, ni_sub (by omega), ni_le (by omega) (by omega)]
      refine ⟨fun q => ?_, fun q => ?_⟩
      · have k1 : tkK c n p = 1 := by rw [eK, if_pos q]
        have hk' := hk mi' f1 (fun z => by omega) (fun _ => ⟨⟨e3, e4, by rw [k1]; exact e5, ?_, ?_, fun _ => e6, fun z => by omega⟩, e9, e10⟩)
        · rw [decide_eq_true (by omega)] at hk'; exact hk'
        · unfold tkW; rw [if_neg (by omega), e8]; rfl
        · unfold tkC; rw [if_neg (by omega), h7]; rfl
      · have k4 : tkK c n p = 4 := by rw [eK, if_neg q]
        have hk' := hk (am_si (am_si mi' 46 9 (nI 1)) 46 10 (nI (tkS c n p))) (fun k j z => by rw [si_f (by omega), si_f (by omega)]; exact f1 k j z) (fun _ => ⟨by rw [si_f (by omega), si_t ⟨rfl, rfl⟩], si_t ⟨rfl, rfl⟩⟩) (fun z => absurd k4 z)
        rw [decide_eq_false (fun z => z k4)] at hk'
        exact hk'
    apply rg_X5_takeNumber_5
    rw [hT'.2.1, e3, ni_le (by omega) (by omega), ni_cl (by omega)]
    by_cases ei : i < n
    · obtain ⟨t1, t2⟩ := hT'.2.2.1 i ei
      have hin : vp_in (nI i) 900 := by rw [ni_in (by omega)]; omega
      rw [t2, ni_lt (by omega) (by omega), ni_lt (by omega) (by omega)]
      refine br_f (by omega) ⟨hin, fun q => fin ?_, fun q => ⟨hin, fun q2 => fin ?_, fun q2 => ⟨hin, ?_⟩⟩⟩
      · apply Classical.byContradiction; intro z
        have := w4 i his (by omega)
        omega
      · apply Classical.byContradiction; intro z
        have := w4 i his (by omega)
        omega
      · have hlt : i < tkE c n p := by
          apply Classical.byContradiction; intro z
          have e : i = sc (fD c) n (tkS c n p) := by omega
          have := sc_end (fD c) n (tkS c n p)
          rw [← e] at this
          exact this ⟨ei, decide_eq_true (by omega)⟩
        rw [si_f (f := mi') (by omega), e3, ni_sub (by omega), e6, ni_mul, nI_add, nI_add]
        refine ih hlt (by omega) _ (fun k j z => by rw [si_f (by omega), si_f (by omega)]; exact f1 k j z) (si_t ⟨rfl, rfl⟩) (by rw [si_f (by omega), si_f (by omega)]; exact e4) (by rw [si_f (by omega), si_f (by omega)]; exact e5) (by rw [si_f (by omega), si_f (by omega)]; exact e8) ?_ (by rw [si_f (by omega), si_f (by omega)]; exact e9) (by rw [si_f (by omega), si_f (by omega)]; exact e10)
        rw [si_f (by omega), si_t ⟨rfl, rfl⟩, show i + 1 - tkS c n p = i - tkS c n p + 1 by omega]
        show nI (vN c (tkS c n p) (i - tkS c n p) * 10 + (c i - 48)) = nI (vN c (tkS c n p) (i - tkS c n p) * 10 + (c (tkS c n p + (i - tkS c n p)) - 48))
        rw [show tkS c n p + (i - tkS c n p) = i by omega]
    · exact br_t (by omega) (fin (by omega))
  apply en_X5_takeNumber
  refine digs (tkS c n p) he.1 (Nat.le_refl _) _ (fun k j z => by rw [si_f (by omega)]) (by rw [si_f (by omega)]; exact h3) (by rw [si_f (by omega)]; exact h4) (si_t ⟨rfl, rfl⟩) (by rw [si_f (by omega)]; exact h8) ?_ (by rw [si_f (by omega)]) (by rw [si_f (by omega)])
  rw [si_f (by omega), Nat.sub_self, h6]; rfl
/-- the fault at p if something else is wanted there -/
def badK (c : Nat → Nat) (n p k : Nat) : Nat := if tkK c n p = 4 then 1 else k
/-- what an advance leaves -/
def ADV (c : Nat → Nat) (n p : Nat) (mi mi' : Nat → Nat → Int32) (ml' : Nat → Nat → Int64) : Prop := (tkK c n p = 4 → mi' 46 9 = nI 1 ∧ mi' 46 10 = nI (tkS c n p)) ∧ (¬ tkK c n p = 4 → TC c n p mi' ml' ∧ mi' 46 9 = mi 46 9 ∧ mi' 46 10 = mi 46 10)
theorem s_advance {E : am_E} {d : Nat} {K : am_K} {mi : Nat → Nat → Int32} {ml : Nat → Nat → Int64} {c : Nat → Nat} {n p : Nat} (hT : TX c n mi ml) (hp : p ≤ n) (h3 : mi 46 3 = nI p) (hk : ∀ mi' ml', frT mi mi' → frU ml ml' → ADV c n p mi mi' ml' → K (some (.int (nI (b01 (decide (¬ tkK c n p = 4)))))) (S0, mi', ml')) : cq E (d + 3) 76 [.ref 46] K mi ml := by
  have hs := tkS_le (c := c) hp
  have he := tkE_le (c := c) hp
  have hn := hT.1
  -- the token itself
  have tok : ∀ mi' ml', frT mi mi' → frU ml ml' → mi' 46 3 = nI (tkS c n p) → mi' 46 9 = mi 46 9 → mi' 46 10 = mi 46 10 → rn E (d + 2) 76 K 52 [.ref 46, am_mk] [] mi' ml' := by
    intro mi' ml' f1 f2 e3 e9 e10
    apply rg_X5_advance_52
    have g1 : frT mi (am_si (am_si (am_si mi' 46 4 (mi' 46 3)) 46 8 nM) 46 6 (nI 0)) := fun k j z => by rw [si_f (by omega), si_f (by omega), si_f (by omega)]; exact f1 k j z
    have g2 : frU ml (am_sj ml' 46 7 0) := fun k j z => by rw [sj_f (by omega)]; exact f2 k j z
    have m3 : am_si (am_si (am_si mi' 46 4 (mi' 46 3)) 46 8 nM) 46 6 (nI 0) 46 3 = nI (tkS c n p) := by rw [si_f (by omega), si_f (by omega), si_f (by omega)]; exact e3
    have m4 : am_si (am_si (am_si mi' 46 4 (mi' 46 3)) 46 8 nM) 46 6 (nI 0) 46 4 = nI (tkS c n p) := by rw [si_f (by omega), si_f (by omega), si_t ⟨rfl, rfl⟩]; exact e3
    have m8 : am_si (am_si (am_si mi' 46 4 (mi' 46 3)) 46 8 nM) 46 6 (nI 0) 46 8 = nM := by rw [si_f (by omega), si_t ⟨rfl, rfl⟩]
    have m6 : am_si (am_si (am_si mi' 46 4 (mi' 46 3)) 46 8 nM) 46 6 (nI 0) 46 6 = nI 0 := si_t ⟨rfl, rfl⟩
    have m9 : am_si (am_si (am_si mi' 46 4 (mi' 46 3)) 46 8 nM) 46 6 (nI 0) 46 9 = mi 46 9 := by rw [si_f (by omega), si_f (by omega), si_f (by omega)]; exact e9
    have m10 : am_si (am_si (am_si mi' 46 4 (mi' 46 3)) 46 8 nM) 46 6 (nI 0) 46 10 = mi 46 10 := by rw [si_f (by omega), si_f (by omega), si_f (by omega)]; exact e10
    have m7 : am_sj ml' 46 7 0 46 7 = 0 := sj_t ⟨rfl, rfl⟩
    generalize am_si (am_si (am_si mi' 46 4 (mi' 46 3)) 46 8 nM) 46 6 (nI 0) = m at *
    generalize am_sj ml' 46 7 0 = l at *
    have hT' := TX_fr hT g1 g2
    apply rg_X5_advance_75
    rw [hT'.2.1, m3, ni_lt (by omega) (by omega), ni_cl (by omega)]
    refine ⟨fun q => ⟨by rw [ni_in (by omega)]; omega, ?_⟩, fun q => ?_⟩
    · obtain ⟨t1, t2⟩ := hT'.2.2.1 _ q
      rw [t2]
      have other : ¬ fL c (tkS c n p) = true → rn E (d + 2) 76 K 121 [.ref 46, .int (nI (c (tkS c n p)))] [] m l := fun hL => by
        apply rg_X5_advance_121
        rw [ni_lt (by omega) (by omega), ni_lt (by omega) (by omega)]
        have sign : ¬ fD c (tkS c n p) = true → rn E (d + 2) 76 K 138 [.ref 46, .int (nI (c (tkS c n p)))] [] m l := fun hD => by
          have eK : tkK c n p = if c (tkS c n p) = 59 ∨ c (tkS c n p) = 60 ∨ c (tkS c n p) = 62 ∨ c (tkS c n p) = 61 then 2 else 4 := by
            unfold tkK kN; rw [if_neg (by omega), if_neg hL, if_neg hD]
          have eE : tkE c n p = tkS c n p + 1 := by unfold tkE eN; rw [if_neg (by omega), if_neg hL, if_neg hD]
          have good : (c (tkS c n p) = 59 ∨ c (tkS c n p) = 60 ∨ c (tkS c n p) = 62 ∨ c (tkS c n p) = 61) → K (some (.int (nI 1))) (S0, am_si (am_si (am_si m 46 5 (nI 2)) 46 6 (nI (c (tkS c n p)))) 46 3 (nI (tkS c n p + 1)), l) := fun z => by
            rw [if_pos z] at eK
            have hk' := hk (am_si (am_si (am_si m 46 5 (nI 2)) 46 6 (nI (c (tkS c n p)))) 46 3 (nI (tkS c n p + 1))) l (fun k j z => by rw [si_f (by omega), si_f (by omega), si_f (by omega)]; exact g1 k j z) g2 ⟨fun z => by omega, fun _ => ⟨⟨by rw [si_t ⟨rfl, rfl⟩, eE], by rw [si_f (by omega), si_f (by omega), si_f (by omega)]; exact m4, by rw [si_f (by omega), si_f (by omega), si_t ⟨rfl, rfl⟩, eK], ?_, ?_, fun z => by omega, fun _ => by rw [si_f (by omega), si_t ⟨rfl, rfl⟩]⟩, by rw [si_f (by omega), si_f (by omega), si_f (by omega)]; exact m9, by rw [si_f (by omega), si_f (by omega), si_f (by omega)]; exact m10⟩⟩
            · rw [decide_eq_true (by omega)] at hk'; exact hk'
            · unfold tkW; rw [if_neg (by omega), si_f (by omega), si_f (by omega), si_f (by omega), m8]; rfl
            · unfold tkC; rw [if_neg (by omega), m7]; rfl
          apply rg_X5_advance_138
          rw [si_f (by omega), si_f (by omega), m3, nI_add, si_f (by omega), m4, ni_eq (by omega) (by omega), ni_eq (by omega) (by omega), ni_eq (by omega) (by omega), ni_eq (by omega) (by omega)]
          refine ⟨fun q1 => good (Or.inl q1), fun q1 => ⟨fun q2 => good (Or.inr (Or.inl q2)), fun q2 => ⟨fun q3 => good (Or.inr (Or.inr (Or.inl q3))), fun q3 => ⟨fun q4 => ?_, fun q4 => good (Or.inr (Or.inr (Or.inr (Classical.byContradiction q4))))⟩⟩⟩⟩
          rw [if_neg (by omega)] at eK
          have hk' := hk (am_si (am_si m 46 9 (nI 1)) 46 10 (nI (tkS c n p))) l (fun k j z => by rw [si_f (by omega), si_f (by omega)]; exact g1 k j z) g2 ⟨fun _ => ⟨by rw [si_f (by omega), si_t ⟨rfl, rfl⟩], si_t ⟨rfl, rfl⟩⟩, fun z => absurd eK z⟩
          rw [decide_eq_false (fun z => z eK)] at hk'
          exact hk'
        refine ⟨fun q1 => sign (fun z => ?_), fun q1 => ⟨fun q2 => sign (fun z => ?_), fun q2 => ?_⟩⟩
        · have := of_decide_eq_true z; omega
        · have := of_decide_eq_true z; omega
        · apply s_takeNumber hT' hp q hL (decide_eq_true (by omega)) m3 m4 m8 m7 m6
          intro m2 f3 z1 z2
          apply rg_X5_advance_137
          refine ⟨?_, hk m2 l (frT_tr g1 f3) g2 ⟨z1, fun z => ?_⟩⟩
          · cases decide (¬ tkK c n p = 4)
            · exact Or.inl rfl
            · exact Or.inr rfl
          · obtain ⟨y1, y2, y3⟩ := z2 z
            exact ⟨y1, by rw [y2, m9], by rw [y3, m10]⟩
      apply rg_X5_advance_103
      rw [ni_lt (by omega) (by omega), ni_lt (by omega) (by omega)]
      refine ⟨fun q1 => other (fun z => ?_), fun q1 => ⟨fun q2 => other (fun z => ?_), fun q2 => ?_⟩⟩
      · have := of_decide_eq_true z; omega
      · have := of_decide_eq_true z; omega
      · have hL : fL c (tkS c n p) = true := decide_eq_true (by omega)
        have eK : tkK c n p = 0 := by unfold tkK kN; rw [if_neg (by omega), if_pos hL]
        apply s_takeWord hT' hp eK m3 m4 m8 m7
        intro m2 l2 f3 f4 hTC y9 y10
        apply rg_X5_advance_119
        have hk' := hk m2 l2 (frT_tr g1 f3) (frU_tr g2 f4) ⟨fun z => by omega, fun _ => ⟨hTC, by rw [y9, m9], by rw [y10, m10]⟩⟩
        rw [decide_eq_true (by omega)] at hk'
        exact hk'
    · have eK : tkK c n p = 3 := by unfold tkK kN; rw [if_pos (by omega)]
      have eE : tkE c n p = tkS c n p := by unfold tkE eN; rw [if_pos (by omega)]
      have hk' := hk (am_si m 46 5 (nI 3)) l (fun k j z => by rw [si_f (by omega)]; exact g1 k j z) g2 ⟨fun z => by omega, fun _ => ⟨⟨by rw [si_f (by omega), m3, eE], by rw [si_f (by omega)]; exact m4, by rw [si_t ⟨rfl, rfl⟩, eK], ?_, ?_, fun z => by omega, fun z => by omega⟩, by rw [si_f (by omega)]; exact m9, by rw [si_f (by omega)]; exact m10⟩⟩
      · rw [decide_eq_true (by omega)] at hk'; exact hk'
      · unfold tkW; rw [if_neg (by omega), si_f (by omega), m8]; rfl
      · unfold tkC; rw [if_neg (by omega), m7]; rfl
  -- blanks
  have bl : ∀ i, i ≤ tkS c n p → p ≤ i → ∀ mi', frT mi mi' → mi' 46 3 = nI i → mi' 46 9 = mi 46 9 → mi' 46 10 = mi 46 10 → rn E (d + 2) 76 K 0 [.ref 46, am_mk] [] mi' ml := by
    refine dn_ind (tkS c n p) (fun i hi ih hpi mi' f1 e3 e9 e10 => ?_)
    have hT' := TX_fr hT f1 (fun _ _ _ => rfl)
    apply rg_X5_advance_0
    rw [hT'.2.1, e3, ni_le (by omega) (by omega), ni_cl (by omega), nI_add]
    by_cases ei : i < n
    · obtain ⟨t1, t2⟩ := hT'.2.2.1 i ei
      have hin : vp_in (nI i) 900 := by rw [ni_in (by omega)]; omega
      have more : fB c i = true → rn E (d + 2) 76 K 0 [.ref 46, am_mk] [] (am_si mi' 46 3 (nI (i + 1))) ml := fun hb => by
        have hlt : i < tkS c n p := by
          apply Classical.byContradiction; intro z
          have e : i = sc (fB c) n p := by show i = tkS c n p; omega
          have := sc_end (fB c) n p
          rw [← e] at this
          exact this ⟨ei, hb⟩
        exact ih hlt (by omega) _ (fun k j z => by rw [si_f (by omega)]; exact f1 k j z) (si_t ⟨rfl, rfl⟩) (by rw [si_f (by omega)]; exact e9) (by rw [si_f (by omega)]; exact e10)
      rw [t2, ni_eq (by omega) (by omega), ni_eq (by omega) (by omega)]
      refine br_f (by omega) ⟨hin, fun q => more (decide_eq_true (Or.inl q)), fun q => ⟨hin, fun q2 => ?_, fun q2 => more (decide_eq_true (Or.inr (Classical.byContradiction q2)))⟩⟩
      have e : i = tkS c n p := by
        apply Classical.byContradiction; intro z
        have := (sc_in (f := fB c) (n := n) (p := p) (i := i) hpi (by show i < tkS c n p; omega)).2
        have := of_decide_eq_true this
        omega
      exact tok mi' ml f1 (fun _ _ _ => rfl) (by rw [e3, e]) e9 e10
    · exact br_t (by omega) (tok mi' ml f1 (fun _ _ _ => rfl) (by rw [e3, show i = tkS c n p by omega]) e9 e10)
  exact r_ent (L' := [.ref 46, am_mk]) rfl rfl rfl rfl (bl p hs.1 (Nat.le_refl _) mi (fun _ _ _ => rfl) h3 rfl rfl)
/-! what is wanted -/
def FLT (k s : Nat) (mi : Nat → Nat → Int32) : Prop := mi 46 9 = nI k ∧ mi 46 10 = nI s
def SAME (mi mi' : Nat → Nat → Int32) : Prop := mi' 46 9 = mi 46 9 ∧ mi' 46 10 = mi 46 10
theorem badK_4 {c : Nat → Nat} {n p k : Nat} (h : tkK c n p = 4) : badK c n p k = 1 := if_pos h
theorem badK_n {c : Nat → Nat} {n p k : Nat} (h : ¬ tkK c n p = 4) : badK c n p k = k := if_neg h
theorem tkW_le (c : Nat → Nat) (n p : Nat) : tkW c n p ≤ 22 := by
  unfold tkW
  split
  · exact kwL_le _ _
  · omega
theorem nP_eq {a b : Nat} (ha : a ≤ 100) (hb : b ≤ 100) : nP a = nP b ↔ a = b := by
  match a, b with
  | 0, 0 => exact ⟨fun _ => rfl, fun _ => rfl⟩
  | 0, b + 1 => exact ⟨fun z => absurd z (fun z => (nM_ni (a := b) (by omega)).mp z), fun z => by omega⟩
  | a + 1, 0 => exact ⟨fun z => absurd z (fun z => (ni_nM (a := a) (by omega)).mp z), fun z => by omega⟩
  | a + 1, b + 1 =>
    rw [nP_s, nP_s, ni_eq (by omega) (by omega)]; omega
theorem fail_fr {k s : Nat} {mi mi' : Nat → Nat → Int32} (h : frT mi mi') : frT mi (am_si (am_si mi' 46 9 (nI k)) 46 10 (nI s)) := fun a j z => by rw [si_f (by omega), si_f (by omega)]; exact h a j z
theorem fail_FLT {k s : Nat} {mi : Nat → Nat → Int32} : FLT k s (am_si (am_si mi 46 9 (nI k)) 46 10 (nI s)) := ⟨by rw [si_f (by omega), si_t ⟨rfl, rfl⟩], si_t ⟨rfl, rfl⟩⟩
theorem s_wantName {E : am_E} {d : Nat} {K : am_K} {mi : Nat → Nat → Int32} {ml : Nat → Nat → Int64} {c : Nat → Nat} {n p : Nat} (hT : TX c n mi ml) (hp : p ≤ n) (h3 : mi 46 3 = nI p) (h1 : isNm c n p → ∀ mi' ml', frT mi mi' → frU ml ml' → TC c n p mi' ml' → SAME mi mi' → K (some (.int (nI 1))) (S0, mi', ml')) (h0 : ¬ isNm c n p → ∀ mi' ml', frT mi mi' → frU ml ml' → FLT (badK c n p 2) (tkS c n p) mi' → K (some (.int (nI 0))) (S0, mi', ml')) : cq E (d + 4) 83 [.ref 46] K mi ml := by
  have hk4 := tkK_le c n p
  have hw := tkW_le c n p
  have hc := tkC_lt c n p
  apply en_X5_wantName
  apply s_advance hT hp h3
  intro m1 l1 f1 f2 hA
  apply rg_X5_wantName_4
  rw [ni_b0, decide_eq_false_iff_not]
  refine ⟨fun q => ?_, fun q => ?_⟩
  · have k4 : tkK c n p = 4 := Classical.byContradiction q
    have := h0 (fun z => by have := z.1; omega) m1 l1 f1 f2
    rw [badK_4 k4] at this
    exact this (hA.1 k4)
  · have k4 : ¬ tkK c n p = 4 := fun z => q (fun y => y z)
    obtain ⟨⟨t1, t2, t3, t4, t5, t6, t7⟩, s1, s2⟩ := hA.2 k4
    have bad : ¬ isNm c n p → K (some (.int (nI 0))) (S0, am_si (am_si m1 46 9 (nI 2)) 46 10 (nI (tkS c n p)), l1) := fun z => by
      have := h0 z _ l1 (fail_fr (k := 2) (s := tkS c n p) f1) f2
      rw [badK_n k4] at this
      exact this fail_FLT
    rw [si_f (by omega), t2, t3, t4, t5, ni_eq (by omega) (by omega), lN_0, lgc_eq, pk_lEQ (by omega) (by omega), show nM = nP 0 from rfl, nP_eq (by omega) (by omega)]
    refine ⟨fun z => bad (fun y => z y.1), fun z => ⟨fun z2 => bad (fun y => z2 y.2.1), fun z2 => ⟨fun z3 => bad (fun y => y.2.2 z3), fun z3 => ?_⟩⟩⟩
    exact h1 ⟨Classical.byContradiction z, Classical.byContradiction z2, z3⟩ m1 l1 f1 f2 ⟨t1, t2, t3, t4, t5, t6, t7⟩ ⟨s1, s2⟩
theorem s_wantKeyword {E : am_E} {d : Nat} {K : am_K} {mi : Nat → Nat → Int32} {ml : Nat → Nat → Int64} {c : Nat → Nat} {n p w : Nat} (hT : TX c n mi ml) (hp : p ≤ n) (h3 : mi 46 3 = nI p) (hw : w < 22) (h1 : tkW c n p = w + 1 → ∀ mi' ml', frT mi mi' → frU ml ml' → TC c n p mi' ml' → SAME mi mi' → K (some (.int (nI 1))) (S0, mi', ml')) (h0 : ¬ tkW c n p = w + 1 → ∀ mi' ml', frT mi mi' → frU ml ml' → FLT (badK c n p 2) (tkS c n p) mi' → K (some (.int (nI 0))) (S0, mi', ml')) : cq E (d + 4) 84 [.ref 46, .int (nI w)] K mi ml := by
  have hw2 := tkW_le c n p
  apply en_X5_wantKeyword
  apply s_advance hT hp h3
  intro m1 l1 f1 f2 hA
  apply rg_X5_wantKeyword_4
  rw [ni_b0, decide_eq_false_iff_not]
  refine ⟨fun q => ?_, fun q => ?_⟩
  · have k4 : tkK c n p = 4 := Classical.byContradiction q
    have := h0 (fun z => by unfold tkW at z; rw [if_neg (by omega)] at z; omega) m1 l1 f1 f2
    rw [badK_4 k4] at this
    exact this (hA.1 k4)
  · have k4 : ¬ tkK c n p = 4 := fun z => q (fun y => y z)
    obtain ⟨⟨t1, t2, t3, t4, t5, t6, t7⟩, s1, s2⟩ := hA.2 k4
    rw [si_f (by omega), t2, t4, show nI w = nP (w + 1) from rfl, nP_eq (by omega) (by omega)]
    refine ⟨fun z => h1 z m1 l1 f1 f2 ⟨t1, t2, t3, t4, t5, t6, t7⟩ ⟨s1, s2⟩, fun z => ?_⟩
    have := h0 z _ l1 (fail_fr (k := 2) (s := tkS c n p) f1) f2
    rw [badK_n k4] at this
    exact this fail_FLT
theorem s_wantStop {E : am_E} {d : Nat} {K : am_K} {mi : Nat → Nat → Int32} {ml : Nat → Nat → Int64} {c : Nat → Nat} {n p : Nat} (hT : TX c n mi ml) (hp : p ≤ n) (h3 : mi 46 3 = nI p) (h1 : isSt c n p → ∀ mi' ml', frT mi mi' → frU ml ml' → TC c n p mi' ml' → SAME mi mi' → K (some (.int (nI 1))) (S0, mi', ml')) (h0 : ¬ isSt c n p → ∀ mi' ml', frT mi mi' → frU ml ml' → FLT (badK c n p 2) (tkS c n p) mi' → K (some (.int (nI 0))) (S0, mi', ml')) : cq E (d + 4) 85 [.ref 46] K mi ml := by
  have hk4 := tkK_le c n p
  apply en_X5_wantStop
  apply s_advance hT hp h3
  intro m1 l1 f1 f2 hA
  apply rg_X5_wantStop_4
  rw [ni_b0, decide_eq_false_iff_not]
  refine ⟨fun q => ?_, fun q => ?_⟩
  · have k4 : tkK c n p = 4 := Classical.byContradiction q
    have := h0 (fun z => by have := z.1; omega) m1 l1 f1 f2
    rw [badK_4 k4] at this
    exact this (hA.1 k4)
  · have k4 : ¬ tkK c n p = 4 := fun z => q (fun y => y z)
    obtain ⟨⟨t1, t2, t3, t4, t5, t6, t7⟩, s1, s2⟩ := hA.2 k4
    have bad : ¬ isSt c n p → K (some (.int (nI 0))) (S0, am_si (am_si m1 46 9 (nI 2)) 46 10 (nI (tkS c n p)), l1) := fun z => by
      have := h0 z _ l1 (fail_fr (k := 2) (s := tkS c n p) f1) f2
      rw [badK_n k4] at this
      exact this fail_FLT
    rw [si_f (by omega), t2, t3, ni_eq (by omega) (by omega)]
    refine ⟨fun z => bad (fun y => z y.1), fun z => ?_⟩
    have k2 : tkK c n p = 2 := Classical.byContradiction z
    have hs : tkS c n p < n := by
      apply Classical.byContradiction; intro y
      unfold tkK kN at k2
      rw [if_pos (by omega)] at k2; omega
    have hcb := (hT.2.2.1 _ hs).1
    rw [t7 k2, ni_eq (by omega) (by omega)]
    exact ⟨fun z2 => bad (fun y => z2 y.2), fun z2 => h1 ⟨k2, Classical.byContradiction z2⟩ m1 l1 f1 f2 ⟨t1, t2, t3, t4, t5, t6, t7⟩ ⟨s1, s2⟩⟩
/-- a number between lo and hi -/
def isNo (c : Nat → Nat) (n p lo hi : Nat) : Prop := tkK c n p = 1 ∧ lo ≤ tkV c n p ∧ tkV c n p ≤ hi
def noK (c : Nat → Nat) (n p : Nat) : Nat := if tkK c n p = 1 then 4 else badK c n p 2
theorem s_wantNumber {E : am_E} {d : Nat} {K : am_K} {mi : Nat → Nat → Int32} {ml : Nat → Nat → Int64} {c : Nat → Nat} {n p lo hi : Nat} (hT : TX c n mi ml) (hp : p ≤ n) (h3 : mi 46 3 = nI p) (hlo : lo < 1000) (hhi : hi < 1000) (h1 : isNo c n p lo hi → ∀ mi' ml', frT mi mi' → frU ml ml' → TC c n p mi' ml' → SAME mi mi' → K (some (.int (nI 1))) (S0, mi', ml')) (h0 : ¬ isNo c n p lo hi → ∀ mi' ml', frT mi mi' → frU ml ml' → FLT (noK c n p) (tkS c n p) mi' → K (some (.int (nI 0))) (S0, mi', ml')) : cq E (d + 4) 86 [.ref 46, .int (nI lo), .int (nI hi)] K mi ml := by
  have hk4 := tkK_le c n p
  apply en_X5_wantNumber
  apply s_advance hT hp h3
  intro m1 l1 f1 f2 hA
  apply rg_X5_wantNumber_4
  rw [ni_b0, decide_eq_false_iff_not]
  refine ⟨fun q => ?_, fun q => ?_⟩
  · have k4 : ¬ tkK c n p = 4 := fun z => q (fun y => y z)
    obtain ⟨⟨t1, t2, t3, t4, t5, t6, t7⟩, s1, s2⟩ := hA.2 k4
    have bad : ∀ k, k = noK c n p → ¬ isNo c n p lo hi → K (some (.int (nI 0))) (S0, am_si (am_si m1 46 9 (nI k)) 46 10 (nI (tkS c n p)), l1) := fun k hk z => by
      have := h0 z _ l1 (fail_fr (k := k) (s := tkS c n p) f1) f2
      rw [← hk] at this
      exact this fail_FLT
    rw [si_f (f := m1) (by omega), si_f (f := m1) (by omega), t2, t3, ni_eq (by omega) (by omega)]
    refine ⟨fun z => ?_, fun z => bad 2 (by unfold noK; rw [if_neg z, badK_n k4]) (fun y => z y.1)⟩
    have hv := (tkK_num z).2.1
    rw [t6 z, ni_lt (by omega) (by omega), ni_le (by omega) (by omega)]
    have e4 : 4 = noK c n p := by unfold noK; rw [if_pos z]
    refine ⟨fun z2 => bad 4 e4 (fun y => by have := y.2.1; omega), fun z2 => ⟨fun z3 => h1 ⟨z, by omega, z3⟩ m1 l1 f1 f2 ⟨t1, t2, t3, t4, t5, t6, t7⟩ ⟨s1, s2⟩, fun z3 => bad 4 e4 (fun y => by have := y.2.2; omega)⟩⟩
  · have k4 : tkK c n p = 4 := Classical.byContradiction (fun y => q (fun z => z y))
    have := h0 (fun z => by have := z.1; omega) m1 l1 f1 f2
    unfold noK at this
    rw [if_neg (by omega), badK_4 k4] at this
    exact this (hA.1 k4)
/-! names -/
def fnd (N : Nat → Nat) (x : Nat) : Nat → Nat
  | 0 => 0
  | m + 1 => if fnd N x m = 0 then (if N m = x then m + 1 else 0) else fnd N x m
theorem fnd_le (N : Nat → Nat) (x : Nat) : ∀ m, fnd N x m ≤ m
  | 0 => Nat.le_refl _
  | m + 1 => by
    unfold fnd
    have := fnd_le N x m
    split
    · split <;> omega
    · omega
theorem fnd_hit {N : Nat → Nat} {x k : Nat} (h0 : fnd N x k = 0) (h : N k = x) : ∀ m, k < m → fnd N x m = k + 1
  | 0, h => absurd h (Nat.not_lt_zero _)
  | m + 1, hk => by
    unfold fnd
    by_cases e : k = m
    · subst e; rw [if_pos h0, if_pos h]
    · rw [fnd_hit h0 h m (by omega), if_neg (by omega)]
theorem fnd_next {N : Nat → Nat} {x k : Nat} (h0 : fnd N x k = 0) (h : ¬ N k = x) : fnd N x (k + 1) = 0 := by
  show (if fnd N x k = 0 then (if N k = x then k + 1 else 0) else fnd N x k) = 0
  rw [if_pos h0, if_neg h]
theorem s_omenNamed {E : am_E} {d : Nat} {K : am_K} {mi : Nat → Nat → Int32} {ml : Nat → Nat → Int64} {b : Nat} (hb : bt b) {N : Nat → Nat} {m x : Nat} (hm : m ≤ 6) (h4 : mi b 4 = nI m) (hN : ∀ k, k < m → N k < 32 ^ 8 ∧ ml (b + 2) k = lN (N k)) (hx : x < 32 ^ 8) (hk : K (some (.int (nP (fnd N x m)))) (S0, mi, ml)) : cq E (d + 1) 13 [.ref b, .long (lN x)] K mi ml := by
  have key : ∀ i, i ≤ m → fnd N x i = 0 → rn E d 13 K 2 [.ref b, .long (lN x), am_mk, .int (nI i)] [] mi ml := by
    refine dn_ind m (fun i hi ih h0 => ?_)
    apply rg_X0_omenNamed_2 hb
    rw [h4, ni_le (by omega) (by omega), nI_add, ni_cl (by omega)]
    refine ⟨fun q => ?_, fun q => ⟨by rw [ni_in (by omega)]; omega, ?_⟩⟩
    · have : i = m := by omega
      subst this
      rw [h0] at hk; exact hk
    · obtain ⟨n1, n2⟩ := hN i (by omega)
      rw [n2, lgc_eq, pk_lEQ (by omega) (by omega)]
      refine ⟨fun q2 => ih (by omega) (fnd_next h0 q2), fun q2 => ?_⟩
      rw [fnd_hit h0 (Classical.byContradiction q2) m (by omega)] at hk
      exact hk
  apply en_X0_omenNamed hb
  exact key 0 (by omega) rfl
theorem s_personNamed {E : am_E} {d : Nat} {K : am_K} {mi : Nat → Nat → Int32} {ml : Nat → Nat → Int64} {b : Nat} (hb : bt b) {N : Nat → Nat} {m x : Nat} (hm : m ≤ 8) (h5 : mi b 5 = nI m) (hN : ∀ k, k < m → N k < 32 ^ 8 ∧ ml (b + 7) k = lN (N k)) (hx : x < 32 ^ 8) (hk : K (some (.int (nP (fnd N x m)))) (S0, mi, ml)) : cq E (d + 1) 14 [.ref b, .long (lN x)] K mi ml := by
  have key : ∀ i, i ≤ m → fnd N x i = 0 → rn E d 14 K 2 [.ref b, .long (lN x), am_mk, .int (nI i)] [] mi ml := by
    refine dn_ind m (fun i hi ih h0 => ?_)
    apply rg_X0_personNamed_2 hb
    rw [h5, ni_le (by omega) (by omega), nI_add, ni_cl (by omega)]
    refine ⟨fun q => ?_, fun q => ⟨by rw [ni_in (by omega)]; omega, ?_⟩⟩
    · have : i = m := by omega
      subst this
      rw [h0] at hk; exact hk
    · obtain ⟨n1, n2⟩ := hN i (by omega)
      rw [n2, lgc_eq, pk_lEQ (by omega) (by omega)]
      refine ⟨fun q2 => ih (by omega) (fnd_next h0 q2), fun q2 => ?_⟩
      rw [fnd_hit h0 (Classical.byContradiction q2) m (by omega)] at hk
      exact hk
  apply en_X0_personNamed hb
  exact key 0 (by omega) rfl
