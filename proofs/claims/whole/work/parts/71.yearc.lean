/-! The years' text, by the class: what a step needs. -/
def frYc (f g : Nat → Nat → Int32) : Prop := ∀ k j, ¬ (37 ≤ k ∧ k ≤ 43) → ¬ (k = 46 ∧ 3 ≤ j) → ¬ (k = 49 ∧ j = 4) → k ≠ 50 → g k j = f k j
def RKd (y : Nat) (pl : Nat → Nat → Nat) (mi : Nat → Nat → Int32) (k : Nat) : Prop := mi (y + 1) k = nI (pl 0 k) ∧ ((12 ≤ pl 0 k ∧ pl 0 k ≤ 15 ∨ pl 0 k = 17) → mi (y + 4) k = nI (pl 3 k)) ∧ ((pl 0 k = 15 ∨ pl 0 k = 19 ∨ (pl 0 k = 17 ∧ pl 1 k = 7)) → mi (y + 5) k = nI (pl 4 k)) ∧ (pl 0 k = 17 → mi (y + 2) k = nI (pl 1 k)) ∧ ((pl 0 k = 17 ∧ pl 1 k = 7) → mi (y + 3) k = nI (pl 2 k))
def bls (w : Nat) : Prop := w = 17 ∨ w = 19 ∨ w = 20
def NMc (on : Nat → Nat) (no : Nat) (pn : Nat → Nat) (np : Nat) (m0 : Nat → Nat → Int32) (l0 : Nat → Nat → Int64) : Prop := no ≤ 6 ∧ np ≤ 8 ∧ m0 12 4 = nI no ∧ m0 12 5 = nI np ∧ (∀ k, k < no → on k < 32 ^ 8 ∧ l0 14 k = lN (on k)) ∧ (∀ k, k < np → pn k < 32 ^ 8 ∧ l0 19 k = lN (pn k))
def CRy (c : Nat → Nat) (n : Nat) (m0 : Nat → Nat → Int32) (l0 : Nat → Nat → Int64) (s e e' dep : Nat) (op : Nat → Nat) (pl : Nat → Nat → Nat) (mi : Nat → Nat → Int32) (ml : Nat → Nat → Int64) : Prop := (frYc m0 mi ∧ frU l0 ml) ∧ (mi 37 0 = nI 1 ∧ mi 37 1 = nI s ∧ mi 37 2 = nI e' ∧ mi 49 4 = nI dep ∧ ∀ i, i < dep → mi 50 i = nI (op i)) ∧ ((∀ k, k < e → RKd 37 pl mi k) ∧ (∀ k, k < e → bls (pl 0 k) → ¬ opn dep op k → mi 43 k = nI (pl 5 k))) ∧ TX c n mi ml ∧ NF mi
def Byc (K : am_K) (m0 : Nat → Nat → Int32) (l0 : Nat → Nat → Int64) (k s : Nat) : Prop := ∀ mi ml, frYc m0 mi → frU l0 ml → FLT k s mi → K (some (.int (nI 0))) (S0, mi, ml)
theorem Byc_P {K K' : am_K} {m0 : Nat → Nat → Int32} {l0 : Nat → Nat → Int64} (hP : PF K K') : ∀ k s, Byc K m0 l0 k s → Byc K' m0 l0 k s := fun _ _ hb m l f1 f2 hf => hP _ _ (hb m l f1 f2 hf)
theorem PAS_F {K K' : am_K} (hP : PAS K K') : PF K K' := fun m l h => hP _ _ _ (Or.inl rfl) h
theorem frYc_T {m0 mi mi' : Nat → Nat → Int32} (h : frYc m0 mi) (f : frT mi mi') : frYc m0 mi' := fun k j z1 z2 z3 z4 => by rw [f k j z2]; exact h k j z1 z2 z3 z4
theorem CRy_tok {c : Nat → Nat} {n : Nat} {m0 : Nat → Nat → Int32} {l0 : Nat → Nat → Int64} {s e e' dep : Nat} {op : Nat → Nat} {pl : Nat → Nat → Nat} {mi mi' : Nat → Nat → Int32} {ml ml' : Nat → Nat → Int64} (h : CRy c n m0 l0 s e e' dep op pl mi ml) (f1 : frT mi mi') (f2 : frU ml ml') (hs : SAME mi mi') : CRy c n m0 l0 s e e' dep op pl mi' ml' := by
  obtain ⟨⟨a1, a2⟩, ⟨b1, b2, b3, b4, b5⟩, ⟨d1, d2⟩, e1, g1⟩ := h
  have F : ∀ k j, k ≠ 46 → mi' k j = mi k j := fun k j z => f1 k j (by omega)
  refine ⟨⟨frYc_T a1 f1, frU_tr a2 f2⟩, ⟨by rw [F 37 0 (by omega)]; exact b1, by rw [F 37 1 (by omega)]; exact b2, by rw [F 37 2 (by omega)]; exact b3, by rw [F 49 4 (by omega)]; exact b4, fun i hi => by rw [F 50 i (by omega)]; exact b5 i hi⟩, ⟨fun k hk => ?_, fun k hk hb ho => by rw [F 43 k (by omega)]; exact d2 k hk hb ho⟩, TX_fr e1 f1 f2, by rw [NF, hs.1, hs.2]; exact g1⟩
  have := d1 k hk
  unfold RKd at *
  rw [F (37 + 1) k (by omega), F (37 + 2) k (by omega), F (37 + 3) k (by omega), F (37 + 4) k (by omega), F (37 + 5) k (by omega)]
  exact this
theorem CRy_set {c : Nat → Nat} {n : Nat} {m0 : Nat → Nat → Int32} {l0 : Nat → Nat → Int64} {s e e' dep : Nat} {op : Nat → Nat} {pl : Nat → Nat → Nat} {mi : Nat → Nat → Int32} {ml : Nat → Nat → Int64} {q : Nat} {v : Int32} (h : CRy c n m0 l0 s e e' dep op pl mi ml) (h1 : 38 ≤ q) (h2 : q ≤ 43) : CRy c n m0 l0 s e e' dep op pl (am_si mi q e v) ml := by
  obtain ⟨⟨a1, a2⟩, ⟨b1, b2, b3, b4, b5⟩, ⟨d1, d2⟩, e1, g1⟩ := h
  refine ⟨⟨fun k j z1 z2 z3 z4 => by rw [si_f (by omega)]; exact a1 k j z1 z2 z3 z4, a2⟩, ⟨by rw [si_f (by omega)]; exact b1, by rw [si_f (by omega)]; exact b2, by rw [si_f (by omega)]; exact b3, by rw [si_f (by omega)]; exact b4, fun i hi => by rw [si_f (by omega)]; exact b5 i hi⟩, ⟨fun k hk => ?_, fun k hk hb ho => by rw [si_f (by omega)]; exact d2 k hk hb ho⟩, TX_fr2 e1 (fun k j z => si_f (by omega)) (fun _ => rfl), by rw [NF, si_f (by omega), si_f (by omega)]; exact g1⟩
  have := d1 k hk
  unfold RKd at *
  rw [si_f (by omega), si_f (by omega), si_f (by omega), si_f (by omega), si_f (by omega)]
  exact this
theorem Byc_go {c : Nat → Nat} {n : Nat} {K : am_K} {m0 : Nat → Nat → Int32} {l0 : Nat → Nat → Int64} {s e e' dep : Nat} {op : Nat → Nat} {pl : Nat → Nat → Nat} {k t : Nat} {mi mi' : Nat → Nat → Int32} {ml ml' : Nat → Nat → Int64} (h : CRy c n m0 l0 s e e' dep op pl mi ml) (hB : Byc K m0 l0 k t) (f1 : frT mi mi') (f2 : frU ml ml') (hf : FLT k t mi') : K (some (.int (nI 0))) (S0, mi', ml') := hB _ _ (frYc_T h.1.1 f1) (frU_tr h.1.2 f2) hf
theorem Byc_in {c : Nat → Nat} {n : Nat} {K : am_K} {m0 : Nat → Nat → Int32} {l0 : Nat → Nat → Int64} {s e e' dep : Nat} {op : Nat → Nat} {pl : Nat → Nat → Nat} {k t : Nat} {mi : Nat → Nat → Int32} {ml : Nat → Nat → Int64} (h : CRy c n m0 l0 s e e' dep op pl mi ml) (hB : Byc K m0 l0 k t) (h4 : mi 46 4 = nI t) : K (some (.int (nI 0))) (S0, am_si (am_si mi 46 9 (nI k)) 46 10 ((am_si mi 46 9 (nI k)) 46 4), ml) := by
  rw [si_f (f := mi) (by omega), h4]
  exact Byc_go h hB (fail_fr (fun _ _ _ => rfl)) (fun _ _ _ => rfl) fail_FLT
section
variable {E : am_E} {d : Nat} {K : am_K} {mi : Nat → Nat → Int32} {ml : Nat → Nat → Int64} {c : Nat → Nat} {n : Nat} {on : Nat → Nat} {no : Nat} {pn : Nat → Nat} {np p : Nat} {m0 : Nat → Nat → Int32} {l0 : Nat → Nat → Int64} {s e e' dep : Nat} {op : Nat → Nat} {pl : Nat → Nat → Nat}
theorem s_omY (hN : NMc on no pn np m0 l0) (hC : CRy c n m0 l0 s e e' dep op pl mi ml) (hp : p ≤ n) (h3 : mi 46 3 = nI p) (he : e < 60) (h : omW c n on no p (fun t => ∀ m l, CRy c n m0 l0 s e e' dep op pl m l → m 46 3 = nI (tkE c n p) → (∀ q, 38 ≤ q → q ≤ 42 → q ≠ 41 → m q e = mi q e) → m 41 e = nI t → K (some (.int (nI 1))) (S0, m, l)) (Byc K m0 l0)) : cq E (d + 5) 108 [.ref 49, .int (nI e)] K mi ml := by
  obtain ⟨n1, n2, n3, n4, n5, n6⟩ := hN
  apply en_X8_readOmen
  apply s_wantName hC.2.2.2.1 hp h3
  · intro q m l f1 f2 hT hs
    have hC1 := CRy_tok hC f1 f2 hs
    have h2 := h.1 q
    apply rg_X8_readOmen_7
    refine br_t n10 ?_
    rw [hT.2.2.2.2.1]
    have fl := fnd_le on (tkC c n p) no
    apply s_omenNamed (d := d + 3) bt_12 n1 (by rw [hC1.1.1 12 4 (by omega) (by omega) (by omega) (by omega)]; exact n3) (fun k hk => ⟨(n5 k hk).1, by rw [hC1.1.2 _ k (by omega)]; exact (n5 k hk).2⟩) (tkC_lt _ _ _)
    apply rg_X8_readOmen_26
    rw [ni_cl (by omega), nP_0 (by omega)]
    refine ⟨by rw [ni_in (by omega)]; omega, fun q2 => ?_, fun q2 => Byc_in (CRy_set hC1 (by omega) (by omega)) (h2.1 (Classical.byContradiction q2)) (by rw [si_f (by omega)]; exact hT.2.1)⟩
    have h4 := h2.2 q2
    generalize fnd on (tkC c n p) no = u at *
    obtain ⟨u, rfl⟩ : ∃ u', u = u' + 1 := ⟨u - 1, by omega⟩
    rw [Nat.add_sub_cancel] at h4
    rw [nP_s]
    exact h4 _ _ (CRy_set hC1 (by omega) (by omega)) (by rw [si_f (by omega)]; exact hT.1) (fun q q1 q2 q3 => by rw [si_f (by omega)]; exact f1 q e (by omega)) (si_t ⟨rfl, rfl⟩)
  · intro q m l f1 f2 hf
    apply rg_X8_readOmen_7
    exact br_f (fun z => z rfl) (Byc_go hC (h.2 q) f1 f2 hf)
theorem s_peY (hN : NMc on no pn np m0 l0) (hC : CRy c n m0 l0 s e e' dep op pl mi ml) (hp : p ≤ n) (h3 : mi 46 3 = nI p) (he : e < 60) (h : omW c n pn np p (fun t => ∀ m l, CRy c n m0 l0 s e e' dep op pl m l → m 46 3 = nI (tkE c n p) → (∀ q, 38 ≤ q → q ≤ 42 → q ≠ 41 → m q e = mi q e) → m 41 e = nI t → K (some (.int (nI 1))) (S0, m, l)) (Byc K m0 l0)) : cq E (d + 5) 109 [.ref 49, .int (nI e)] K mi ml := by
  obtain ⟨n1, n2, n3, n4, n5, n6⟩ := hN
  apply en_X8_readPerson
  apply s_wantName hC.2.2.2.1 hp h3
  · intro q m l f1 f2 hT hs
    have hC1 := CRy_tok hC f1 f2 hs
    have h2 := h.1 q
    apply rg_X8_readPerson_7
    refine br_t n10 ?_
    rw [hT.2.2.2.2.1]
    have fl := fnd_le pn (tkC c n p) np
    apply s_personNamed (d := d + 3) bt_12 n2 (by rw [hC1.1.1 12 5 (by omega) (by omega) (by omega) (by omega)]; exact n4) (fun k hk => ⟨(n6 k hk).1, by rw [hC1.1.2 _ k (by omega)]; exact (n6 k hk).2⟩) (tkC_lt _ _ _)
    apply rg_X8_readPerson_26
    rw [ni_cl (by omega), nP_0 (by omega)]
    refine ⟨by rw [ni_in (by omega)]; omega, fun q2 => ?_, fun q2 => Byc_in (CRy_set hC1 (by omega) (by omega)) (h2.1 (Classical.byContradiction q2)) (by rw [si_f (by omega)]; exact hT.2.1)⟩
    have h4 := h2.2 q2
    generalize fnd pn (tkC c n p) np = u at *
    obtain ⟨u, rfl⟩ : ∃ u', u = u' + 1 := ⟨u - 1, by omega⟩
    rw [Nat.add_sub_cancel] at h4
    rw [nP_s]
    exact h4 _ _ (CRy_set hC1 (by omega) (by omega)) (by rw [si_f (by omega)]; exact hT.1) (fun q q1 q2 q3 => by rw [si_f (by omega)]; exact f1 q e (by omega)) (si_t ⟨rfl, rfl⟩)
  · intro q m l f1 f2 hf
    apply rg_X8_readPerson_7
    exact br_f (fun z => z rfl) (Byc_go hC (h.2 q) f1 f2 hf)
theorem s_noY {lo hi : Nat} (hC : CRy c n m0 l0 s e e' dep op pl mi ml) (hp : p ≤ n) (h3 : mi 46 3 = nI p) (he : e < 60) (hlo : lo < 1000) (hhi : hi < 1000) (h : numW c n p lo hi (∀ m l, CRy c n m0 l0 s e e' dep op pl m l → m 46 3 = nI (tkE c n p) → (∀ q, 38 ≤ q → q ≤ 42 → q ≠ 42 → m q e = mi q e) → m 42 e = nI (tkV c n p) → K (some (.int (nI 1))) (S0, m, l)) (Byc K m0 l0)) : cq E (d + 5) 111 [.ref 49, .int (nI e), .int (nI lo), .int (nI hi)] K mi ml := by
  apply en_X8_readNumber
  apply s_wantNumber hC.2.2.2.1 hp h3 hlo hhi
  · intro q m l f1 f2 hT hs
    apply rg_X8_readNumber_9
    rw [hT.2.2.2.2.2.1 q.1, ni_cl (by omega)]
    refine br_t n10 ⟨by rw [ni_in (by omega)]; omega, h.1 q _ _ (CRy_set (CRy_tok hC f1 f2 hs) (by omega) (by omega)) (by rw [si_f (by omega)]; exact hT.1) (fun q q1 q2 q3 => by rw [si_f (by omega)]; exact f1 q e (by omega)) (si_t ⟨rfl, rfl⟩)⟩
  · intro q m l f1 f2 hf
    apply rg_X8_readNumber_9
    exact br_f (fun z => z rfl) (Byc_go hC (h.2 q) f1 f2 hf)
theorem s_cmY (hC : CRy c n m0 l0 s e e' dep op pl mi ml) (hp : p ≤ n) (h3 : mi 46 3 = nI p) (he : e < 60) (h : cmW c n p (∀ m l, CRy c n m0 l0 s e e' dep op pl m l → m 46 3 = nI (tkE c n p) → (∀ q, 38 ≤ q → q ≤ 42 → q ≠ 40 → m q e = mi q e) → m 40 e = nI (c (tkS c n p)) → K (some (.int (nI 1))) (S0, m, l)) (Byc K m0 l0)) : cq E (d + 4) 110 [.ref 49, .int (nI e)] K mi ml := by
  have hk4 := tkK_le c n p
  apply en_X8_readCompare
  apply s_advance hC.2.2.2.1 hp h3
  intro m l f1 f2 hA
  apply rg_X8_readCompare_7
  rw [ni_b0, decide_eq_false_iff_not]
  by_cases k4 : tkK c n p = 4
  · have hb := h.2 (fun z => by have := z.1; omega)
    rw [badK_4 k4] at hb
    exact br_f (fun z => z (fun y => y k4)) (Byc_go hC hb f1 f2 (hA.1 k4))
  obtain ⟨hT, hs⟩ := hA.2 k4
  have hC1 := CRy_tok hC f1 f2 hs
  have hC2 : CRy c n m0 l0 s e e' dep op pl (am_si m 40 e (m 46 6)) l := CRy_set hC1 (by omega) (by omega)
  have e5 : am_si m 40 e (m 46 6) 46 5 = nI (tkK c n p) := by rw [si_f (by omega)]; exact hT.2.2.1
  have e6 : am_si m 40 e (m 46 6) 46 6 = m 46 6 := si_f (by omega)
  have e4 : am_si m 40 e (m 46 6) 46 4 = nI (tkS c n p) := by rw [si_f (by omega)]; exact hT.2.1
  have bad : ¬ cmpP c n p → K (some (.int (nI 0))) (S0, am_si (am_si (am_si m 40 e (m 46 6)) 46 9 (nI 2)) 46 10 ((am_si (am_si m 40 e (m 46 6)) 46 9 (nI 2)) 46 4), l) := fun z => by
    have hb := h.2 z
    rw [badK_n k4] at hb
    exact Byc_in hC2 hb e4
  refine br_t (fun z => z k4) ?_
  rw [ni_cl (by omega), e5, e6, ni_eq (by omega) (by omega)]
  refine ⟨by rw [ni_in (by omega)]; omega, fun q => bad (fun z => q z.1), fun q => ?_⟩
  have k2 : tkK c n p = 2 := Classical.byContradiction q
  have hsn : tkS c n p < n := by
    apply Classical.byContradiction; intro y
    unfold tkK kN at k2
    rw [if_pos (by omega)] at k2; omega
  have hcb := (hC.2.2.2.1.2.2.1 _ hsn).1
  have v6 := hT.2.2.2.2.2.2 k2
  refine ⟨fun q2 => bad (fun z => z.2 ?_), fun q2 => h.1 ⟨k2, fun z => q2 (by rw [v6, z])⟩ _ _ hC2 (by rw [si_f (by omega)]; exact hT.1) (fun q q1 q2 q3 => by rw [si_f (by omega)]; exact f1 q e (by omega)) (by rw [si_t ⟨rfl, rfl⟩]; exact v6)⟩
  rw [v6, ni_eq (by omega) (by omega)] at q2
  exact q2
/-- the row that is being read -/
def RKr (e w t sg th v : Nat) (m : Nat → Nat → Int32) : Prop := m 38 e = nI w ∧ ((12 ≤ w ∧ w ≤ 15 ∨ w = 17) → m 41 e = nI th) ∧ ((w = 15 ∨ w = 19 ∨ (w = 17 ∧ t = 7)) → m 42 e = nI v) ∧ (w = 17 → m 39 e = nI t) ∧ ((w = 17 ∧ t = 7) → m 40 e = nI sg)
def Ccy (c : Nat → Nat) (n : Nat) (K : am_K) (m0 : Nat → Nat → Int32) (l0 : Nat → Nat → Int64) (s e e' dep : Nat) (op : Nat → Nat) (pl : Nat → Nat → Nat) (w p t sg th v : Nat) : Prop := ∀ m l, CRy c n m0 l0 s e e' dep op pl m l → m 46 3 = nI p → RKr e w t sg th v m → K (some (.int (nI 1))) (S0, m, l)
theorem s_tsY (hN : NMc on no pn np m0 l0) (hC : CRy c n m0 l0 s e e' dep op pl mi ml) (hp : p ≤ n) (h3 : mi 46 3 = nI p) (he : e < 60) (h38 : mi 38 e = nI 17) (h : tstW c n on no pn np p (Ccy c n K m0 l0 s e e' dep op pl 17) (Byc K m0 l0)) : cq E (d + 6) 107 [.ref 49, .int (nI e)] K mi ml := by
  have e1 := tkE_ge (c := c) hp
  have e2 := tkE_ge (c := c) e1.2
  have e3 := tkE_ge (c := c) e2.2
  have h22 := tkW_le c n p
  apply en_X8_readTest
  apply s_advance (d := d + 2) hC.2.2.2.1 hp h3
  intro m l f1 f2 hA
  apply rg_X8_readTest_7
  rw [ni_b0, decide_eq_false_iff_not]
  by_cases k4 : tkK c n p = 4
  · have hb := ((h.2 (tkW_bad k4)).2 (tkW_bad k4)).2 (tkW_bad k4)
    rw [badK_4 k4] at hb
    exact br_f (fun z => z (fun y => y k4)) (Byc_go hC hb f1 f2 (hA.1 k4))
  obtain ⟨hT, hs⟩ := hA.2 k4
  have hC1 := CRy_tok hC f1 f2 hs
  have hC2 : CRy c n m0 l0 s e e' dep op pl (am_si m 39 e (m 46 8)) l := CRy_set hC1 (by omega) (by omega)
  have g3 : am_si m 39 e (m 46 8) 46 3 = nI (tkE c n p) := by rw [si_f (by omega)]; exact hT.1
  have g4 : am_si m 39 e (m 46 8) 46 4 = nI (tkS c n p) := by rw [si_f (by omega)]; exact hT.2.1
  have g8 : am_si m 39 e (m 46 8) 46 8 = m 46 8 := si_f (by omega)
  have g38 : am_si m 39 e (m 46 8) 38 e = nI 17 := by rw [si_f (by omega), f1 38 e (by omega)]; exact h38
  have g39 : ∀ w, tkW c n p = w + 1 → am_si m 39 e (m 46 8) 39 e = nI w := fun w z => by rw [si_t ⟨rfl, rfl⟩, hT.2.2.2.1, z]; rfl
  refine br_t (fun z => z k4) ?_
  rw [ni_cl (by omega), g8, kw_in (w := 7) (by omega) hT, kw_in (w := 8) (by omega) hT, kw_in (w := 18) (by omega) hT]
  refine ⟨by rw [ni_in (by omega)]; omega, fun q => ?_, fun q => ?_, fun q => ?_, fun q7 q8 q18 => ?_⟩
  · have h2 := ((h.2 (by omega)).2 (by omega)).1 q
    have P85 : PF K (kc E (d + 5) 107 K 85 [.ref 49, .int (nI e)] []) := fun m l hh => rg_X8_readTest_85 (br_t rfl hh)
    have P93 : PF K (kc E (d + 5) 107 K 93 [.ref 49, .int (nI e)] []) := fun m l hh => rg_X8_readTest_93 (br_t rfl hh)
    have P104 : PAS K (kc E (d + 5) 107 K 104 [am_mk, am_mk] []) := fun r m l q hh => rg_X8_readTest_104 (pas_1 q hh)
    refine s_peY hN hC2 e1.2 g3 he (omW_mono (Byc_P P85) (fun t ht hc m2 l2 hC3 h33 hr h41 => ?_) h2)
    apply rg_X8_readTest_85
    refine br_f n10 ?_
    refine s_cmY (d := d + 1) hC3 e2.2 h33 he (cmW_mono (fun q4 hc2 m3 l3 hC4 h34 hr2 h40 => ?_) (Byc_P P93) hc)
    apply rg_X8_readTest_93
    refine br_f n10 ?_
    refine s_noY hC4 e3.2 h34 he (by omega) (by omega) (numW_mono (fun q5 hc3 m4 l4 hC5 h35 hr3 h42 => ?_) (Byc_P (PAS_F P104)) hc2)
    refine P104 _ _ _ (Or.inr rfl) (hc3 m4 l4 hC5 h35 ⟨?_, fun _ => ?_, fun _ => h42, fun _ => ?_, fun _ => ?_⟩)
    · rw [hr3 38 (by omega) (by omega) (by omega), hr2 38 (by omega) (by omega) (by omega), hr 38 (by omega) (by omega) (by omega)]; exact g38
    · rw [hr3 41 (by omega) (by omega) (by omega), hr2 41 (by omega) (by omega) (by omega)]; exact h41
    · rw [hr3 39 (by omega) (by omega) (by omega), hr2 39 (by omega) (by omega) (by omega), hr 39 (by omega) (by omega) (by omega)]; exact g39 7 q
    · rw [hr3 40 (by omega) (by omega) (by omega)]; exact h40
  · have P : PAS K (kc E (d + 5) 107 K 73 [am_mk, am_mk] []) := fun r m l q hh => rg_X8_readTest_73 ⟨q, hh⟩
    refine s_peY hN hC2 e1.2 g3 he (omW_mono (Byc_P (PAS_F P)) (fun t ht hc m2 l2 hC3 h33 hr h41 => P _ _ _ (Or.inr rfl) (hc m2 l2 hC3 h33 ⟨?_, fun _ => h41, fun z => by omega, fun _ => ?_, fun z => by omega⟩)) (h.1 q))
    · rw [hr 38 (by omega) (by omega) (by omega)]; exact g38
    · rw [hr 39 (by omega) (by omega) (by omega)]; exact g39 8 q
  · have P : PAS K (kc E (d + 5) 107 K 79 [am_mk, am_mk] []) := fun r m l q hh => rg_X8_readTest_79 ⟨q, hh⟩
    refine s_omY hN hC2 e1.2 g3 he (omW_mono (Byc_P (PAS_F P)) (fun t ht hc m2 l2 hC3 h33 hr h41 => P _ _ _ (Or.inr rfl) (hc m2 l2 hC3 h33 ⟨?_, fun _ => h41, fun z => by omega, fun _ => ?_, fun z => by omega⟩)) ((h.2 (by omega)).1 q))
    · rw [hr 38 (by omega) (by omega) (by omega)]; exact g38
    · rw [hr 39 (by omega) (by omega) (by omega)]; exact g39 18 q
  · have hb := ((h.2 q8).2 q18).2 q7
    rw [badK_n k4] at hb
    exact Byc_in hC2 hb g4
theorem s_deY {w : Nat} (hN : NMc on no pn np m0 l0) (hC : CRy c n m0 l0 s e e' dep op pl mi ml) (hp : p ≤ n) (h3 : mi 46 3 = nI p) (he : e < 60) (hw : w < 22) (hw17 : w ≠ 17) (h38 : mi 38 e = nI w) (h : detW c n on no pn np w p (Ccy c n K m0 l0 s e e' dep op pl w) (Byc K m0 l0)) : cq E (d + 6) 106 [.ref 49, .int (nI w), .int (nI e)] K mi ml := by
  have e1 := tkE_ge (c := c) hp
  apply en_X8_readDetails
  rw [ni_eq (by omega) (by omega), ni_eq (by omega) (by omega), ni_eq (by omega) (by omega), ni_eq (by omega) (by omega), ni_eq (by omega) (by omega)]
  have P53 : PAS K (kc E (d + 5) 106 K 53 [am_mk, am_mk, am_mk] []) := fun r m l q hh => rg_X8_readDetails_53 ⟨q, hh⟩
  refine ⟨fun q => ?_, fun q => ?_, fun q => ?_, fun q => ?_, fun q => ?_, fun q12 q13 q14 q15 q19 => ?_⟩
  · refine s_omY hN hC hp h3 he (omW_mono (Byc_P (PAS_F P53)) (fun t ht hc m2 l2 hC3 h33 hr h41 => P53 _ _ _ (Or.inr rfl) (hc m2 l2 hC3 h33 ⟨?_, fun _ => h41, fun z => by omega, fun z => by omega, fun z => by omega⟩)) (h.1 (Or.inl q)))
    rw [hr 38 (by omega) (by omega) (by omega)]; exact h38
  · refine s_omY hN hC hp h3 he (omW_mono (Byc_P (PAS_F P53)) (fun t ht hc m2 l2 hC3 h33 hr h41 => P53 _ _ _ (Or.inr rfl) (hc m2 l2 hC3 h33 ⟨?_, fun _ => h41, fun z => by omega, fun z => by omega, fun z => by omega⟩)) (h.1 (Or.inr q)))
    rw [hr 38 (by omega) (by omega) (by omega)]; exact h38
  · have P : PAS K (kc E (d + 5) 106 K 59 [am_mk, am_mk, am_mk] []) := fun r m l q hh => rg_X8_readDetails_59 ⟨q, hh⟩
    refine s_peY hN hC hp h3 he (omW_mono (Byc_P (PAS_F P)) (fun t ht hc m2 l2 hC3 h33 hr h41 => P _ _ _ (Or.inr rfl) (hc m2 l2 hC3 h33 ⟨?_, fun _ => h41, fun z => by omega, fun z => by omega, fun z => by omega⟩)) ((h.2 (by omega)).1 q))
    rw [hr 38 (by omega) (by omega) (by omega)]; exact h38
  · have P65 : PF K (kc E (d + 5) 106 K 65 [.ref 49, am_mk, .int (nI e)] []) := fun m l hh => rg_X8_readDetails_65 (br_t rfl hh)
    have P76 : PAS K (kc E (d + 5) 106 K 76 [am_mk, am_mk, am_mk] []) := fun r m l q hh => rg_X8_readDetails_76 (pas_1 q hh)
    refine s_peY hN hC hp h3 he (omW_mono (Byc_P P65) (fun t ht hc m2 l2 hC3 h33 hr h41 => ?_) (((h.2 (by omega)).2 (by omega)).1 q))
    apply rg_X8_readDetails_65
    refine br_f n10 ?_
    refine s_noY hC3 e1.2 h33 he (by omega) (by omega) (numW_mono (fun q5 hc3 m4 l4 hC5 h35 hr3 h42 => ?_) (Byc_P (PAS_F P76)) hc)
    refine P76 _ _ _ (Or.inr rfl) (hc3 m4 l4 hC5 h35 ⟨?_, fun _ => ?_, fun _ => h42, fun z => by omega, fun z => by omega⟩)
    · rw [hr3 38 (by omega) (by omega) (by omega), hr 38 (by omega) (by omega) (by omega)]; exact h38
    · rw [hr3 41 (by omega) (by omega) (by omega)]; exact h41
  · have P : PAS K (kc E (d + 5) 106 K 93 [am_mk, am_mk, am_mk] []) := fun r m l q hh => rg_X8_readDetails_93 ⟨q, hh⟩
    refine s_noY hC hp h3 he (by omega) (by omega) (numW_mono (fun q5 hc3 m4 l4 hC5 h35 hr3 h42 => P _ _ _ (Or.inr rfl) (hc3 m4 l4 hC5 h35 ⟨?_, fun z => by omega, fun _ => h42, fun z => by omega, fun z => by omega⟩)) (Byc_P (PAS_F P)) ((((h.2 (by omega)).2 (by omega)).2 (by omega)).1 q))
    rw [hr3 38 (by omega) (by omega) (by omega)]; exact h38
  · exact (((((h.2 (by omega)).2 q14).2 q15).2 q19).2 hw17) _ _ hC h3 ⟨h38, fun z => by omega, fun z => by omega, fun z => by omega, fun z => by omega⟩
end
