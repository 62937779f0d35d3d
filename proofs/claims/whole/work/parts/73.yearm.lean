/-! The years' text, by the reference. -/
def frZ (f g : Nat → Nat → Int32) : Prop := ∀ k j, ¬ (k = 106 ∧ (12 ≤ j ∧ j ≤ 18 ∧ j ≠ 16 ∨ j = 22 ∨ j = 23)) → ¬ (k = 107 ∧ 1664 ≤ j) → k ≠ 114 → g k j = f k j
def RKe (off : Nat) (pl : Nat → Nat → Nat) (mi : Nat → Nat → Int32) (k : Nat) : Prop := mi 107 (off + (48 + 6 * k)) = nI (wm pl k) ∧ ((12 ≤ pl 0 k ∧ pl 0 k ≤ 15 ∨ pl 0 k = 17) → mi 107 (off + (48 + 6 * k + 1)) = nI (pl 3 k)) ∧ (pl 0 k = 19 → mi 107 (off + (48 + 6 * k + 1)) = nI (pl 4 k)) ∧ ((pl 0 k = 15 ∨ (pl 0 k = 17 ∧ pl 1 k = 7)) → mi 107 (off + (48 + 6 * k + 2)) = nI (pl 4 k)) ∧ ((pl 0 k = 17 ∧ pl 1 k = 7) → mi 107 (off + (48 + 6 * k + 5)) = nI (pl 2 k))
def NMr (on : Nat → Nat) (no : Nat) (pn : Nat → Nat) (np : Nat) (m0 : Nat → Nat → Int32) (ml : Nat → Nat → Int64) : Prop := no ≤ 6 ∧ np ≤ 8 ∧ m0 107 0 = nI no ∧ m0 107 1 = nI np ∧ NMm 0 on no ml ∧ NMm 6 pn np ml
def CSn (c : Nat → Nat) (n : Nat) (m0 : Nat → Nat → Int32) (s e e' dep : Nat) (op : Nat → Nat) (pl : Nat → Nat → Nat) (p : Nat) (mi : Nat → Nat → Int32) : Prop := frZ m0 mi ∧ (mi 107 1672 = nI e' ∧ mi 106 22 = nI dep ∧ mi 106 23 = nI s ∧ ∀ i, i < dep → mi 114 i = nI (op i)) ∧ ((∀ k, k < e → RKe 1664 pl mi k) ∧ (∀ k, k < e → bls (pl 0 k) → ¬ opn dep op k → mi 107 (1664 + (48 + 6 * k + 4)) = nI (pl 5 k))) ∧ TXm c n mi ∧ TM c n p mi ∧ mi 106 18 = nI 0 ∧ mi 106 17 = nM
def Bym (K : am_K) (m0 : Nat → Nat → Int32) (ml : Nat → Nat → Int64) (k s : Nat) : Prop := ∀ mi, frZ m0 mi → FLM k s mi → K (some (.int (nI 0))) (S0, mi, ml)
theorem Bym_P {K K' : am_K} {m0 : Nat → Nat → Int32} {ml : Nat → Nat → Int64} (hP : PF K K') : ∀ k s, Bym K m0 ml k s → Bym K' m0 ml k s := fun _ _ hb m f1 hf => hP _ _ (hb m f1 hf)
section
variable {E : am_E} {d : Nat} {K : am_K} {mi : Nat → Nat → Int32} {ml : Nat → Nat → Int64} {c : Nat → Nat} {n : Nat} {on : Nat → Nat} {no : Nat} {pn : Nat → Nat} {np p : Nat} {m0 : Nat → Nat → Int32} {s e e' dep : Nat} {op : Nat → Nat} {pl : Nat → Nat → Nat}
/-- any change that keeps counters and rows -/
theorem CSn_up {mi' : Nat → Nat → Int32} {q s' e1 dep' : Nat} {op' : Nat → Nat} (h : CSn c n m0 s e e' dep op pl p mi) (hf : ∀ k j, ¬ (k = 106 ∧ (12 ≤ j ∧ j ≤ 15 ∨ j = 22 ∨ j = 23)) → ¬ (k = 107 ∧ (j = 1672 ∨ 1712 + 6 * e ≤ j)) → k ≠ 114 → mi' k j = mi k j) (h1 : mi' 107 1672 = nI e1) (h2 : mi' 106 22 = nI dep') (h3 : mi' 106 23 = nI s') (h4 : ∀ i, i < dep' → mi' 114 i = nI (op' i)) (ho : ∀ k, k < e → ¬ opn dep' op' k → ¬ opn dep op k) (hM : TM c n q mi') : CSn c n m0 s' e e1 dep' op' pl q mi' := by
  obtain ⟨a1, -, ⟨b1, b2⟩, b3, -, b4, b5⟩ := h
  refine ⟨fun k j z1 z2 z3 => by rw [hf k j (by omega) (by omega) z3]; exact a1 k j z1 z2 z3, ⟨h1, h2, h3, h4⟩, ⟨fun k hk => ?_, fun k hk hb hn => by rw [hf 107 _ (by omega) (by omega) (by omega)]; exact b2 k hk hb (ho k hk hn)⟩, TXm_fr b3 (fun k j z => hf k j (by omega) (by omega) (by omega)), hM, by rw [hf 106 18 (by omega) (by omega) (by omega)]; exact b4, by rw [hf 106 17 (by omega) (by omega) (by omega)]; exact b5⟩
  have := b1 k hk
  unfold RKe at *
  rw [hf 107 _ (by omega) (by omega) (by omega), hf 107 _ (by omega) (by omega) (by omega), hf 107 _ (by omega) (by omega) (by omega), hf 107 _ (by omega) (by omega) (by omega)]
  exact this
theorem CSn_M {mi' : Nat → Nat → Int32} {q : Nat} (h : CSn c n m0 s e e' dep op pl p mi) (f : frM mi mi') (hM : TM c n q mi') : CSn c n m0 s e e' dep op pl q mi' :=
  CSn_up h (fun k j z1 z2 z3 => f k j (by omega)) (by rw [f 107 1672 (by omega)]; exact h.2.1.1) (by rw [f 106 22 (by omega)]; exact h.2.1.2.1) (by rw [f 106 23 (by omega)]; exact h.2.1.2.2.1) (fun i hi => by rw [f 114 i (by omega)]; exact h.2.1.2.2.2 i hi) (fun k _ z => z) hM
theorem CSn_set {to : Nat} {v : Int32} (h : CSn c n m0 s e e' dep op pl p mi) (hto : 1712 + 6 * e ≤ to) : CSn c n m0 s e e' dep op pl p (am_si mi 107 to v) :=
  CSn_up h (fun k j z1 z2 z3 => si_f (by omega)) (by rw [si_f (by omega)]; exact h.2.1.1) (by rw [si_f (by omega)]; exact h.2.1.2.1) (by rw [si_f (by omega)]; exact h.2.1.2.2.1) (fun i hi => by rw [si_f (by omega)]; exact h.2.1.2.2.2 i hi) (fun k _ z => z) (TM_fr h.2.2.2.2.1 (fun j z z => si_f (by omega)))
theorem Bym_Y {k t : Nat} {mi' : Nat → Nat → Int32} (h : CSn c n m0 s e e' dep op pl p mi) (hB : Bym K m0 ml k t) (f : frY mi mi') (hf : FLM k t mi') : K (some (.int (nI 0))) (S0, mi', ml) :=
  hB _ (fun k j z1 z2 z3 => by rw [f k j (by omega)]; exact h.1 k j z1 z2 z3) hf
theorem s_flM {k : Nat} {K' : am_K} (hC : CSn c n m0 s e e' dep op pl p mi) (hP : PF K K') (hB : Bym K m0 ml (badK c n p k) (tkS c n p)) : cq E (d + 1) 208 [.ref 106, .int (nI k)] K' mi ml :=
  s_fails hC.2.2.2.2.1 hC.2.2.2.2.2.1 (fun m f h => hP _ _ (Bym_Y hC hB f h))
theorem s_omM (hE : EK E) (hN : NMr on no pn np m0 ml) (hC : CSn c n m0 s e e' dep op pl p mi) (hp : p ≤ n) (he : e < 60) (h : omW c n on no p (fun t => ∀ m, CSn c n m0 s e e' dep op pl (tkE c n p) m → (∀ j, j ≠ 1712 + 6 * e + 1 → m 107 j = mi 107 j) → m 107 (1712 + 6 * e + 1) = nI t → K (some (.int (nI 1))) (S0, m, ml)) (Bym K m0 ml)) : cq E (d + 9) 230 [.ref 106, .int (nI (1712 + 6 * e + 1))] K mi ml := by
  obtain ⟨n1, n2, n3, n4, n5, n6⟩ := hN
  apply en_X10_omenTo
  rw [hC.1 107 0 (by omega) (by omega) (by omega), n3]
  refine s_oldOne (B := Bym K m0 ml) hE hC.2.2.2.1 hC.2.2.2.2.1 hp hC.2.2.2.2.2.1 (by omega) (by omega) n5 (fun k s hb m f hf => rg_X10_omenTo_12 ⟨Or.inl rfl, hb m (fun k j z1 z2 z3 => by rw [f k j (by omega) (by omega)]; exact hC.1 k j z1 z2 z3) hf⟩) (nmW_mono (fun q h2 => ⟨h2.1, fun q2 m f hM => rg_X10_omenTo_12 ⟨Or.inr rfl, h2.2 q2 m (CSn_M (CSn_set hC (by omega)) f hM) (fun j z => by rw [f 107 j (by omega), si_f (by omega)]) (by rw [f 107 _ (by omega), si_t ⟨rfl, rfl⟩])⟩⟩) (fun _ _ hb => hb) h)
theorem s_peM (hE : EK E) (hN : NMr on no pn np m0 ml) (hC : CSn c n m0 s e e' dep op pl p mi) (hp : p ≤ n) (he : e < 60) (h : omW c n pn np p (fun t => ∀ m, CSn c n m0 s e e' dep op pl (tkE c n p) m → (∀ j, j ≠ 1712 + 6 * e + 1 → m 107 j = mi 107 j) → m 107 (1712 + 6 * e + 1) = nI t → K (some (.int (nI 1))) (S0, m, ml)) (Bym K m0 ml)) : cq E (d + 9) 229 [.ref 106, .int (nI (1712 + 6 * e + 1))] K mi ml := by
  obtain ⟨n1, n2, n3, n4, n5, n6⟩ := hN
  apply en_X10_personTo
  rw [hC.1 107 1 (by omega) (by omega) (by omega), n4]
  refine s_oldOne (B := Bym K m0 ml) hE hC.2.2.2.1 hC.2.2.2.2.1 hp hC.2.2.2.2.2.1 (by omega) (by omega) n6 (fun k s hb m f hf => rg_X10_personTo_13 ⟨Or.inl rfl, hb m (fun k j z1 z2 z3 => by rw [f k j (by omega) (by omega)]; exact hC.1 k j z1 z2 z3) hf⟩) (nmW_mono (fun q h2 => ⟨h2.1, fun q2 m f hM => rg_X10_personTo_13 ⟨Or.inr rfl, h2.2 q2 m (CSn_M (CSn_set hC (by omega)) f hM) (fun j z => by rw [f 107 j (by omega), si_f (by omega)]) (by rw [f 107 _ (by omega), si_t ⟨rfl, rfl⟩])⟩⟩) (fun _ _ hb => hb) h)
theorem s_noM {lo hi i : Nat} {K' : am_K} (hC : CSn c n m0 s e e' dep op pl p mi) (hp : p ≤ n) (he : e < 60) (hi6 : i < 6) (hlo : lo < 1000) (hhi : hi < 1000) (hP : PF K K') (h : numW c n p lo hi (∀ m, CSn c n m0 s e e' dep op pl (tkE c n p) m → (∀ j, j ≠ 1712 + 6 * e + i → m 107 j = mi 107 j) → m 107 (1712 + 6 * e + i) = nI (tkV c n p) → K' (some (.int (nI 1))) (S0, m, ml)) (Bym K m0 ml)) : cq E (d + 3) 212 [.ref 106, .int (nI (1712 + 6 * e + i)), .int (nI lo), .int (nI hi)] K' mi ml := by
  apply s_number hC.2.2.2.1 hC.2.2.2.2.1 hp hC.2.2.2.2.2.1 (by omega) hlo hhi
  · intro q m f hM
    exact h.1 q m (CSn_M (CSn_set hC (by omega)) f hM) (fun j z => by rw [f 107 j (by omega), si_f (by omega)]) (by rw [f 107 _ (by omega), si_t ⟨rfl, rfl⟩])
  · intro q m f hf
    exact hP _ _ (Bym_Y hC (h.2 q) f hf)
def wmr (w t : Nat) : Nat := if w = 17 then (if t = 8 then 1709 else if t = 18 then 1721 else 1708) else if w = 19 then 18 else if w = 20 then 19 else if w = 21 then 20 else w
def RKs (e w t sg th v : Nat) (m : Nat → Nat → Int32) : Prop := m 107 (1712 + 6 * e) = nI (wmr w t) ∧ ((12 ≤ w ∧ w ≤ 15 ∨ w = 17) → m 107 (1712 + 6 * e + 1) = nI th) ∧ (w = 19 → m 107 (1712 + 6 * e + 1) = nI v) ∧ ((w = 15 ∨ (w = 17 ∧ t = 7)) → m 107 (1712 + 6 * e + 2) = nI v) ∧ ((w = 17 ∧ t = 7) → m 107 (1712 + 6 * e + 5) = nI sg)
def Cmy (c : Nat → Nat) (n : Nat) (K : am_K) (m0 : Nat → Nat → Int32) (ml : Nat → Nat → Int64) (s e e' dep : Nat) (op : Nat → Nat) (pl : Nat → Nat → Nat) (w p t sg th v : Nat) : Prop := ∀ m, CSn c n m0 s e e' dep op pl p m → RKs e w t sg th v m → K (some (.int (nI 1))) (S0, m, ml)
theorem s_tsM (hE : EK E) (hN : NMr on no pn np m0 ml) (hC : CSn c n m0 s e e' dep op pl p mi) (hp : p ≤ n) (he : e < 60) (h : tstW c n on no pn np p (Cmy c n K m0 ml s e e' dep op pl 17) (Bym K m0 ml)) : cq E (d + 10) 231 [.ref 106, .int (nI (1712 + 6 * e))] K mi ml := by
  have e1 := tkE_ge (c := c) hp
  have e2 := tkE_ge (c := c) e1.2
  have e3 := tkE_ge (c := c) e2.2
  have e4 := tkE_ge (c := c) e3.2
  have hin : vp_in (nI (1712 + 6 * e)) 2592 := by rw [ni_in (by omega)]; omega
  have t8 : (nP (toM (tkW c n p)) = nI 9) ↔ tkW c n p = 8 + 1 := toM_iff (w := 8) (by omega)
  have t7 : (nP (toM (tkW c n p)) = nI 8) ↔ tkW c n p = 7 + 1 := toM_iff (w := 7) (by omega)
  have t18 : (nP (toM (tkW c n p)) = nI 21) ↔ tkW c n p = 18 + 1 := toM_iff (w := 18) (by omega)
  apply en_X10_test
  apply s_inWords (d := d + 3) hE hC.2.2.2.1 hC.2.2.2.2.1 hp
  apply rg_X10_test_6
  by_cases q8 : tkW c n p = 8 + 1
  · rw [t8.mpr q8, ni_cl (by omega), nI_add]
    refine br_t rfl ⟨hin, ?_⟩
    have hC1 := CSn_set (v := nI (1700 + 9)) hC (Nat.le_refl (1712 + 6 * e))
    apply s_next (d := d + 7) hC1.2.2.2.1 hC1.2.2.2.2.1 hp
    intro m f hM
    have hC2 := CSn_M hC1 f hM
    have w0 : m 107 (1712 + 6 * e) = nI 1709 := by rw [f 107 _ (by omega), si_t ⟨rfl, rfl⟩]
    apply rg_X10_test_46
    refine br_t (by decide) ?_
    rw [nI_add]
    refine s_peM hE hN hC2 e1.2 he (omW_mono (Bym_P (fun m l hh => rg_X10_test_67 (br_f (fun z => z rfl) hh))) (fun t ht hc m2 hC3 hr h1 => ?_) (h.1 q8))
    apply rg_X10_test_67
    refine br_t n10 (br_f (fun z => z rfl) (hc m2 hC3 ⟨by rw [hr _ (by omega)]; exact w0, fun _ => h1, fun z => by omega, fun z => by omega, fun z => by omega⟩))
  by_cases q18 : tkW c n p = 18 + 1
  · rw [t18.mpr q18, ni_cl (by omega), nI_add]
    refine br_f (by decide) (br_f (by decide) (br_t rfl ⟨hin, ?_⟩))
    have hC1 := CSn_set (v := nI (1700 + 21)) hC (Nat.le_refl (1712 + 6 * e))
    apply s_next (d := d + 7) hC1.2.2.2.1 hC1.2.2.2.2.1 hp
    intro m f hM
    have hC2 := CSn_M hC1 f hM
    have w0 : m 107 (1712 + 6 * e) = nI 1721 := by rw [f 107 _ (by omega), si_t ⟨rfl, rfl⟩]
    apply rg_X10_test_46
    refine br_f (fun z => z rfl) ?_
    rw [nI_add]
    refine s_omM hE hN hC2 e1.2 he (omW_mono (Bym_P (fun m l hh => rg_X10_test_59 ⟨Or.inl rfl, hh⟩)) (fun t ht hc m2 hC3 hr h1 => ?_) ((h.2 q8).1 q18))
    exact rg_X10_test_59 ⟨Or.inr rfl, hc m2 hC3 ⟨by rw [hr _ (by omega)]; exact w0, fun _ => h1, fun z => by omega, fun z => by omega, fun z => by omega⟩⟩
  by_cases q7 : tkW c n p = 7 + 1
  · rw [t7.mpr q7, ni_cl (by omega), nI_add]
    refine br_f (by decide) (br_t rfl ⟨hin, ?_⟩)
    have hC1 := CSn_set (v := nI (1700 + 8)) hC (Nat.le_refl (1712 + 6 * e))
    apply s_next (d := d + 7) hC1.2.2.2.1 hC1.2.2.2.2.1 hp
    intro m f hM
    have hC2 := CSn_M hC1 f hM
    have w0 : m 107 (1712 + 6 * e) = nI 1708 := by rw [f 107 _ (by omega), si_t ⟨rfl, rfl⟩]
    apply rg_X10_test_46
    refine br_t (by decide) ?_
    rw [nI_add]
    refine s_peM hE hN hC2 e1.2 he (omW_mono (Bym_P (fun m l hh => rg_X10_test_67 (br_f (fun z => z rfl) hh))) (fun t ht hc m2 hC3 hr h1 => ?_) (((h.2 q8).2 q18).1 q7))
    apply rg_X10_test_67
    refine br_t n10 (br_t (by decide) ?_)
    have hk4 := tmK_eq (v := 0) (tkK_le c n (tkE c n (tkE c n p)))
    have m3 := hC3.2.2.2.2.1.2.2.1
    have k4 : (m2 106 12 = nI 4) ↔ tkK c n (tkE c n (tkE c n p)) = 2 := by rw [m3, tm_eq (by omega), hk4.2.2.2.2]
    by_cases cm : cmpP c n (tkE c n (tkE c n p))
    · have v5 := hC3.2.2.2.2.1.2.2.2.2 cm.1
      have hcc := cmp_c cm
      have go : rn E (d + 9) 231 K 113 [.ref 106, .int (nI (1712 + 6 * e)), am_mk] [] m2 ml := by
        apply rg_X10_test_113
        rw [v5, nI_add, ni_cl (by omega)]
        refine ⟨by rw [ni_in (by omega)]; omega, ?_⟩
        have hC4 := CSn_set (to := 1712 + 6 * e + 5) (v := nI (c (tkS c n (tkE c n (tkE c n p))))) hC3 (by omega)
        apply s_next (d := d + 7) hC4.2.2.2.1 hC4.2.2.2.2.1 e2.2
        intro m4 f4 hM4
        have hC5 := CSn_M hC4 f4 hM4
        apply rg_X10_test_129
        rw [nI_add]
        have P : PAS K (kc E (d + 9) 231 K 139 [am_mk, am_mk, am_mk] []) := fun r m l q hh => rg_X10_test_139 ⟨q, hh⟩
        refine s_noM (d := d + 6) (K := K) hC5 e3.2 he (by omega) (by omega) (by omega) (PAS_F P) (numW_mono (fun q5 hc2 m5 hC6 hr2 h2 => P _ _ _ (Or.inr rfl) (hc2 m5 hC6 ⟨?_, fun _ => ?_, fun z => by omega, fun _ => h2, fun _ => ?_⟩)) (fun _ _ hb => hb) (hc.1 cm))
        · rw [hr2 _ (by omega), f4 107 _ (by omega), si_f (by omega), hr _ (by omega)]; exact w0
        · rw [hr2 _ (by omega), f4 107 _ (by omega), si_f (by omega)]; exact h1
        · rw [hr2 _ (by omega), f4 107 _ (by omega), si_t ⟨rfl, rfl⟩]
      have ne : ∀ a, (m2 106 15 = nI a) ↔ m2 106 15 = nI a := fun _ => Iff.rfl
      rcases hcc with z | z | z
      · rw [z] at v5
        apply rg_X10_test_80
        rw [k4, v5]
        exact br_f (fun y => y cm.1) (br_f (fun y => y rfl) go)
      · rw [z] at v5
        apply rg_X10_test_80
        rw [k4, v5]
        refine br_f (fun y => y cm.1) (br_t (by decide) ?_)
        apply rg_X10_test_89
        rw [k4, v5]
        refine br_f (fun y => y cm.1) (br_t (by decide) ?_)
        apply rg_X10_test_98
        rw [k4, v5]
        exact br_f (fun y => y cm.1) (br_f (fun y => y rfl) go)
      · rw [z] at v5
        apply rg_X10_test_80
        rw [k4, v5]
        refine br_f (fun y => y cm.1) (br_t (by decide) ?_)
        apply rg_X10_test_89
        rw [k4, v5]
        exact br_f (fun y => y cm.1) (br_f (fun y => y rfl) go)
    · have bad : cq E (d + 9) 208 [.ref 106, .int (nI 2)] (kc E (d + 9) 231 K 112 [am_mk, am_mk, am_mk] []) m2 ml := s_flM (d := d + 8) (K := K) hC3 (fun m l hh => rg_X10_test_112 ⟨Or.inl rfl, hh⟩) (hc.2 cm)
      apply rg_X10_test_80
      rw [k4]
      by_cases k2 : tkK c n (tkE c n (tkE c n p)) = 2
      · have v5 := hC3.2.2.2.2.1.2.2.2.2 k2
        have z : c (tkS c n (tkE c n (tkE c n p))) = 59 := Classical.byContradiction (fun y => cm ⟨k2, y⟩)
        rw [z] at v5
        rw [v5]
        refine br_f (fun y => y k2) (br_t (by decide) ?_)
        apply rg_X10_test_89
        rw [k4, v5]
        refine br_f (fun y => y k2) (br_t (by decide) ?_)
        apply rg_X10_test_98
        rw [k4, v5]
        exact br_f (fun y => y k2) (br_t (by decide) bad)
      · refine br_t k2 ?_
        apply rg_X10_test_89
        rw [k4]
        refine br_t k2 ?_
        apply rg_X10_test_98
        rw [k4]
        exact br_t k2 bad
  rw [t8, t7, t18]
  refine br_f q8 (br_f q7 (br_f q18 ?_))
  exact s_flM (d := d + 8) (K := K) hC (fun m l hh => rg_X10_test_30 ⟨Or.inl rfl, hh⟩) (((h.2 q8).2 q18).2 q7)
theorem s_orM {w : Nat} (hE : EK E) (hN : NMr on no pn np m0 ml) (hC : CSn c n m0 s e e' dep op pl p mi) (hp : p ≤ n) (he : e < 60) (hw : isSp w) (h0 : mi 107 (1712 + 6 * e) = nI (iot w)) (h : detW c n on no pn np w p (Cmy c n K m0 ml s e e' dep op pl w) (Bym K m0 ml)) : cq E (d + 11) 232 [.ref 106, .int (nI (iot w)), .int (nI (1712 + 6 * e))] K mi ml := by
  have e1 := tkE_ge (c := c) hp
  obtain ⟨w1, w2, w3, w4⟩ := hw
  have hcs : w = 11 ∨ w = 12 ∨ w = 13 ∨ w = 14 ∨ w = 15 ∨ w = 16 ∨ w = 17 ∨ w = 19 ∨ w = 21 := by omega
  have P51 : PAS K (kc E (d + 10) 232 K 51 [am_mk, am_mk, am_mk] []) := fun r m l q hh => rg_X10_yearOrder_51 ⟨q, hh⟩
  have P59 : PAS K (kc E (d + 10) 232 K 59 [am_mk, am_mk, am_mk] []) := fun r m l q hh => rg_X10_yearOrder_59 ⟨q, hh⟩
  have P99 : PAS K (kc E (d + 10) 232 K 99 [am_mk, am_mk, am_mk] []) := fun r m l q hh => rg_X10_yearOrder_99 ⟨q, hh⟩
  have P105 : PAS K (kc E (d + 10) 232 K 105 [am_mk, am_mk, am_mk] []) := fun r m l q hh => rg_X10_yearOrder_105 ⟨q, hh⟩
  have P80 : PAS K (kc E (d + 10) 232 K 80 [am_mk, am_mk, am_mk] []) := fun r m l q hh => rg_X10_yearOrder_80 (pas_1 q hh)
  apply en_X10_yearOrder
  rw [nI_add]
  rcases hcs with rfl | rfl | rfl | rfl | rfl | rfl | rfl | rfl | rfl
  · refine ⟨fun z => absurd z (by decide), fun z => absurd z (by decide), fun z => absurd z (by decide), fun z => absurd z (by decide), fun z => absurd z (by decide), fun z => absurd z (by decide), fun _ _ _ _ _ _ => ?_⟩
    exact (((((h.2 (by omega)).2 (by omega)).2 (by omega)).2 (by omega)).2 (by omega)) _ hC ⟨h0, fun z => by omega, fun z => by omega, fun z => by omega, fun z => by omega⟩
  · refine ⟨fun _ => ?_, fun z => absurd z (by decide), fun z => absurd z (by decide), fun z => absurd z (by decide), fun z => absurd z (by decide), fun z => absurd z (by decide), fun z0 z1 z2 z3 z4 z5 => absurd rfl z0⟩
    exact s_omM (d := d + 1) hE hN hC hp he (omW_mono (Bym_P (PAS_F P51)) (fun t ht hc m2 hC3 hr h1 => P51 _ _ _ (Or.inr rfl) (hc m2 hC3 ⟨by rw [hr _ (by omega)]; exact h0, fun _ => h1, fun z => by omega, fun z => by omega, fun z => by omega⟩)) (h.1 (by omega)))
  · refine ⟨fun z => absurd z (by decide), fun _ => ?_, fun z => absurd z (by decide), fun z => absurd z (by decide), fun z => absurd z (by decide), fun z => absurd z (by decide), fun z0 z1 z2 z3 z4 z5 => absurd rfl z1⟩
    exact s_omM (d := d + 1) hE hN hC hp he (omW_mono (Bym_P (PAS_F P51)) (fun t ht hc m2 hC3 hr h1 => P51 _ _ _ (Or.inr rfl) (hc m2 hC3 ⟨by rw [hr _ (by omega)]; exact h0, fun _ => h1, fun z => by omega, fun z => by omega, fun z => by omega⟩)) (h.1 (by omega)))
  · refine ⟨fun z => absurd z (by decide), fun z => absurd z (by decide), fun _ => ?_, fun z => absurd z (by decide), fun z => absurd z (by decide), fun z => absurd z (by decide), fun z0 z1 z2 z3 z4 z5 => absurd rfl z2⟩
    exact s_peM (d := d + 1) hE hN hC hp he (omW_mono (Bym_P (PAS_F P59)) (fun t ht hc m2 hC3 hr h1 => P59 _ _ _ (Or.inr rfl) (hc m2 hC3 ⟨by rw [hr _ (by omega)]; exact h0, fun _ => h1, fun z => by omega, fun z => by omega, fun z => by omega⟩)) ((h.2 (by omega)).1 rfl))
  · refine ⟨fun z => absurd z (by decide), fun z => absurd z (by decide), fun z => absurd z (by decide), fun _ => ?_, fun z => absurd z (by decide), fun z => absurd z (by decide), fun z0 z1 z2 z3 z4 z5 => absurd rfl z3⟩
    refine s_peM (d := d + 1) hE hN hC hp he (omW_mono (Bym_P (fun m l hh => rg_X10_yearOrder_67 (br_t rfl hh))) (fun t ht hc m2 hC3 hr h1 => ?_) (((h.2 (by omega)).2 (by omega)).1 rfl))
    apply rg_X10_yearOrder_67
    rw [nI_add]
    refine br_f n10 ?_
    exact s_noM (d := d + 7) (K := K) hC3 e1.2 he (by omega) (by omega) (by omega) (PAS_F P80) (numW_mono (fun q5 hc2 m5 hC6 hr2 h2 => P80 _ _ _ (Or.inr rfl) (hc2 m5 hC6 ⟨by rw [hr2 _ (by omega), hr _ (by omega)]; exact h0, fun _ => by rw [hr2 _ (by omega)]; exact h1, fun z => by omega, fun _ => h2, fun z => by omega⟩)) (fun _ _ hb => hb) hc)
  · refine ⟨fun z => absurd z (by decide), fun z => absurd z (by decide), fun z => absurd z (by decide), fun z => absurd z (by decide), fun z => absurd z (by decide), fun z => absurd z (by decide), fun _ _ _ _ _ _ => ?_⟩
    exact (((((h.2 (by omega)).2 (by omega)).2 (by omega)).2 (by omega)).2 (by omega)) _ hC ⟨h0, fun z => by omega, fun z => by omega, fun z => by omega, fun z => by omega⟩
  · refine ⟨fun z => absurd z (by decide), fun z => absurd z (by decide), fun z => absurd z (by decide), fun z => absurd z (by decide), fun _ => ?_, fun z => absurd z (by decide), fun z0 z1 z2 z3 z4 z5 => absurd rfl z4⟩
    exact s_tsM hE hN hC hp he (tstW_mono hp (Bym_P (PAS_F P105)) (fun p' t sg th v _ _ _ hc m2 hC3 hr => P105 _ _ _ (Or.inr rfl) (hc m2 hC3 hr)) (((((h.2 (by omega)).2 (by omega)).2 (by omega)).2 (by omega)).1 rfl))
  · refine ⟨fun z => absurd z (by decide), fun z => absurd z (by decide), fun z => absurd z (by decide), fun z => absurd z (by decide), fun z => absurd z (by decide), fun _ => ?_, fun z0 z1 z2 z3 z4 z5 => absurd rfl z5⟩
    exact s_noM (d := d + 7) (K := K) hC hp he (by omega) (by omega) (by omega) (PAS_F P99) (numW_mono (fun q5 hc2 m5 hC6 hr h2 => P99 _ _ _ (Or.inr rfl) (hc2 m5 hC6 ⟨by rw [hr _ (by omega)]; exact h0, fun z => by omega, fun _ => h2, fun z => by omega, fun z => by omega⟩)) (fun _ _ hb => hb) ((((h.2 (by omega)).2 (by omega)).2 (by omega)).1 rfl))
  · refine ⟨fun z => absurd z (by decide), fun z => absurd z (by decide), fun z => absurd z (by decide), fun z => absurd z (by decide), fun z => absurd z (by decide), fun z => absurd z (by decide), fun _ _ _ _ _ _ => ?_⟩
    exact (((((h.2 (by omega)).2 (by omega)).2 (by omega)).2 (by omega)).2 (by omega)) _ hC ⟨h0, fun z => by omega, fun z => by omega, fun z => by omega, fun z => by omega⟩
end
