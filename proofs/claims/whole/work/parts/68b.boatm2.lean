/-! A boat's text, by the reference: a person, who is blind, a part. -/
theorem s_excuses {E : am_E} {d : Nat} {K : am_K} {mi : Nat → Nat → Int32} {ml : Nat → Nat → Int64} {c : Nat → Nat} {n to m r np t : Nat} {K' : am_K} {m0 : Nat → Nat → Int32} {l0 : Nat → Nat → Int64} {a1 on pn : Nat → Nat} {G : Nat → Nat → Prop} (hE : EK E) (hto : to < 2592) (h0 : a1 0 = m) (hm : m ≤ 6) (hP : PF K K') (hC : CSm c n m0 l0 a1 on m pn np t r mi ml) (hr : r ≤ n) (hk : ∀ p s mi', p ≤ n → s < 2 ^ m → CSm c n m0 l0 a1 on m pn np t p mi' ml → stopW c n p (G (tkE c n p) s) (Bm K m0 l0) → K' (some (.int (nI 1))) (S0, am_si mi' 107 to (nI s), ml)) (h : excW c n on m G (Bm K m0 l0) 7 r 0) : cq E (d + 8) 223 [.ref 106, .int (nI to)] K' mi ml := by
  have key : ∀ f i, i + f = 7 → ∀ r s mi, CSm c n m0 l0 a1 on m pn np t r mi ml → r ≤ n → s < 2 ^ m → cnt6 s = i → excW c n on m G (Bm K m0 l0) f r s → rn E (d + 7) 223 K' 2 [.ref 106, .int (nI to), .int (nI s), am_mk] [] mi ml := by
    intro f
    induction f with
    | zero =>
      intro i hi r s mi _ _ _ hc _
      have := cnt6_le s
      omega
    | succ f ih =>
      intro i hi r s mi hC hr hs hcn h
      have hs64 : s < 64 := Nat.lt_of_lt_of_le hs (Nat.pow_le_pow_right (n := 2) (by omega) hm)
      have e1 := tkE_ge (c := c) hr
      have hfl := fnd_le on (tkC c n r) m
      apply rg_X10_excuses_2
      apply s_isName hE hC.2.2.2.1 hC.2.2.2.2.1 hr
      · intro q
        obtain ⟨h5, h6⟩ := h.1 q
        apply rg_X10_excuses_8
        refine br_f n10 ?_
        rw [hC.2.1.1 0 (by omega) (by omega), h0]
        apply s_findHere (d := d + 4) hC.2.2.2.1 hC.2.2.2.2.1 hr q (by omega) hC.2.2.1.1
        apply rg_X10_excuses_25
        rw [nP_0 (by omega)]
        refine ⟨fun q2 => ?_, fun q2 => s_failM (d := d + 6) (K := K) hC (fun m l hh => rg_X10_excuses_36 ⟨Or.inl rfl, hP _ _ hh⟩) (by rw [badK_n (by rw [q.1]; omega)]; exact h5 (Classical.byContradiction q2))⟩
        obtain ⟨h7, h8⟩ := h6 q2
        generalize ef : fnd on (tkC c n r) m = u at *
        obtain ⟨u', rfl⟩ : ∃ u', u = u' + 1 := ⟨u - 1, by omega⟩
        rw [Nat.add_sub_cancel] at h7 h8
        rw [nP_s, ni_bit (by omega) (by omega), ni_b1, ms_or (by omega)]
        refine ⟨fun q3 => ?_, fun q3 => s_failM (d := d + 6) (K := K) hC (fun m l hh => rg_X10_excuses_51 ⟨Or.inl rfl, hP _ _ hh⟩) (by rw [badK_n (by rw [q.1]; omega)]; exact h7 (Classical.byContradiction q3))⟩
        apply s_next (d := d + 5) hC.2.2.2.1 hC.2.2.2.2.1 hr
        intro m2 f2 hM2
        apply rg_X10_excuses_62
        exact ih (i + 1) (by omega) _ _ _ (CSm_M hC f2 hM2) e1.2 (or_lt hs (by omega)) (by rw [cnt6_or s hs64 u' (by omega) q3, hcn]) (h8 q3)
      · intro q
        apply rg_X10_excuses_8
        rw [ni_cl (by omega)]
        exact br_t rfl ⟨by rw [ni_in (by omega)]; omega, hk r s mi hr hs hC (h.2 q)⟩
  apply en_X10_excuses
  exact key 7 0 rfl r 0 mi hC hr (Nat.pow_pos (by omega)) (by decide) h
theorem s_aPerson {E : am_E} {d : Nat} {K : am_K} {mi : Nat → Nat → Int32} {ml : Nat → Nat → Int64} {c : Nat → Nat} {n : Nat} {K' : am_K} {m0 : Nat → Nat → Int32} {l0 : Nat → Nat → Int64} {x : BSt} (hE : EK E) (hx : WFb x) (hC : CSm c n m0 l0 x.2.1 x.2.2.1 (x.2.1 0) x.2.2.2.1 (x.2.1 1) x.2.2.2.2 x.1 mi ml) (hp : x.1 ≤ n) (hK : tkK c n x.1 = 0) (hS : STP c n m0 l0 K K') (h : persW c n x (Gm c n K m0 l0) (Bm K m0 l0)) : cq E (d + 9) 224 [.ref 106] K' mi ml := by
  have e1 := tkE_ge (c := c) hp
  have e2 := tkE_ge (c := c) e1.2
  have e3 := tkE_ge (c := c) e2.2
  have e4 := tkE_ge (c := c) e3.2
  have e5 := tkE_ge (c := c) e4.2
  have x0 : x.2.1 0 ≤ 6 := hx.1.1.1.1
  have x1 : x.2.1 1 ≤ 8 := hx.1.1.1.2.1
  have xz := hx.2.1
  have hF := hS.1
  apply en_X10_aPerson
  rw [hC.2.1.1 1 (by omega) (by omega), ni_mul, nI_add, nI_add]
  generalize eq : x.2.1 1 = q at *
  have P27 : PF K (kc E (d + 8) 224 K' 27 [.ref 106, .int (nI q), .int (nI (1664 + (16 + 4 * q)))] []) := fun m l hh => rg_X10_aPerson_27 (br_t rfl (hF m l hh))
  refine s_newOne hE hx (Or.inr ⟨rfl, rfl, rfl⟩) (by rw [eq]; exact hC) hp hK (fun z => Bm_P P27 _ _ (h.1 z)) (fun z => nmW_mono (fun q2 h2 => ⟨fun q3 => Bm_P P27 _ _ (h2.1 q3), fun q3 m1 f1 hM1 => ?_⟩) (Bm_P P27) (h.2 z))
  have hq8 : q < 8 := by rw [eq] at z; omega
  have h3 := h2.2 q3
  have hC1 := CSm_M hC f1 hM1
  rw [eq]
  generalize ee : tkC c n (tkE c n x.1) = e at *
  have he : e < 32 ^ 8 := by rw [← ee]; exact tkC_lt _ _ _
  have hC2 : CSm c n m0 l0 x.2.1 x.2.2.1 (x.2.1 0) (up1 x.2.2.2.1 q e) (q + 1) x.2.2.2.2 (tkE c n (tkE c n x.1)) m1 (am_sj ml 108 (56 + 6 + q) (lN (cvn 8 e))) := by
    obtain ⟨⟨a1, a2⟩, a3, ⟨a4, a5⟩, a6⟩ := hC1
    exact ⟨⟨a1, fun k j z => by rw [sj_f (by omega)]; exact a2 k j z⟩, a3, ⟨NMm_x a4 (Or.inr (by omega)), NMm_s (NMm_x a5 (Or.inr (by omega))) he (sj_t ⟨rfl, by omega⟩)⟩, a6⟩
  generalize am_sj ml 108 (56 + 6 + q) (lN (cvn 8 e)) = ml1 at *
  apply rg_X10_aPerson_27
  refine br_f n10 ?_
  apply s_wantWord (d := d + 1) (w := 7) hE hC2.2.2.2.1 hM1 e2.2 hC2.2.2.2.2.2.1 (by omega)
  · intro q4 m2 f2 hM2
    have h4 := h3.1 q4
    have hC3 := CSm_M hC2 f2 hM2
    apply rg_X10_aPerson_38
    refine br_f n10 ?_
    apply s_number (d := d + 5) hC3.2.2.2.1 hM2 e3.2 hC3.2.2.2.2.2.1 (by omega) (by omega) (by omega)
    · intro q5 m3 f3 hM3
      have h5 := h4.1 q5
      have hC4 := CSm_M (CSm_set (k := 16 + 4 * q) (v := tkV c n (tkE c n (tkE c n (tkE c n x.1)))) hC3 (by omega) (by omega)) f3 hM3
      generalize tkV c n (tkE c n (tkE c n (tkE c n x.1))) = v at *
      generalize er : tkE c n (tkE c n (tkE c n (tkE c n x.1))) = r at *
      -- the count
      have cnt : ∀ {m p} {b0 a1 : Nat → Nat}, CSm c n m0 l0 b0 x.2.2.1 (x.2.1 0) (up1 x.2.2.2.1 q e) (q + 1) x.2.2.2.2 p m ml1 → b0 1 = q → (∀ k, k < 48 → a1 k = up1 b0 1 (q + 1) k) → a1 0 = x.2.1 0 → CSm c n m0 l0 a1 x.2.2.1 (a1 0) (up1 x.2.2.2.1 q e) (a1 1) x.2.2.2.2 p (am_si m 107 1665 (m 107 1665 + nI 1)) ml1 := fun {m p b0 a1} hh hb ha h0 => by
        have z1 : m 107 1665 = nI q := by
          have := hh.2.1.1 1 (by omega) (by omega)
          rw [hb] at this; exact this
        have z2 : a1 1 = q + 1 := by rw [ha 1 (by omega)]; exact up1_at
        rw [z1, nI_add, z2, h0]
        exact CSm_ext (CSm_set (k := 1) (v := q + 1) hh (by omega) (by omega)) ha
      -- excuses or none
      have tail : ∀ {m r} {b0 a1 : Nat → Nat}, r ≤ n → CSm c n m0 l0 b0 x.2.2.1 (x.2.1 0) (up1 x.2.2.2.1 q e) (q + 1) x.2.2.2.2 r m ml1 → b0 0 = x.2.1 0 → b0 1 = q → (∀ k, k < 48 → a1 k = up1 b0 1 (q + 1) k) → persT c n r x a1 (up1 x.2.2.2.1 q e) (Gm c n K m0 l0) (Bm K m0 l0) → cq E (d + 8) 219 [.ref 106, .int (nI 10)] (kc E (d + 8) 224 K' 87 [.ref 106, am_mk, .int (nI (1664 + (16 + 4 * q)))] []) m ml1 := fun {m r b0 a1} hr hh b00 b01 ha hT => by
        have a10 : a1 0 = x.2.1 0 := by rw [ha 0 (by omega), up1_f (by omega)]; exact b00
        apply s_isThere (d := d + 1) (w := 9) hE hh.2.2.2.1 hh.2.2.2.2.1 hr (by omega)
        · intro q6 m4 f4 hM4
          have hC5 := CSm_M hh f4 hM4
          have hT2 := hT.1 q6
          rw [eq] at hT2
          apply rg_X10_aPerson_87
          refine br_f n10 ?_
          rw [nI_add]
          refine s_excuses (K := K) hE (by omega) b00 x0 (fun m l hh => rg_X10_aPerson_97 (br_f (fun z => z rfl) (hF m l hh))) hC5 (tkE_ge hr).2 (fun p s mi' hp' hs hC6 hst => ?_) hT2
          apply rg_X10_aPerson_97
          refine br_t n10 (hS.2 _ _ _ _ _ _ _ hp' (cnt (CSm_set (k := 16 + 4 * q + 2) (v := s) hC6 (by omega) (by omega)) (by rw [up1_f (by omega)]; exact b01) (fun k hk => ?_) (by rw [up1_f (by omega)]; exact a10)) hst)
          unfold up1
          by_cases k1 : k = 16 + 4 * q + 2
          · rw [if_pos k1, if_neg (by omega), if_pos k1]
          · rw [if_neg k1, ha k hk]
            unfold up1
            by_cases k2 : k = 1
            · rw [if_pos k2, if_pos k2]
            · rw [if_neg k2, if_neg k2, if_neg k1]
        · intro q6
          apply rg_X10_aPerson_87
          exact br_t rfl (hS.2 _ _ _ _ _ _ _ hr (cnt hh b01 ha a10) (hT.2 q6))
      have m7 : m3 107 1671 = nI (x.2.1 7) := by
        have := hC4.2.1.1 7 (by omega) (by omega)
        rw [up1_f (by omega)] at this; exact this
      have ext : ∀ s k, k < 48 → up1 (comeA x.2.1 v) 7 s k = up1 (up1 (up1 x.2.1 (16 + 4 * q) v) 7 s) 1 (q + 1) k := fun s k hk => by
        unfold up1 comeA
        rw [eq]
        by_cases k7 : k = 7
        · rw [if_pos k7, if_neg (by omega), if_pos k7]
        · rw [if_neg k7, if_neg k7]
          by_cases k1 : k = 1
          · rw [if_pos k1, if_pos k1]
          · rw [if_neg k1, if_neg k1]
            by_cases k2 : k = 16 + 4 * q
            · rw [if_pos k2, if_pos k2]
            · rw [if_neg k2, if_neg k2]
              split
              · exact (xz k (by omega) hk).symm
              · rfl
      have bs : ∀ s, up1 (up1 x.2.1 (16 + 4 * q) v) 7 s 0 = x.2.1 0 ∧ up1 (up1 x.2.1 (16 + 4 * q) v) 7 s 1 = q := fun s => ⟨by rw [up1_f (by omega), up1_f (by omega)], by rw [up1_f (by omega), up1_f (by omega)]; exact eq⟩
      apply rg_X10_aPerson_49
      refine br_t n10 ?_
      rw [m7]
      have h5' := h5
      unfold persU at h5'
      rw [eq] at h5'
      apply s_isThere (d := d + 1) (w := 8) hE hC4.2.2.2.1 hM3 e4.2 (by omega)
      · intro q6 m4 f4 hM4
        apply rg_X10_aPerson_69
        rw [ms_or (by omega), ni_cl (by omega)]
        exact br_f n10 ⟨by rw [ni_in (by omega)]; omega, tail e5.2 (CSm_set (k := 7) (v := x.2.1 7 ||| 1 <<< q) (CSm_M hC4 f4 hM4) (by omega) (by omega)) (bs _).1 (bs _).2 (ext _) (h5'.1 q6)⟩
      · intro q6
        apply rg_X10_aPerson_69
        rw [ni_or, Nat.or_zero, ni_cl (by omega)]
        have hx7 := ext (x.2.1 7)
        rw [up1_id (a := comeA x.2.1 v) (comeA_lo (by omega) (by rw [eq]; omega))] at hx7
        exact br_t rfl ⟨by rw [ni_in (by omega)]; omega, tail e4.2 (CSm_set (k := 7) (v := x.2.1 7) hC4 (by omega) (by omega)) (bs _).1 (bs _).2 hx7 (h5'.2 q6)⟩
    · intro q5 m3 f3 hf
      apply rg_X10_aPerson_49
      exact br_f (fun z => z rfl) (hF _ _ (Bm_Y hC3 (h4.2 q5) f3 hf))
  · intro q4 m2 f2 hf
    apply rg_X10_aPerson_38
    exact br_t rfl (hF _ _ (Bm_Y hC2 (h3.2 q4) f2 hf))
/-- a name that is known -/
theorem s_oldOne {E : am_E} {d : Nat} {K : am_K} {mi : Nat → Nat → Int32} {ml : Nat → Nat → Int64} {c : Nat → Nat} {n p base m to : Nat} {N : Nat → Nat} {B : Nat → Nat → Prop} (hE : EK E) (hT : TXm c n mi) (hM : TM c n p mi) (hp : p ≤ n) (h18 : mi 106 18 = nI 0) (hto : to < 2592) (hb : base + m ≤ 84) (hN : NMm base N m ml) (hB : ∀ k s, B k s → ∀ mi', (∀ k j, ¬ (k = 106 ∧ 12 ≤ j ∧ j ≤ 18 ∧ j ≠ 16) → ¬ (k = 107 ∧ j = to) → mi' k j = mi k j) → FLM k s mi' → K (some (.int (nI 0))) (S0, mi', ml)) (h : nmW c n p ((fnd N (tkC c n p) m = 0 → B 3 (tkS c n p)) ∧ (¬ fnd N (tkC c n p) m = 0 → ∀ mi', frM (am_si mi 107 to (nI (fnd N (tkC c n p) m - 1))) mi' → TM c n (tkE c n p) mi' → K (some (.int (nI 1))) (S0, mi', ml))) B) : cq E (d + 8) 221 [.ref 106, .int (nI base), .int (nI m), .int (nI to)] K mi ml := by
  have hfl := fnd_le N (tkC c n p) m
  apply en_X10_oldOne
  apply s_isName hE hT hM hp
  · intro q
    have h2 := h.1 q
    apply rg_X10_oldOne_6
    refine br_t n10 ?_
    apply s_findHere (d := d + 4) hT hM hp q hb hN
    apply rg_X10_oldOne_26
    rw [ni_cl (by omega), si_t ⟨rfl, rfl⟩, nP_0 (by omega)]
    refine ⟨by rw [ni_in (by omega)]; omega, by rw [ni_in (by omega)]; omega, fun q2 => ?_, fun q2 => ?_⟩
    · have h3 := h2.2 q2
      generalize fnd N (tkC c n p) m = u at *
      obtain ⟨u', rfl⟩ : ∃ u', u = u' + 1 := ⟨u - 1, by omega⟩
      rw [nP_s]
      rw [Nat.add_sub_cancel] at h3
      apply s_next (d := d + 5) (TXm_fr hT (fun k j z => si_f (by omega))) (TM_fr hM (fun j z z => si_f (by omega))) hp
      intro m2 f2 hM2
      apply rg_X10_oldOne_47
      exact h3 m2 f2 hM2
    · apply s_fails (d := d + 6) (c := c) (n := n) (p := p) (TM_fr hM (fun j z z => si_f (by omega))) (by rw [si_f (by omega)]; exact h18)
      intro m2 f2 hf
      apply rg_X10_oldOne_42
      refine ⟨Or.inl rfl, hB _ _ (h2.1 (Classical.byContradiction q2)) m2 (fun k j z1 z2 => by rw [f2 k j z1, si_f z2]) ?_⟩
      rw [badK_n (by rw [q.1]; omega)] at hf
      exact hf
  · intro q
    apply rg_X10_oldOne_6
    refine br_f (fun z => z rfl) ?_
    apply s_fails (d := d + 6) hM h18
    intro m2 f2 hf
    apply rg_X10_oldOne_14
    exact ⟨Or.inl rfl, hB _ _ (h.2 q) m2 (fun k j z1 z2 => f2 k j z1) hf⟩
theorem s_newPersonTo {E : am_E} {d : Nat} {K : am_K} {mi : Nat → Nat → Int32} {ml : Nat → Nat → Int64} {c : Nat → Nat} {n p to np t : Nat} {K' : am_K} {m0 : Nat → Nat → Int32} {l0 : Nat → Nat → Int64} {a on pn : Nat → Nat} {no : Nat} (hE : EK E) (hC : CSm c n m0 l0 a on no pn np t p mi ml) (hp : p ≤ n) (h1 : a 1 = np) (hnp : np ≤ 8) (hto : to < 2592) (hto2 : 1712 ≤ to) (hP : PF K K') (h : nmW c n p ((fnd pn (tkC c n p) np = 0 → Bm K m0 l0 3 (tkS c n p)) ∧ (¬ fnd pn (tkC c n p) np = 0 → ∀ mi', frM (am_si mi 107 to (nI (fnd pn (tkC c n p) np - 1))) mi' → CSm c n m0 l0 a on no pn np t (tkE c n p) mi' ml → K' (some (.int (nI 1))) (S0, mi', ml))) (Bm K m0 l0)) : cq E (d + 9) 225 [.ref 106, .int (nI to)] K' mi ml := by
  have tr : ∀ r mi ml, (r = nI 0 ∨ r = nI 1) → K' (some (.int r)) (S0, mi, ml) → kc E (d + 8) 225 K' 15 [am_mk, am_mk] [] (some (.int r)) (S0, mi, ml) := fun r m l q hh => rg_X10_newPersonTo_15 ⟨q, hh⟩
  apply en_X10_newPersonTo
  rw [hC.2.1.1 1 (by omega) (by omega), h1]
  refine s_oldOne (B := Bm K m0 l0) hE hC.2.2.2.1 hC.2.2.2.2.1 hp hC.2.2.2.2.2.1 hto (by omega) hC.2.2.1.2 (fun k s hb m f hf => ?_) (nmW_mono (fun q h2 => ⟨h2.1, fun q2 m f hM => ?_⟩) (fun _ _ hb => hb) h)
  · exact tr _ _ _ (Or.inl rfl) (hP _ _ (hb _ _ (fun k j z1 z2 => by rw [f k j (by omega) (by omega)]; exact hC.1.1 k j z1 z2) hC.1.2 hf))
  · refine tr _ _ _ (Or.inr rfl) (h2.2 q2 m f ?_)
    refine CSm_up hC (fun k j z1 z2 => by rw [f k j (by omega), si_f (by omega)]) (RM_fr hC.2.1 (fun j _ _ => by rw [f 107 j (by omega), si_f (by omega)]) (by rw [f 106 20 (by omega), si_f (by omega)])) hM
theorem s_aBlindness {E : am_E} {d : Nat} {K : am_K} {mi : Nat → Nat → Int32} {ml : Nat → Nat → Int64} {c : Nat → Nat} {n : Nat} {K' : am_K} {m0 : Nat → Nat → Int32} {l0 : Nat → Nat → Int64} {x : BSt} (hE : EK E) (hx : WFb x) (hC : CSm c n m0 l0 x.2.1 x.2.2.1 (x.2.1 0) x.2.2.2.1 (x.2.1 1) x.2.2.2.2 x.1 mi ml) (hp : x.1 ≤ n) (hS : STP c n m0 l0 K K') (h : bliW c n x (Gm c n K m0 l0) (Bm K m0 l0)) : cq E (d + 10) 226 [.ref 106] K' mi ml := by
  have e1 := tkE_ge (c := c) hp
  have e2 := tkE_ge (c := c) e1.2
  have e3 := tkE_ge (c := c) e2.2
  have x1 : x.2.1 1 ≤ 8 := hx.1.1.1.2.1
  have hF := hS.1
  have f1 := fnd_le x.2.2.2.1 (tkC c n (tkE c n x.1)) (x.2.1 1)
  have f2 := fnd_le x.2.2.2.1 (tkC c n (tkE c n (tkE c n x.1))) (x.2.1 1)
  apply en_X10_aBlindness
  apply s_next (d := d + 7) hC.2.2.2.1 hC.2.2.2.2.1 hp
  intro m1 g1 hM1
  have hC1 := CSm_M hC g1 hM1
  apply rg_X10_aBlindness_8
  refine s_newPersonTo (K := K) hE hC1 e1.2 rfl x1 (by omega) (by omega) (fun m l hh => rg_X10_aBlindness_13 (br_f (fun z => z rfl) (hF m l hh))) (nmW_mono (fun q h2 => ⟨h2.1, fun q2 m2 g2 hC2 => ?_⟩) (fun _ _ hb => hb) h)
  have h3 := h2.2 q2
  have e72 : m2 107 2072 = nI (fnd x.2.2.2.1 (tkC c n (tkE c n x.1)) (x.2.1 1) - 1) := by rw [g2 107 2072 (by omega), si_t ⟨rfl, rfl⟩]
  generalize fnd x.2.2.2.1 (tkC c n (tkE c n x.1)) (x.2.1 1) = u at *
  obtain ⟨u, rfl⟩ : ∃ u', u = u' + 1 := ⟨u - 1, by omega⟩
  rw [Nat.add_sub_cancel] at e72
  apply rg_X10_aBlindness_13
  refine br_t n10 ?_
  have np2 : (isNm c n (tkE c n (tkE c n x.1)) → ¬ fnd x.2.2.2.1 (tkC c n (tkE c n (tkE c n x.1))) (x.2.1 1) = u + 1) → cq E (d + 9) 225 [.ref 106, .int (nI 2072 + nI 1)] (kc E (d + 9) 226 K' 63 [.ref 106, .int (nI 2072)] []) m2 ml := fun hne => by
    rw [nI_add]
    refine s_newPersonTo (K := K) hE hC2 e2.2 rfl x1 (by omega) (by omega) (fun m l hh => rg_X10_aBlindness_63 (br_f (fun z => z rfl) (hF m l hh))) (nmW_mono (fun q3 h4 => ⟨h4.1, fun q4 m3 g3 hC3 => ?_⟩) (fun _ _ hb => hb) h3)
    have h5 := (h4.2 q4).2 (hne q3)
    have e73 : m3 107 2073 = nI (fnd x.2.2.2.1 (tkC c n (tkE c n (tkE c n x.1))) (x.2.1 1) - 1) := by rw [g3 107 2073 (by omega), si_t ⟨rfl, rfl⟩]
    have e72' : m3 107 2072 = nI u := by rw [g3 107 2072 (by omega), si_f (by omega)]; exact e72
    generalize fnd x.2.2.2.1 (tkC c n (tkE c n (tkE c n x.1))) (x.2.1 1) = w at *
    obtain ⟨w, rfl⟩ : ∃ u', w = u' + 1 := ⟨w - 1, by omega⟩
    rw [Nat.add_sub_cancel] at e73
    unfold bliA at h5
    rw [Nat.add_sub_cancel, Nat.add_sub_cancel] at h5
    have er : m3 107 (1664 + (16 + 4 * u) + 3) = nI (x.2.1 (16 + 4 * u + 3)) := by
      have := hC3.2.1.1 (16 + 4 * u + 3) (by omega) (by omega)
      rw [show 1664 + (16 + 4 * u) + 3 = 1664 + (16 + 4 * u + 3) by omega]; exact this
    apply rg_X10_aBlindness_63
    rw [nI_add, ni_cl (a := 2072) (by omega), ni_cl (a := 2072 + 1) (by omega), e72', ni_mul, nI_add, nI_add, nI_add, ni_cl (by omega), er, e73, ms_or (by omega)]
    refine br_t n10 ⟨by rw [ni_in (by omega)]; omega, by rw [ni_in (by omega)]; omega, by rw [ni_in (by omega)]; omega, by rw [ni_in (by omega)]; omega, hS.2 _ _ _ _ _ _ _ e3.2 ?_ h5⟩
    have := CSm_set (k := 16 + 4 * u + 3) (v := x.2.1 (16 + 4 * u + 3) ||| 1 <<< w) hC3 (by omega) (by omega)
    rw [up1_f (show (0 : Nat) ≠ 16 + 4 * u + 3 by omega), up1_f (show (1 : Nat) ≠ 16 + 4 * u + 3 by omega), show 1664 + (16 + 4 * u) + 3 = 1664 + (16 + 4 * u + 3) by omega]
    exact this
  apply s_isName (d := d + 2) hE hC2.2.2.2.1 hC2.2.2.2.2.1 e2.2
  · intro q3
    apply rg_X10_aBlindness_24
    refine br_f n10 ?_
    rw [hC2.2.1.1 1 (by omega) (by omega)]
    apply s_findHere (d := d + 6) hC2.2.2.2.1 hC2.2.2.2.2.1 e2.2 q3 (by omega) hC2.2.2.1.2
    apply rg_X10_aBlindness_41
    rw [ni_cl (by omega), e72, show nI u = nP (u + 1) from rfl, nP_eq (by omega) (by omega)]
    refine ⟨by rw [ni_in (by omega)]; omega, fun q4 => np2 (fun _ => q4), fun q4 => ?_⟩
    have q4' := Classical.byContradiction q4
    refine s_failM (d := d + 8) (K := K) hC2 (fun m l hh => rg_X10_aBlindness_55 ⟨Or.inl rfl, hF _ _ hh⟩) ?_
    rw [badK_n (by rw [q3.1]; omega)]
    exact ((h3.1 q3).2 (by omega)).1 q4'
  · intro q3
    apply rg_X10_aBlindness_24
    exact br_t rfl (np2 (fun z => absurd z q3))
