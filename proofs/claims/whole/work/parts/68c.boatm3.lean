/-! A boat's text, by the reference: a part, the text. -/
theorem s_numM {E : am_E} {d : Nat} {K : am_K} {mi : Nat → Nat → Int32} {ml : Nat → Nat → Int64} {c : Nat → Nat} {n p k lo hi : Nat} {K' : am_K} {m0 : Nat → Nat → Int32} {l0 : Nat → Nat → Int64} {a on pn : Nat → Nat} {t : Nat} (hS : STP c n m0 l0 K K') (hC : CSm c n m0 l0 a on (a 0) pn (a 1) t p mi ml) (hp : p ≤ n) (hk : 2 ≤ k ∧ k ≤ 4) (hlo : lo < 1000) (hhi : hi < 1000) (h : numW c n p lo hi (stopW c n (tkE c n p) (Gm c n K m0 l0 (tkE c n (tkE c n p), up1 a k (tkV c n p), on, pn, t)) (Bm K m0 l0)) (Bm K m0 l0)) : cq E (d + 3) 212 [.ref 106, .int (nI (1664 + k)), .int (nI lo), .int (nI hi)] K' mi ml := by
  apply s_number hC.2.2.2.1 hC.2.2.2.2.1 hp hC.2.2.2.2.2.1 (by omega) hlo hhi
  · intro q m f hM
    have hC2 := CSm_M (CSm_set (k := k) (v := tkV c n p) hC (by omega) (by omega)) f hM
    refine hS.2 _ _ _ _ _ _ _ (tkE_ge hp).2 ?_ (h.1 q)
    rw [up1_f (show (0 : Nat) ≠ k by omega), up1_f (show (1 : Nat) ≠ k by omega)]
    exact hC2
  · intro q m f hf
    exact hS.1 _ _ (Bm_Y hC (h.2 q) f hf)
theorem CSm_told {c : Nat → Nat} {n : Nat} {m0 : Nat → Nat → Int32} {l0 : Nat → Nat → Int64} {a on : Nat → Nat} {no : Nat} {pn : Nat → Nat} {np t t' p r u : Nat} {mi : Nat → Nat → Int32} {ml : Nat → Nat → Int64} (h : CSm c n m0 l0 a on no pn np t p mi ml) (u1 : u < 64) (u2 : mi 106 20 = nI u) (u3 : ∀ i, i < 3 → u.testBit i = t.testBit i) (hr : r < 6) (ht : ∀ i, i < 3 → t'.testBit i = (t.testBit i || decide (i = r))) : CSm c n m0 l0 a on no pn np t' p (am_si mi 106 20 (nI (u ||| 1 <<< r))) ml := by
  refine CSm_up h (fun k j z1 z2 => si_f (by omega)) ⟨fun k hk h8 => by rw [si_f (by omega)]; exact h.2.1.1 k hk h8, ⟨u ||| 1 <<< r, or_lt (m := 6) u1 (by omega), si_t ⟨rfl, rfl⟩, fun i hi => ?_⟩, by rw [si_f (by omega)]; exact h.2.1.2.2⟩ (TM_fr h.2.2.2.2.1 (fun j z z => si_f (by omega)))
  rw [Nat.testBit_or, tb_1shl, u3 i hi, ht i hi]
theorem iot_hi0 : ∀ v, v < 22 → (v = 0 ∨ v = 1 ∨ v = 2 ∨ v = 3 ∨ v = 6 ∨ v = 10) ∨ (6 ≤ iot v ∧ iot v < 22) := by decide +kernel
theorem iot_hi (v : Nat) (h : v < 22) (h0 : v ≠ 0) (h1 : v ≠ 1) (h2 : v ≠ 2) (h3 : v ≠ 3) (h6 : v ≠ 6) (h10 : v ≠ 10) : 6 ≤ iot v ∧ iot v < 22 := (iot_hi0 v h).resolve_left (by omega)
theorem s_boatPart {E : am_E} {d : Nat} {K : am_K} {mi : Nat → Nat → Int32} {ml : Nat → Nat → Int64} {c : Nat → Nat} {n : Nat} {m0 : Nat → Nat → Int32} {l0 : Nat → Nat → Int64} {x : BSt} (hE : EK E) (hx : WFb x) (hC : CSm c n m0 l0 x.2.1 x.2.2.1 (x.2.1 0) x.2.2.2.1 (x.2.1 1) x.2.2.2.2 x.1 mi ml) (hp : x.1 ≤ n) (h : partW c n x (Gm c n K m0 l0) (Bm K m0 l0)) : cq E (d + 11) 227 [.ref 106] K mi ml := by
  have e1 := tkE_ge (c := c) hp
  have h22 := tkW_le c n x.1
  have stp : ∀ K'' : am_K, (∀ r m l, ((r = nI 0 → K (some (.int (nI 0))) (S0, m, l)) ∧ (¬ r = nI 0 → cq E (d + 10) 210 [.ref 106, .int (nI 59)] (kc E (d + 10) 227 K 172 [am_mk, am_mk, am_mk] []) m l)) → K'' (some (.int r)) (S0, m, l)) → STP c n m0 l0 K K'' := fun K'' hK => ⟨fun m l hh => hK _ _ _ (br_t rfl hh), fun a on pn t p m l hp' hC' hst => hK _ _ _ (br_f n10 (s_stopM (d := d + 7) hC' hp' rfl rfl (fun r m l q h => rg_X10_boatPart_172 (pas_1 q h)) hst))⟩
  obtain ⟨u, u1, u2, u3⟩ := id hC.2.1.2.1
  apply en_X10_boatPart
  apply s_inWords (d := d + 4) hE hC.2.2.2.1 hC.2.2.2.2.1 hp
  apply rg_X10_boatPart_6
  by_cases w0 : tkW c n x.1 = 0 + 1
  · have er : nP (toM (tkW c n x.1)) = nI 0 := by rw [w0]; rfl
    have hr := h.1 w0
    rw [er, u2, ni_bit (by omega) (by omega), ni_b1, u3 0 (by omega), ms_or (by omega)]
    refine br_f (by decide) (br_t (by decide) (br_f (by decide) ⟨fun q => br_f (by decide) ?_, fun q => ?_⟩))
    · have hC2 := CSm_told (r := 0) (t' := x.2.2.2.2 ||| 1 <<< 0) hC u1 u2 u3 (by omega) (fun j hj => by rw [Nat.testBit_or, tb_1shl])
      apply s_next (d := d + 8) hC2.2.2.2.1 hC2.2.2.2.2.1 hp
      intro m f hM
      have hC3 := CSm_M hC2 f hM
      apply rg_X10_boatPart_66
      refine ⟨fun _ => ?_, fun z => absurd z (by decide), fun z => absurd z (by decide), fun z => absurd z (by decide), fun z => absurd z (by decide), fun z0 z1 z2 z3 z4 => absurd rfl z0⟩
      exact s_numM (d := d + 7) (k := 2) (stp _ (fun r m l hh => rg_X10_boatPart_110 hh)) hC3 e1.2 (by omega) (by omega) (by omega) (hr.2 q)
    · exact s_failM (d := d + 9) (K := K) hC (fun m l hh => rg_X10_boatPart_44 ⟨Or.inl rfl, hh⟩) (by rw [badK_n (by rw [kw_K w0]; omega)]; exact hr.1 (Classical.byContradiction q))
  by_cases w1 : tkW c n x.1 = 1 + 1
  · have er : nP (toM (tkW c n x.1)) = nI 1 := by rw [w1]; rfl
    have hr := (h.2 w0).1 w1
    rw [er, u2, ni_bit (by omega) (by omega), ni_b1, u3 1 (by omega), ms_or (by omega)]
    refine br_f (by decide) (br_t (by decide) (br_f (by decide) ⟨fun q => br_f (by decide) ?_, fun q => ?_⟩))
    · have hC2 := CSm_told (r := 1) (t' := x.2.2.2.2 ||| 1 <<< 1) hC u1 u2 u3 (by omega) (fun j hj => by rw [Nat.testBit_or, tb_1shl])
      apply s_next (d := d + 8) hC2.2.2.2.1 hC2.2.2.2.2.1 hp
      intro m f hM
      have hC3 := CSm_M hC2 f hM
      apply rg_X10_boatPart_66
      refine ⟨fun z => absurd z (by decide), fun _ => ?_, fun z => absurd z (by decide), fun z => absurd z (by decide), fun z => absurd z (by decide), fun z0 z1 z2 z3 z4 => absurd rfl z1⟩
      exact s_numM (d := d + 7) (k := 3) (stp _ (fun r m l hh => rg_X10_boatPart_123 hh)) hC3 e1.2 (by omega) (by omega) (by omega) (hr.2 q)
    · exact s_failM (d := d + 9) (K := K) hC (fun m l hh => rg_X10_boatPart_44 ⟨Or.inl rfl, hh⟩) (by rw [badK_n (by rw [kw_K w1]; omega)]; exact hr.1 (Classical.byContradiction q))
  by_cases w2 : tkW c n x.1 = 2 + 1
  · have er : nP (toM (tkW c n x.1)) = nI 2 := by rw [w2]; rfl
    have hr := ((h.2 w0).2 w1).1 w2
    rw [er, u2, ni_bit (by omega) (by omega), ni_b1, u3 2 (by omega), ms_or (by omega)]
    refine br_f (by decide) (br_t (by decide) (br_f (by decide) ⟨fun q => br_f (by decide) ?_, fun q => ?_⟩))
    · have hC2 := CSm_told (r := 2) (t' := x.2.2.2.2 ||| 1 <<< 2) hC u1 u2 u3 (by omega) (fun j hj => by rw [Nat.testBit_or, tb_1shl])
      apply s_next (d := d + 8) hC2.2.2.2.1 hC2.2.2.2.2.1 hp
      intro m f hM
      have hC3 := CSm_M hC2 f hM
      apply rg_X10_boatPart_66
      refine ⟨fun z => absurd z (by decide), fun z => absurd z (by decide), fun _ => ?_, fun z => absurd z (by decide), fun z => absurd z (by decide), fun z0 z1 z2 z3 z4 => absurd rfl z2⟩
      exact s_numM (d := d + 7) (k := 4) (stp _ (fun r m l hh => rg_X10_boatPart_137 hh)) hC3 e1.2 (by omega) (by omega) (by omega) (hr.2 q)
    · exact s_failM (d := d + 9) (K := K) hC (fun m l hh => rg_X10_boatPart_44 ⟨Or.inl rfl, hh⟩) (by rw [badK_n (by rw [kw_K w2]; omega)]; exact hr.1 (Classical.byContradiction q))
  by_cases w3 : tkW c n x.1 = 3 + 1
  · have er : nP (toM (tkW c n x.1)) = nI 3 := by rw [w3]; rfl
    have hr := (((h.2 w0).2 w1).2 w2).1 w3
    have hC2 := CSm_told (r := 3) (t' := x.2.2.2.2) hC u1 u2 u3 (by omega) (fun j hj => by rw [decide_eq_false (by omega), Bool.or_false])
    rw [er, u2, ms_or (by omega)]
    refine br_f (by decide) (br_t (by decide) (br_t (by decide) (br_t (by decide) ⟨fun z => absurd z (by decide), fun z => absurd z (by decide), fun z => absurd z (by decide), fun _ => ?_, fun z => absurd z (by decide), fun z0 z1 z2 z3 z4 => absurd rfl z3⟩)))
    exact s_anOmen (d := d + 1) hE hx hC2 hp (kw_K w3) (stp _ (fun r m l hh => rg_X10_boatPart_145 hh)) hr
  by_cases w6 : tkW c n x.1 = 6 + 1
  · have er : nP (toM (tkW c n x.1)) = nI 4 := by rw [w6]; rfl
    have hr := ((((h.2 w0).2 w1).2 w2).2 w3).1 w6
    have hC2 := CSm_told (r := 4) (t' := x.2.2.2.2) hC u1 u2 u3 (by omega) (fun j hj => by rw [decide_eq_false (by omega), Bool.or_false])
    rw [er, u2, ms_or (by omega)]
    refine br_f (by decide) (br_t (by decide) (br_t (by decide) (br_t (by decide) ⟨fun z => absurd z (by decide), fun z => absurd z (by decide), fun z => absurd z (by decide), fun z => absurd z (by decide), fun _ => ?_, fun z0 z1 z2 z3 z4 => absurd rfl z4⟩)))
    exact s_aPerson (d := d + 1) hE hx hC2 hp (kw_K w6) (stp _ (fun r m l hh => rg_X10_boatPart_153 hh)) hr
  by_cases w10 : tkW c n x.1 = 10 + 1
  · have er : nP (toM (tkW c n x.1)) = nI 5 := by rw [w10]; rfl
    have hr := (((((h.2 w0).2 w1).2 w2).2 w3).2 w6).1 w10
    have hC2 := CSm_told (r := 5) (t' := x.2.2.2.2) hC u1 u2 u3 (by omega) (fun j hj => by rw [decide_eq_false (by omega), Bool.or_false])
    rw [er, u2, ms_or (by omega)]
    refine br_f (by decide) (br_t (by decide) (br_t (by decide) (br_t (by decide) ⟨fun z => absurd z (by decide), fun z => absurd z (by decide), fun z => absurd z (by decide), fun z => absurd z (by decide), fun z => absurd z (by decide), fun _ _ _ _ _ => ?_⟩)))
    exact s_aBlindness (d := d) hE hx hC2 hp (stp _ (fun r m l hh => rg_X10_boatPart_161 hh)) hr
  have hb : cq E (d + 10) 208 [.ref 106, .int (nI 2)] (kc E (d + 10) 227 K 21 [am_mk, am_mk, am_mk] []) mi ml := s_failM (d := d + 9) (K := K) hC (fun m l hh => rg_X10_boatPart_21 ⟨Or.inl rfl, hh⟩) ((((((h.2 w0).2 w1).2 w2).2 w3).2 w6).2 w10)
  have hz : nP (toM (tkW c n x.1)) < nI 0 ∨ (¬ nP (toM (tkW c n x.1)) < nI 0 ∧ ¬ nP (toM (tkW c n x.1)) ≤ nI 5) := by
    match e : tkW c n x.1 with
    | 0 => exact Or.inl (by decide)
    | v + 1 =>
      have hv := iot_hi v (by omega) (by omega) (by omega) (by omega) (by omega) (by omega) (by omega)
      refine Or.inr ?_
      show ¬ nI (iot v) < nI 0 ∧ ¬ nI (iot v) ≤ nI 5
      rw [ni_lt (by omega) (by omega), ni_le (by omega) (by omega)]
      omega
  rcases hz with hz | ⟨hz, hy⟩
  · exact br_t hz hb
  · exact br_f hz (br_f hy hb)
theorem s_plain {E : am_E} {d : Nat} {K : am_K} {mi : Nat → Nat → Int32} {ml : Nat → Nat → Int64} (hk : ∀ mi', (∀ k j, ¬ (k = 107 ∧ 1664 ≤ j) → mi' k j = mi k j) → RMa pl0 mi' → mi' 107 1672 = nM → K none (S0, mi', ml)) : cq E (d + 1) 183 [.ref 106, .int (nI 1664)] K mi ml := by
  have key : ∀ i, i ≤ 416 → ∀ m, (∀ k j, ¬ (k = 107 ∧ 1664 ≤ j) → m k j = mi k j) → (∀ j, j < i → m 107 (1664 + j) = nI 0) → rn E d 183 K 2 [.ref 106, .int (nI 1664), .int (nI i)] [] m ml := by
    refine dn_ind 416 (fun i hi ih m f h1 => ?_)
    apply rg_X10_plain_2
    simp (disch := omega) only [nI_add, ni_cl, ni_in, ni_le]
    refine ⟨fun q => ⟨by omega, by omega, by omega, by omega, hk _ (fun k j z => ?_) (fun k hk h8 => ?_) ?_⟩, fun q => ⟨by omega, ih (by omega) _ (fun k j z => by rw [si_f (by omega)]; exact f k j z) (fun j hj => ?_)⟩⟩
    · rw [si_f (by omega), si_f (by omega), si_f (by omega), si_f (by omega)]; exact f k j z
    · rw [si_f (by omega)]
      unfold pl0
      by_cases k4 : k = 4
      · rw [si_t ⟨rfl, by omega⟩, if_neg (by omega), if_neg (by omega), if_pos k4]
      · rw [si_f (by omega)]
        by_cases k3 : k = 3
        · rw [si_t ⟨rfl, by omega⟩, if_neg (by omega), if_pos k3]
        · rw [si_f (by omega)]
          by_cases k2 : k = 2
          · rw [si_t ⟨rfl, by omega⟩, if_pos k2]
          · rw [si_f (by omega), if_neg k2, if_neg k3, if_neg k4]
            exact h1 k (by omega)
    · rw [si_t ⟨rfl, rfl⟩]
    · by_cases e : j = i
      · rw [si_t ⟨rfl, by omega⟩]
      · rw [si_f (by omega)]; exact h1 j (by omega)
  apply en_X10_plain
  exact key 0 (by omega) mi (fun _ _ _ => rfl) (fun j hj => absurd hj (Nat.not_lt_zero _))
/-- what a boat that was read leaves -/
def bscr (k j : Nat) : Prop := (k = 106 ∧ (j = 2 ∨ 10 ≤ j ∧ j ≤ 20)) ∨ k = 113 ∨ (k = 107 ∧ 1664 ≤ j)
def GEm (K : am_K) (mi : Nat → Nat → Int32) (ml : Nat → Nat → Int64) (x : BSt) : Prop := ∀ mi' ml', (∀ k j, ¬ bscr k j → ¬ (k = 107 ∧ j < 416) → mi' k j = mi k j) → (∀ k j, ¬ (k = 108 ∧ (j < 14 ∨ 56 ≤ j)) → ml' k j = ml k j) → MS 0 x.2.1 mi' → mi' 107 8 = nM → NMm 0 x.2.2.1 (x.2.1 0) ml' → NMm 6 x.2.2.2.1 (x.2.1 1) ml' → mi' 106 16 = nI 0 → mi' 106 17 = nM → mi' 106 2 = nI 0 → mi' 106 10 = nI 0 → K (some (.int (nI (x.2.1 1)))) (S0, mi', ml')
def BEm (K : am_K) (mi : Nat → Nat → Int32) (ml : Nat → Nat → Int64) (k s : Nat) : Prop := (1 ≤ k ∧ k ≤ 9) ∧ ∀ mi' ml', (∀ k j, ¬ bscr k j → mi' k j = mi k j) → frNl ml ml' → mi' 106 16 = nI k → mi' 106 17 = nI s → mi' 106 2 = nI 9 → mi' 106 10 = nI 0 → K (some (.int nM)) (S0, mi', ml')
theorem s_boatEnd {E : am_E} {d : Nat} {K : am_K} {mi : Nat → Nat → Int32} {ml : Nat → Nat → Int64} {c : Nat → Nat} {n : Nat} {m0 : Nat → Nat → Int32} {l0 : Nat → Nat → Int64} {x : BSt} (hx : WFb x) (hC : CSm c n m0 l0 x.2.1 x.2.2.1 (x.2.1 0) x.2.2.2.1 (x.2.1 1) x.2.2.2.2 x.1 mi ml) (h : GEm K mi ml x) (h10 : mi 106 10 = nI 0) : rn E (d + 11) 228 K 59 [.ref 106, am_mk, am_mk, .int (nI 0)] [] mi ml := by
  obtain ⟨-, ⟨r1, -, r3⟩, ⟨r4, r5⟩, -, -, r6, r7⟩ := hC
  have x0 : x.2.1 0 ≤ 6 := hx.1.1.1.1
  have x1 : x.2.1 1 ≤ 8 := hx.1.1.1.2.1
  have key2 : ∀ m, cpI 0 1664 416 mi m → ∀ i, i ≤ 14 → ∀ l, cpL 0 56 i ml l → rn E (d + 11) 228 K 90 [.ref 106, am_mk, am_mk, .int (nI i)] [] m l := fun m hc => dn_ind 14 (by
    intro i hi ih l hl
    apply rg_X10_boat_90
    rw [ni_le (by omega) (by omega), nI_add, nI_add, ni_cl (by omega), ni_cl (by omega)]
    refine ⟨fun q => ?_, fun q => ⟨by rw [ni_in (by omega)]; omega, by rw [ni_in (by omega)]; omega, ih (by omega) _ ?_⟩⟩
    · have : i = 14 := by omega
      subst this
      have e1 : m 107 1 = nI (x.2.1 1) := by
        have := hc.2 1 (by omega)
        rw [Nat.zero_add] at this
        rw [this]; exact r1 1 (by omega) (by omega)
      have e18 : m 106 18 = nI 0 := by rw [hc.1 106 18 (by omega)]; exact r6
      rw [e1]
      apply en_X10_taken (d := d + 9)
      rw [si_f (f := m) (by omega), e18]
      refine br_t (by decide) ?_
      apply rg_X10_boat_127
      refine h _ _ (fun k j z1 z2 => ?_) (fun k j z => hl.1 k j (by omega)) (fun k h1 h2 => ?_) ?_ (fun k hk => ?_) (fun k hk => ?_) ?_ ?_ ?_ ?_
      · unfold bscr at z1
        rw [si_f (by omega), si_f (by omega)]; exact hc.1 k j (by omega)
      · rw [si_f (by omega), si_f (by omega), hc.2 k (by omega)]; exact r1 k h1 h2
      · have := hc.2 8 (by omega)
        rw [Nat.zero_add] at this
        rw [si_f (by omega), si_f (by omega), this]; exact r3
      · refine ⟨(r4 k hk).1, ?_⟩
        rw [hl.2 k (by omega)]; exact (r4 k hk).2
      · refine ⟨(r5 k hk).1, ?_⟩
        have := hl.2 (6 + k) (by omega)
        rw [Nat.zero_add] at this
        rw [this, show 56 + (6 + k) = 62 + k by omega]; exact (r5 k hk).2
      · rw [si_f (by omega), si_t ⟨rfl, rfl⟩]
      · rw [si_f (by omega), si_f (by omega), hc.1 106 17 (by omega)]; exact r7
      · rw [si_t ⟨rfl, rfl⟩]
      · rw [si_f (by omega), si_f (by omega), hc.1 106 10 (by omega)]; exact h10
    · have := cpL_s (N := 14) hl (by omega) (by omega)
      rw [Nat.zero_add] at this
      exact this)
  have key : ∀ i, i ≤ 416 → ∀ m, cpI 0 1664 i mi m → rn E (d + 11) 228 K 59 [.ref 106, am_mk, am_mk, .int (nI i)] [] m ml := dn_ind 416 (by
    intro i hi ih m hc
    apply rg_X10_boat_59
    rw [ni_le (by omega) (by omega), nI_add, nI_add, ni_cl (by omega), ni_cl (by omega)]
    refine ⟨fun q => ?_, fun q => ⟨by rw [ni_in (by omega)]; omega, by rw [ni_in (by omega)]; omega, ih (by omega) _ ?_⟩⟩
    · have : i = 416 := by omega
      subst this
      exact key2 _ hc 0 (by omega) _ cpL_0
    · have := cpI_s (N := 416) hc (by omega) (by omega)
      rw [Nat.zero_add] at this
      exact this)
  exact key 0 (by omega) mi cpI_0
theorem s_boatM {E : am_E} {d : Nat} {K : am_K} {mi : Nat → Nat → Int32} {ml : Nat → Nat → Int64} {c : Nat → Nat} {n tl : Nat} (hE : EK E) (htl : tl ≤ 900) (h10 : mi 106 10 = nI tl) (hc : ∀ i, i < tl → c i < 256 ∧ mi 112 i = byt (nI (c i))) (hn : n ≤ tl) (h : textW c n (GEm K mi ml) (BEm K mi ml) (n + 1) x00) : cq E (d + 12) 228 [.ref 106, .int (nI n)] K mi ml := by
  have hk4 := fun p => tmK_eq (v := 0) (tkK_le c n p)
  apply en_X10_boat
  apply s_begins (n := 0) (d := d + 8) htl (Nat.le_refl 900) h10 hc
  case h0 => exact fun z => absurd ⟨n, rfl, hn, by omega⟩ z
  intro n' en hn' _ m1 f1 hT1 hM1 h18 h17 h10'
  have en' : n' = n := ((ni_eq (by omega) (by omega)).mp en).symm
  subst en'
  apply rg_X10_boat_8
  refine br_t n10 ?_
  apply s_plain (d := d + 10)
  intro m2 f2 hR2 h8
  apply rg_X10_boat_24
  have fb : ∀ m, frN m2 m → (∀ k j, ¬ bscr k j → m k j = mi k j) := fun m f k j z => by
    unfold bscr at z
    rw [f k j (by omega) (by omega), f2 k j (by omega), f1 k j (by omega) (by omega)]
  have f10 : ∀ m, frN m2 m → m 106 10 = nI 0 := fun m f => by
    rw [f 106 10 (by omega) (by omega), f2 106 10 (by omega)]; exact h10'
  have hB : ∀ k s, BEm K mi ml k s → Bm (kc E (d + 11) 228 K 46 [.ref 106, am_mk, am_mk, am_mk] []) m2 ml k s := fun k s hb m l g1 g2 hf => by
    obtain ⟨⟨k1, k9⟩, hb⟩ := hb
    apply rg_X10_boat_46
    apply rg_X10_boat_31
    refine br_t rfl ?_
    rw [hf.1, ni_eq (by omega) (by omega)]
    refine br_t (by omega) ?_
    apply en_X10_taken (d := d + 9)
    rw [si_f (f := m) (by omega), hf.1, ni_le (by omega) (by omega)]
    refine br_f (by omega) ?_
    apply rg_X10_boat_127
    refine hb _ _ (fun k j z => ?_) g2 ?_ ?_ ?_ ?_
    · have z' := z
      unfold bscr at z'
      rw [si_f (by omega), si_f (by omega)]; exact fb m g1 k j z
    · rw [si_f (by omega), si_t ⟨rfl, rfl⟩]
    · rw [si_f (by omega), si_f (by omega)]; exact hf.2
    · rw [si_t ⟨rfl, rfl⟩]
    · rw [si_f (by omega), si_f (by omega)]; exact f10 m g1
  have key : ∀ f (x : BSt) m l, WFb x → x.1 ≤ n' → n' + 1 ≤ x.1 + f → CSm c n' m2 ml x.2.1 x.2.2.1 (x.2.1 0) x.2.2.2.1 (x.2.1 1) x.2.2.2.2 x.1 m l → textW c n' (GEm K mi ml) (BEm K mi ml) f x → rn E (d + 11) 228 K 31 [.ref 106, am_mk, .int (nI 1), am_mk] [] m l := by
    intro f
    induction f with
    | zero => intro x m l _ h1 h2; omega
    | succ f ih =>
      intro x m l hx hp hf hC h
      apply rg_X10_boat_31
      refine br_f n10 ?_
      rw [hC.2.2.2.2.1.2.2.1, tm_eq (by omega), (hk4 _).1]
      refine ⟨fun q => br_f (fun z => z hC.2.2.2.2.2.1) (s_boatEnd hx hC (fun m3 l3 g1 g2 => ?_) (f10 m hC.1.1)), fun q => ?_⟩
      · refine h.1 q m3 l3 (fun k j z1 z2 => by rw [g1 k j z1 z2]; exact fb m hC.1.1 k j z1) (fun k j z => ?_)
        rw [g2 k j z]; exact hC.1.2 k j (by omega)
      · apply s_boatPart hE hx hC hp
        refine partW_mono hx hp hB (fun y hy hg m3 l3 hC3 => ?_) (h.2 q)
        apply rg_X10_boat_46
        exact ih y m3 l3 hy.2.2 hy.2.1 (by have := hy.1; omega) hC3 hg
  refine key (n' + 1) x00 _ _ WFb_00 (Nat.zero_le _) (by omega) ⟨⟨fun k j z1 z2 => si_f (by omega), fun _ _ _ => rfl⟩, ⟨fun k h1 h2 => by rw [si_f (by omega)]; exact hR2 k h1 h2, ⟨0, by omega, si_t ⟨rfl, rfl⟩, fun i hi => rfl⟩, by rw [si_f (by omega)]; exact h8⟩, ⟨fun k hk => absurd hk (Nat.not_lt_zero _), fun k hk => absurd hk (Nat.not_lt_zero _)⟩, TXm_fr hT1 (fun k j z => by rw [si_f (by omega), f2 k j (by omega)]), TM_fr hM1 (fun j z z => by rw [si_f (by omega), f2 106 j (by omega)]), ?_, ?_⟩ h
  · rw [si_f (by omega), f2 106 18 (by omega)]; exact h18
  · rw [si_f (by omega), f2 106 17 (by omega)]; exact h17
