/-! Years lived, by the class. -/
def LC (c : Nat) (r : Nat → Nat) (mi : Nat → Nat → Int32) : Prop := mi c 0 = nI 1 ∧ ∀ j, 1 ≤ j → j ≤ 7 → mi c j = nI (r j)
theorem LC_up {c : Nat} {r : Nat → Nat} {mi : Nat → Nat → Int32} (h : LC c r mi) {j : Nat} (v : Nat) (hj : 1 ≤ j) : LC c (up1 r j v) (am_si mi c j (nI v)) := by
  refine ⟨by rw [si_f (by omega)]; exact h.1, fun i h1 h2 => ?_⟩
  by_cases e : i = j
  · rw [si_t ⟨rfl, e⟩, up1_t e]
  · rw [si_f (by omega), up1_f e]; exact h.2 i h1 h2
theorem LC_fr {c : Nat} {r : Nat → Nat} {mi mi' : Nat → Nat → Int32} (h : LC c r mi) (hf : ∀ j, mi' c j = mi c j) : LC c r mi' := ⟨by rw [hf]; exact h.1, fun j h1 h2 => by rw [hf]; exact h.2 j h1 h2⟩
def frV (b c : Nat) (f g : Nat → Nat → Int32) : Prop := ∀ k j, ¬ ((b ≤ k ∧ k ≤ b + 8) ∨ k = c ∨ k = c + 1) → g k j = f k j
theorem frV_tr {b c : Nat} {f g h : Nat → Nat → Int32} (h1 : frV b c f g) (h2 : frV b c g h) : frV b c f h := fun k j z => by rw [h2 k j z, h1 k j z]
theorem bl_ne {b c : Nat} (hb : bt b) (hc : lf c) : c + 1 < b ∨ b + 8 < c := by unfold bt at hb; unfold lf at hc; omega
theorem s_drawBelow {E : am_E} {d : Nat} {K : am_K} {mi : Nat → Nat → Int32} {ml : Nat → Nat → Int64} {c x o : Nat} (hc : lf c) (h7 : mi c 7 = nI x) (hx : x < 65536) (ho : o ≤ 16) (hk : K (some (.int (nI (b01 (decide (drN x / 8 % 16 < o)))))) (S0, am_si mi c 7 (nI (drN x)), ml)) : cq E (d + 1) 48 [.ref c, .int (nI o)] K mi ml := by
  have e1 : nI x * nI 3167 + nI 11383 - (nI x * nI 3167 + nI 11383) / nI 65536 * nI 65536 = nI (drN x) := by
    rw [ni_mul, nI_add, pk_rem (by omega) (by omega) (by omega)]; rfl
  have hd : drN x < 65536 := Nat.mod_lt _ (by omega)
  apply en_X3_drawBelow hc
  rw [h7, e1, si_t ⟨rfl, rfl⟩, pk_div (by omega) (by omega) (by omega), pk_rem (by omega) (by omega) (by omega), ni_le (by omega) (by omega)]
  refine ⟨fun q => ?_, fun q => ?_⟩
  · rw [decide_eq_false (by omega)] at hk; exact hk
  · rw [decide_eq_true (by omega)] at hk; exact hk
def trP (a r : Nat → Nat) (t : Bool) : (Nat → Nat) × (Nat → Nat) × Bool := if t then clP a r else (a, r, false)
theorem s_tryCall {E : am_E} {d : Nat} {K : am_K} {mi : Nat → Nat → Int32} {ml : Nat → Nat → Int64} {b c : Nat} (hb : bt b) (hc : lf c) {a r : Nat → Nat} {t : Bool} (hC : CB b a mi) (hW : WB a) (hL : LC c r mi) (hk : ∀ mi', frV b c mi mi' → (∀ j, mi' (c + 1) j = mi (c + 1) j) → CB b (trP a r t).1 mi' → LC c (missR (trP a r t).2.2 (trP a r t).2.1) mi' → K none (S0, mi', ml)) : cq E (d + 5) 47 [.ref c, .ref b, .int (nI (b01 t))] K mi ml := by
  have hn := bl_ne hb hc
  have a5 := hW.1.1.2.2.2.2.2.2.1
  have c3 := hC.1.2.2.2.1
  have l2 := hL.2 2 (by omega) (by omega)
  have l4 := hL.2 4 (by omega) (by omega)
  have miss : (trP a r t) = (a, r, false) → K none (S0, am_si mi c 2 (nI (r 2 + 1)), ml) := fun e => by
    rw [e] at hk
    refine hk _ (fun k j z => by rw [si_f (by omega)]) (fun j => by rw [si_f (by omega)]) (CB_frb hC (fun k j z => by rw [si_f (by omega)])) (LC_up hL _ (by omega))
  apply en_X3_tryCall hc hb
  rw [ni_b0, l2, l4, nI_add, c3, ni_le (by omega) (by omega)]
  refine ⟨fun q => ?_, fun q => ⟨fun q2 => ?_, fun q2 => ?_⟩⟩
  · exact miss (by unfold trP; rw [q]; rfl)
  · have qt : t = true := by simpa using q
    exact miss (by unfold trP clP; rw [qt, if_pos rfl, if_neg (by omega)])
  · have qt : t = true := by simpa using q
    have e : trP a r t = (callA a, clR a r, true) := by unfold trP clP; rw [qt, if_pos rfl, if_pos (by omega)]
    rw [e] at hk
    apply s_makeCall hb hC hW.1
    intro m1 hf hC1
    apply rg_X3_tryCall_31 hc hb
    have g : ∀ j, m1 c j = mi c j := fun j => by rw [hf c (by omega)]
    have c7 := hC1.1.2.2.2.2.2.2.2
    have hw1 := (WB_call hW (show a 5 < 9999 by omega)).1
    have o1 := Nat.lt_of_lt_of_le (out_lt a (aboA a) (a 6)) (WA_p2 hW.1).2
    have o2 := abo_lt hw1
    rw [si_f (f := m1) (a := c) (i := 5) (by omega), si_f (f := m1) (a := b) (i := 7) (by omega), g 5, hL.2 5 (by omega) (by omega), c7, bc_pc (by omega), bc_pc (by omega), nI_add, nI_add, si_f (by omega), si_f (by omega), g 3, hL.2 3 (by omega) (by omega), nI_add]
    refine hk _ (fun k j z => ?_) (fun j => ?_) (CB_frb hC1 (fun k j z => ?_)) ⟨?_, fun j h1 h2 => ?_⟩
    · rw [si_f (by omega), si_f (by omega), si_f (by omega), hf k (by omega)]
    · rw [si_f (by omega), si_f (by omega), si_f (by omega), hf _ (by omega)]
    · rw [si_f (by omega), si_f (by omega), si_f (by omega)]
    · rw [si_f (by omega), si_f (by omega), si_f (by omega), g]; exact hL.1
    · show _ = nI (clR a r j)
      unfold clR
      by_cases j3 : j = 3
      · rw [si_t ⟨rfl, j3⟩, if_pos j3]
      · rw [si_f (by omega), if_neg j3]
        by_cases j4 : j = 4
        · rw [si_f (by omega), si_t ⟨rfl, j4⟩, if_pos j4]
        · rw [if_neg j4]
          by_cases j5 : j = 5
          · rw [si_t ⟨rfl, j5⟩, if_pos j5]
          · rw [si_f (by omega), si_f (by omega), if_neg j5, g]; exact hL.2 j h1 h2
theorem s_count {E : am_E} {d : Nat} {K : am_K} {mi : Nat → Nat → Int32} {ml : Nat → Nat → Int64} {c : Nat} (hc : lf c) {r : Nat → Nat} {t : Bool} (hL : LC c r mi) (hk : ∀ mi', (∀ k j, k ≠ c → mi' k j = mi k j) → LC c (missR t r) mi' → K none (S0, mi', ml)) : cq E (d + 1) 46 [.ref c, .int (nI (b01 t))] K mi ml := by
  apply en_X3_count hc
  rw [ni_b0, hL.2 2 (by omega) (by omega), nI_add]
  refine ⟨fun q => ?_, fun q => ?_⟩
  · have qt : t = true := by simpa using q
    rw [qt] at hk
    exact hk _ (fun _ _ _ => rfl) hL
  · have qt : t = false := by simpa using q
    rw [qt] at hk
    exact hk _ (fun k j z => by rw [si_f (by omega)]) (LC_up hL _ (by omega))
theorem s_turnOmen {E : am_E} {d : Nat} {K : am_K} {mi : Nat → Nat → Int32} {ml : Nat → Nat → Int64} {b : Nat} (hb : bt b) {a : Nat → Nat} {o : Nat} {is : Bool} (hC : CB b a mi) (hW : WB a) (ho : o < a 0) (hk : ∀ mi', (∀ k j, k ≠ b → mi' k j = mi k j) → CB b (if (a 6).testBit o = is then a else up1 a 6 (a 6 ^^^ 1 <<< o)) mi' → K (some (.int (nI (b01 (decide (¬ (a 6).testBit o = is)))))) (S0, mi', ml)) : cq E (d + 1) 21 [.ref b, .int (nI o), .int (nI (b01 is))] K mi ml := by
  have w := WA_p2 hW.1
  have x0 := hW.1.1.1
  have x6 := hW.1.1.2.2.2.2.2.2.2.1
  have c6 := hC.1.2.2.2.2.2.2.1
  apply en_X0_turnOmen hb
  rw [c6, ni_bit (by omega) (by omega), ni_b0, ni_shl (by omega), ni_xor]
  have same : (a 6).testBit o = is → K (some (.int (nI 0))) (S0, mi, ml) := fun e => by
    rw [if_pos e, decide_eq_false (fun q => q e)] at hk
    exact hk _ (fun _ _ _ => rfl) hC
  have oth : ¬ (a 6).testBit o = is → K (some (.int (nI 1))) (S0, am_si mi b 6 (nI (a 6 ^^^ 1 <<< o)), ml) := fun e => by
    rw [if_neg e, decide_eq_true e] at hk
    exact hk _ (fun k j z => by rw [si_f (by omega)]) (CB_shown hC _)
  cases hbit : (a 6).testBit o <;> rw [hbit] at same oth <;> cases is
  · exact br_t rfl (br_f (fun q => q (by trivial)) (same rfl))
  · exact br_t rfl (br_t (by decide) (oth (by decide)))
  · exact br_f (by decide) (br_t (by decide) (oth (by decide)))
  · exact br_f (by decide) (br_f (fun q => q (by trivial)) (same rfl))
theorem s_takeAboard {E : am_E} {d : Nat} {K : am_K} {mi : Nat → Nat → Int32} {ml : Nat → Nat → Int64} {b : Nat} (hb : bt b) {a : Nat → Nat} {p : Nat} (hC : CB b a mi) (hW : WB a) (hp : p < a 1) (hk : ∀ mi', (∀ k j, k ≠ b → mi' k j = mi k j) → CB b (if (a 7).testBit p then up1 a 7 (ndif (a 7) (1 <<< p)) else a) mi' → K (some (.int (nI (b01 ((a 7).testBit p))))) (S0, mi', ml)) : cq E (d + 2) 22 [.ref b, .int (nI p)] K mi ml := by
  have x1 := hW.1.1.2.1
  have hab := abo_lt hW.1
  have c7 := hC.1.2.2.2.2.2.2.2
  have hb7 : (nI (aboA a) >>> ms (nI p)) &&& nI 1 = nI (b01 (!(a 7).testBit p)) := by
    rw [ni_bit (by omega) (by omega), tb_abo]; simp [hp]
  apply en_X0_takeAboard hb
  rw [c7, hb7, ni_b0, ni_shl (by omega), ni_or]
  cases hbit : (a 7).testBit p
  · rw [hbit, if_neg (by decide)] at hk
    exact br_f (by decide) (hk _ (fun _ _ _ => rfl) hC)
  · rw [hbit, if_pos rfl] at hk
    refine br_t (by decide) (hk _ (fun k j z => by rw [si_f (by omega)]) ?_)
    have := CB_out hC (ndif (a 7) (1 <<< p))
    rw [abo_on hp] at this
    exact this
theorem s_holdsTrue {E : am_E} {d : Nat} {K : am_K} {mi : Nat → Nat → Int32} {ml : Nat → Nat → Int64} {b : Nat} (hb : bt b) {no np k : Nat} {pl : Nat → Nat → Nat} {a : Nat → Nat} (hC : CB b a mi) (hW : WB a) (h0 : a 0 = no) (h1 : a 1 = np) (hk60 : k < 60) (hP : PK no np pl k) (hR : RKc 21 pl mi k) (h17 : pl 0 k = 17) (hk : K (some (.int (nI (b01 (testP pl a k))))) (S0, mi, ml)) : cq E (d + 2) 49 [.ref b, .ref 21, .int (nI k)] K mi ml := by
  have x0 := hW.1.1.1
  have x1 := hW.1.1.2.1
  have w := WA_p2 hW.1
  have x6 := hW.1.1.2.2.2.2.2.2.2.1
  have hab := abo_lt hW.1
  have c6 := hC.1.2.2.2.2.2.2.1
  have c7 := hC.1.2.2.2.2.2.2.2
  obtain ⟨r1, r2, r3, r4, r5, r6⟩ := hR
  have hin : vp_in (nI k) 60 := by rw [ni_in (by omega)]; exact hk60
  apply en_X3_holdsTrue hb yr_21
  refine ⟨hin, hin, hin, ?_⟩
  rw [ni_cl (by omega), r4 h17, r2 (Or.inr h17)]
  have hP' : (pl 1 k = 8 ∧ pl 3 k < np) ∨ (pl 1 k = 18 ∧ pl 3 k < no) ∨ (pl 1 k = 7 ∧ pl 3 k < np ∧ (pl 2 k = 60 ∨ pl 2 k = 61 ∨ pl 2 k = 62) ∧ pl 4 k ≤ 9) := by unfold PK at hP; omega
  unfold testP at hk
  rcases hP' with ⟨t1, t2⟩ | ⟨t1, t2⟩ | ⟨t1, t2, t3, t4⟩
  · rw [t1]
    rw [if_pos t1] at hk
    have hb7 : (nI (aboA a) >>> ms (nI (pl 3 k))) &&& nI 1 = nI (b01 (!(a 7).testBit (pl 3 k))) := by
      rw [ni_bit (by omega) (by omega), tb_abo]; simp [show pl 3 k < a 1 by omega]
    rw [c7, hb7, ni_b0]
    refine br_f (fun q => q rfl) ⟨fun q => ?_, fun q => ?_⟩
    · have : (a 7).testBit (pl 3 k) = true := by simpa using q
      rw [this] at hk; exact hk
    · have : (a 7).testBit (pl 3 k) = false := by simpa using q
      rw [this] at hk; exact hk
  · rw [t1]
    rw [if_neg (by omega), if_pos t1] at hk
    rw [c6, ni_bit (by omega) (by omega), ni_b0]
    refine br_t (by decide) ⟨hin, br_f (fun q => q rfl) ⟨fun q => ?_, fun q => ?_⟩⟩
    · rw [q] at hk; exact hk
    · have : (a 6).testBit (pl 3 k) = true := by simpa using q
      rw [this] at hk; exact hk
  · have hip : vp_in (nI (pl 3 k)) 8 := by rw [ni_in (by omega)]; omega
    have hh := (hW.1.2.2 (pl 3 k) (by omega)).1
    have c5 : mi b 5 = nI (a 1) := hC.1.2.2.2.2.2.1
    rw [t1, c5]
    refine br_t (by decide) ⟨hin, br_t (by decide) (br_f (by rw [ni_lt (by omega) (by omega)]; omega) (br_f (by rw [ni_le (by omega) (by omega)]; omega) ⟨hip, hin, ?_⟩))⟩
    rw [r5 ⟨h17, t1⟩, r3 (Or.inr (Or.inr ⟨h17, t1⟩)), ni_cl (by omega), (hC.2.2 (pl 3 k) (by omega)).1, ni_eq (a := pl 2 k) (b := 60) (by omega) (by omega), ni_eq (a := pl 2 k) (b := 62) (by omega) (by omega), ni_eq (a := a (16 + 4 * pl 3 k)) (by omega) (by omega), ni_le (by omega) (by omega), ni_le (by omega) (by omega)]
    rw [if_neg (by omega), if_neg (by omega)] at hk
    refine ⟨fun q => ⟨hin, fun q2 => ⟨fun q3 => ?_, fun q3 => ?_⟩, fun q2 => ⟨fun q3 => ?_, fun q3 => ?_⟩⟩, fun q => ⟨fun q3 => ?_, fun q3 => ?_⟩⟩
    · rw [if_neg q, if_neg q2, decide_eq_false q3] at hk; exact hk
    · rw [if_neg q, if_neg q2, decide_eq_true (Classical.byContradiction q3)] at hk; exact hk
    · rw [if_neg q, if_pos (Classical.byContradiction q2), decide_eq_false (by omega)] at hk; exact hk
    · rw [if_neg q, if_pos (Classical.byContradiction q2), decide_eq_true (by omega)] at hk; exact hk
    · rw [if_pos (Classical.byContradiction q), decide_eq_false (by omega)] at hk; exact hk
    · rw [if_pos (Classical.byContradiction q), decide_eq_true (by omega)] at hk; exact hk
theorem s_doStep {E : am_E} {d : Nat} {K : am_K} {mi : Nat → Nat → Int32} {ml : Nat → Nat → Int64} {b c : Nat} (hb : bt b) (hc : lf c) {n no np k : Nat} {pl : Nat → Nat → Nat} {a r : Nat → Nat} (hC : CB b a mi) (hW : WB a) (h0 : a 0 = no) (h1 : a 1 = np) (hk60 : k < 60) (hn60 : n ≤ 60) (hP : PK no np pl k) (hR : RKc 21 pl mi k) (hn : mi 21 2 = nI n) (h20 : ¬ pl 0 k = 20) (hL : LC c r mi) (h7 : r 7 < 65536) (hk : ∀ mi', frV b c mi mi' → (∀ j, (pl 0 k = 19 → j ≠ k) → mi' (c + 1) j = mi (c + 1) j) → (pl 0 k = 19 → mi' (c + 1) k = nI (pl 4 k)) → CB b (doesP pl a r k).1 mi' → LC c (missR (doesP pl a r k).2.2 (doesP pl a r k).2.1) mi' → K (some (.int (nI (nextP n pl a k)))) (S0, mi', ml)) : cq E (d + 6) 45 [.ref c, .ref b, .ref 21, .int (nI k)] K mi ml := by
  have hne := bl_ne hb hc
  have x0 := hW.1.1.1
  have x1 := hW.1.1.2.1
  have x4 := hW.1.1.2.2.2.2.2.1
  have hin : vp_in (nI k) 60 := by rw [ni_in (by omega)]; exact hk60
  obtain ⟨r1, r2, r3, r4, r5, r6⟩ := id hR
  apply en_X3_doStep hc hb yr_21
  rw [ni_cl (by omega), r1]
  have wb : pl 0 k ≤ 21 ∧ 11 ≤ pl 0 k := by unfold PK at hP; omega
  simp only [ni_eq (a := pl 0 k) (show pl 0 k < 2147483648 by omega) (show 11 < 2147483648 by omega), ni_eq (a := pl 0 k) (show pl 0 k < 2147483648 by omega) (show 12 < 2147483648 by omega), ni_eq (a := pl 0 k) (show pl 0 k < 2147483648 by omega) (show 13 < 2147483648 by omega), ni_eq (a := pl 0 k) (show pl 0 k < 2147483648 by omega) (show 14 < 2147483648 by omega), ni_eq (a := pl 0 k) (show pl 0 k < 2147483648 by omega) (show 15 < 2147483648 by omega), ni_eq (a := pl 0 k) (show pl 0 k < 2147483648 by omega) (show 16 < 2147483648 by omega), ni_eq (a := pl 0 k) (show pl 0 k < 2147483648 by omega) (show 17 < 2147483648 by omega), ni_eq (a := pl 0 k) (show pl 0 k < 2147483648 by omega) (show 19 < 2147483648 by omega), ni_eq (a := pl 0 k) (show pl 0 k < 2147483648 by omega) (show 21 < 2147483648 by omega)]
  refine ⟨hin, hin, hin, fun e => ?_, fun e => ?_, fun e => ?_, fun e => ?_, fun e => ?_, fun e => ?_, fun e => ?_, fun e => ?_, fun e21 => ?_, fun e11 e12 e13 e14 e15 e16 e17 e19 e21 => ?_⟩
  · have en : nextP n pl a k = k + 1 := by unfold nextP; rw [if_neg (by omega), if_neg (by omega)]
    have ed : doesP pl a r k = trP a r true := by unfold doesP; rw [if_pos e]; rfl
    rw [en, ed] at hk
    apply s_tryCall hb hc (t := true) hC hW hL
    intro m1 f1 f2 hC1 hL1
    apply rg_X3_doStep_86 hc hb yr_21
    rw [nI_add]
    exact hk _ f1 (fun j _ => f2 j) (fun q => by omega) hC1 hL1
  · have ht : pl 3 k < a 0 := by unfold PK at hP; omega
    have en : nextP n pl a k = k + 1 := by unfold nextP; rw [if_neg (by omega), if_neg (by omega)]
    have ed : doesP pl a r k = (if (a 6).testBit (pl 3 k) = true then a else up1 a 6 (a 6 ^^^ 1 <<< pl 3 k), r, decide (¬ (a 6).testBit (pl 3 k) = true)) := by
      unfold doesP; rw [if_neg (by omega), if_neg (by omega), if_pos e]
      cases (a 6).testBit (pl 3 k) <;> rfl
    rw [en, ed] at hk
    rw [r2 (by omega)]
    apply s_turnOmen hb (is := true) hC hW ht
    intro m1 f1 hC1
    apply rg_X3_doStep_113 hc hb yr_21
    apply s_count hc (LC_fr hL (fun j => f1 c j (by omega)))
    intro m2 f2 hL2
    apply rg_X3_doStep_116 hc hb yr_21
    rw [nI_add]
    exact hk _ (fun k j z => by rw [f2 k j (by omega), f1 k j (by omega)]) (fun j _ => by rw [f2 _ j (by omega), f1 _ j (by omega)]) (fun q => by omega) (CB_frb hC1 (fun k j z => f2 k j (by omega))) hL2
  · have ht : pl 3 k < a 0 := by unfold PK at hP; omega
    have en : nextP n pl a k = k + 1 := by unfold nextP; rw [if_neg (by omega), if_neg (by omega)]
    have ed : doesP pl a r k = (if (a 6).testBit (pl 3 k) = false then a else up1 a 6 (a 6 ^^^ 1 <<< pl 3 k), r, decide (¬ (a 6).testBit (pl 3 k) = false)) := by
      unfold doesP; rw [if_neg (by omega), if_neg (by omega), if_neg (by omega), if_pos e]
      cases (a 6).testBit (pl 3 k) <;> rfl
    rw [en, ed] at hk
    rw [r2 (by omega)]
    apply s_turnOmen hb (is := false) hC hW ht
    intro m1 f1 hC1
    apply rg_X3_doStep_127 hc hb yr_21
    apply s_count hc (LC_fr hL (fun j => f1 c j (by omega)))
    intro m2 f2 hL2
    apply rg_X3_doStep_130 hc hb yr_21
    rw [nI_add]
    exact hk _ (fun k j z => by rw [f2 k j (by omega), f1 k j (by omega)]) (fun j _ => by rw [f2 _ j (by omega), f1 _ j (by omega)]) (fun q => by omega) (CB_frb hC1 (fun k j z => f2 k j (by omega))) hL2
  · have ht : pl 3 k < a 1 := by unfold PK at hP; omega
    have en : nextP n pl a k = k + 1 := by unfold nextP; rw [if_neg (by omega), if_neg (by omega)]
    have ed : doesP pl a r k = (if (a 7).testBit (pl 3 k) then up1 a 7 (ndif (a 7) (1 <<< pl 3 k)) else a, r, (a 7).testBit (pl 3 k)) := by
      unfold doesP; rw [if_neg (by omega), if_neg (by omega), if_neg (by omega), if_neg (by omega), if_pos e]
      cases (a 7).testBit (pl 3 k) <;> rfl
    rw [en, ed] at hk
    rw [r2 (by omega)]
    apply s_takeAboard hb hC hW ht
    intro m1 f1 hC1
    apply rg_X3_doStep_140 hc hb yr_21
    apply s_count hc (LC_fr hL (fun j => f1 c j (by omega)))
    intro m2 f2 hL2
    apply rg_X3_doStep_143 hc hb yr_21
    rw [nI_add]
    exact hk _ (fun k j z => by rw [f2 k j (by omega), f1 k j (by omega)]) (fun j _ => by rw [f2 _ j (by omega), f1 _ j (by omega)]) (fun q => by omega) (CB_frb hC1 (fun k j z => f2 k j (by omega))) hL2
  · have ht : pl 3 k < a 1 ∧ pl 4 k ≤ 9 := by unfold PK at hP; omega
    have en : nextP n pl a k = k + 1 := by unfold nextP; rw [if_neg (by omega), if_neg (by omega)]
    have ed : doesP pl a r k = (up1 a (16 + 4 * pl 3 k) (pl 4 k), r, decide (¬ a (16 + 4 * pl 3 k) = pl 4 k)) := by
      unfold doesP; rw [if_neg (by omega), if_neg (by omega), if_neg (by omega), if_neg (by omega), if_neg (by omega), if_pos e]
    rw [en, ed] at hk
    have hh := (hW.1.2.2 (pl 3 k) (by omega)).1
    have hip : vp_in (nI (pl 3 k)) 8 := by rw [ni_in (by omega)]; omega
    have c5 : mi b 5 = nI (a 1) := hC.1.2.2.2.2.2.1
    rw [r2 (by omega), c5]
    refine br_f (by rw [ni_lt (by omega) (by omega)]; omega) (br_f (by rw [ni_le (by omega) (by omega)]; omega) ?_)
    rw [r3 (by omega), ni_cl (by omega), (hC.2.2 (pl 3 k) (by omega)).1, ni_eq (a := a (16 + 4 * pl 3 k)) (by omega) (by omega)]
    refine ⟨hip, fun q => ⟨hip, ?_⟩, fun q => ?_⟩
    · rw [decide_eq_true q] at hk
      have hC1 : CB b (up1 a (16 + 4 * pl 3 k) (pl 4 k)) (am_si mi (b + 3) (pl 3 k) (nI (pl 4 k))) := CB_pers x0 hC (pl 3 k) 0 (pl 4 k) (nI (pl 4 k)) (Or.inl rfl) rfl
      apply s_count (t := true) hc (LC_fr hL (fun j => by rw [si_f (by omega)]))
      intro m2 f2 hL2
      apply rg_X3_doStep_158 hc hb yr_21
      rw [nI_add]
      exact hk _ (fun k j z => by rw [f2 k j (by omega), si_f (by omega)]) (fun j _ => by rw [f2 _ j (by omega), si_f (by omega)]) (fun q => by omega) (CB_frb hC1 (fun k j z => f2 k j (by omega))) hL2
    · have q' : a (16 + 4 * pl 3 k) = pl 4 k := Classical.byContradiction q
      have eu : up1 a (16 + 4 * pl 3 k) (pl 4 k) = a := by
        funext j
        by_cases ej : j = 16 + 4 * pl 3 k
        · rw [up1_t ej, ej, q']
        · rw [up1_f ej]
      rw [decide_eq_false q, eu] at hk
      apply s_count (t := false) hc hL
      intro m2 f2 hL2
      apply rg_X3_doStep_158 hc hb yr_21
      rw [nI_add]
      exact hk _ (fun k j z => by rw [f2 k j (by omega)]) (fun j _ => by rw [f2 _ j (by omega)]) (fun q => by omega) (CB_frb hC (fun k j z => f2 k j (by omega))) hL2
  · have en : nextP n pl a k = k + 1 := by unfold nextP; rw [if_neg (by omega), if_neg (by omega)]
    have ed : doesP pl a r k = trP a (up1 r 7 (drN (r 7))) (tideB a (drN (r 7))) := by unfold doesP; rw [if_neg (by omega), if_pos e]; rfl
    rw [en, ed] at hk
    rw [hC.1.2.2.1]
    apply s_drawBelow hc (hL.2 7 (by omega) (by omega)) h7 x4
    apply rg_X3_doStep_99 hc hb yr_21
    apply s_tryCall hb hc (t := tideB a (drN (r 7))) (CB_frb hC (fun k j z => by rw [si_f (by omega)])) hW (LC_up hL _ (by omega))
    intro m1 f1 f2 hC1 hL1
    apply rg_X3_doStep_102 hc hb yr_21
    rw [nI_add]
    exact hk _ (fun k j z => by rw [f1 k j z, si_f (by omega)]) (fun j _ => by rw [f2 j, si_f (by omega)]) (fun q => by omega) hC1 hL1
  · have ed : doesP pl a r k = (a, r, true) := by
      unfold doesP; rw [if_neg (by omega), if_neg (by omega), if_neg (by omega), if_neg (by omega), if_neg (by omega), if_neg (by omega)]
    rw [ed] at hk
    unfold nextP at hk
    rw [if_pos e] at hk
    apply s_holdsTrue hb hC hW h0 h1 hk60 hP hR e
    apply rg_X3_doStep_167 hc hb yr_21
    rw [ni_b0, ni_cl (by omega), r6 (by omega), nI_add, nI_add]
    refine ⟨fun q => ⟨hin, ?_⟩, fun q => ?_⟩
    · rw [if_neg (by rw [q]; decide)] at hk
      exact hk _ (fun _ _ _ => rfl) (fun _ _ => rfl) (fun q => by omega) hC hL
    · rw [if_pos (by simpa using q)] at hk
      exact hk _ (fun _ _ _ => rfl) (fun _ _ => rfl) (fun q => by omega) hC hL
  · have ed : doesP pl a r k = (a, r, true) := by
      unfold doesP; rw [if_neg (by omega), if_neg (by omega), if_neg (by omega), if_neg (by omega), if_neg (by omega), if_neg (by omega)]
    have en : nextP n pl a k = k + 1 := by unfold nextP; rw [if_neg (by omega), if_neg (by omega)]
    rw [en, ed] at hk
    rw [r3 (by omega), nI_add]
    exact ⟨hin, hk _ (fun k j z => by rw [si_f (by omega)]) (fun j z => by have := z e; rw [si_f (by omega)]) (fun q => by rw [si_t ⟨rfl, rfl⟩]) (CB_frb hC (fun k j z => by rw [si_f (by omega)])) (LC_fr hL (fun j => by rw [si_f (by omega)]))⟩
  · have ed : doesP pl a r k = (a, r, true) := by
      unfold doesP; rw [if_neg (by omega), if_neg (by omega), if_neg (by omega), if_neg (by omega), if_neg (by omega), if_neg (by omega)]
    have en : nextP n pl a k = n := by unfold nextP; rw [if_neg (by omega), if_pos e21]
    rw [en, ed] at hk
    rw [hn]
    exact hk _ (fun _ _ _ => rfl) (fun _ _ => rfl) (fun q => by omega) hC hL
  · exact absurd hP (by unfold PK; omega)
