theorem runP_out {n : Nat} {pl : Nat → Nat → Nat} {a r tm : Nat → Nat} : ∀ f, runP n pl f a r tm n = (a, r)
  | 0 => rfl
  | f + 1 => by unfold runP; rw [if_pos (Nat.le_refl _)]
theorem s_holdsM {E : am_E} {d : Nat} {K : am_K} {mi : Nat → Nat → Int32} {ml : Nat → Nat → Int64} {no np k : Nat} {pl : Nat → Nat → Nat} {a : Nat → Nat} (hM : MA a mi) (hW : WB a) (h0 : a 0 = no) (h1 : a 1 = np) (hk60 : k < 60) (hP : PK no np pl k) (hR : RKm 0 pl mi k) (h17 : pl 0 k = 17) (hk : K (some (.int (nI (b01 (testP pl a k))))) (S0, mi, ml)) : cq E (d + 3) 319 [.ref 106, .int (nI (48 + 6 * k))] K mi ml := by
  have x0 := hW.1.1.1
  have x1 := hW.1.1.2.1
  have x6 := hW.1.1.2.2.2.2.2.2.2.1
  have x7 := hW.1.1.2.2.2.2.2.2.2.2
  have w := WA_p2 hW.1
  have m6 : mi 107 6 = nI (a 6) := hM 6 (by omega) (by omega)
  have m7 : mi 107 7 = nI (a 7) := hM 7 (by omega) (by omega)
  have hR' := hR
  unfold RKm wm at hR'
  simp only [Nat.zero_add] at hR'
  rw [if_pos h17] at hR'
  obtain ⟨r1, r2, r3, r4, r5, r6⟩ := hR'
  apply en_X10_holds
  rw [nI_add (48 + 6 * k) 1, nI_add (48 + 6 * k) 5, nI_add (48 + 6 * k) 2, ni_cl (a := 48 + 6 * k) (by omega), ni_cl (a := 48 + 6 * k + 1) (by omega), ni_cl (a := 48 + 6 * k + 5) (by omega), ni_cl (a := 48 + 6 * k + 2) (by omega), r1, r2 (Or.inr h17), m6, m7]
  refine ⟨by rw [ni_in (by omega)]; omega, by rw [ni_in (by omega)]; omega, ?_⟩
  have hP' : (pl 1 k = 8 ∧ pl 3 k < np) ∨ (pl 1 k = 18 ∧ pl 3 k < no) ∨ (pl 1 k = 7 ∧ pl 3 k < np ∧ (pl 2 k = 60 ∨ pl 2 k = 61 ∨ pl 2 k = 62) ∧ pl 4 k ≤ 9) := by unfold PK at hP; omega
  unfold testP at hk
  rcases hP' with ⟨t1, t2⟩ | ⟨t1, t2⟩ | ⟨t1, t2, t3, t4⟩
  · rw [if_pos t1] at hk ⊢
    rw [ni_bit (a := a 7) (by omega) (by omega), ni_b1]
    refine br_f (fun q => q (by decide)) ⟨fun q => ?_, fun q => ?_⟩
    · rw [show (a 7).testBit (pl 3 k) = false by simpa using q] at hk; exact hk
    · rw [Classical.byContradiction q] at hk; exact hk
  · rw [if_neg (by omega), if_pos t1] at hk ⊢
    rw [ni_bit (a := a 6) (by omega) (by omega), ni_b1]
    refine br_t (by decide) (br_f (fun q => q (by decide)) ⟨fun q => ?_, fun q => ?_⟩)
    · rw [show (a 6).testBit (pl 3 k) = false by simpa using q] at hk; exact hk
    · rw [Classical.byContradiction q] at hk; exact hk
  · have hh := (hW.1.2.2 (pl 3 k) (by omega)).1
    have hmh : mi 107 (16 + 4 * pl 3 k + 0) = nI (a (16 + 4 * pl 3 k)) := hM (16 + 4 * pl 3 k) (by omega) (by omega)
    rw [if_neg (by omega), if_neg (by omega)] at hk ⊢
    rw [ni_mul, nI_add, nI_add, ni_cl (a := 16 + 4 * pl 3 k + 0) (by omega), hmh, r4 (Or.inr ⟨h17, t1⟩), r5 ⟨h17, t1⟩, ni_eq (a := pl 2 k) (b := 60) (by omega) (by omega), ni_eq (a := pl 2 k) (b := 62) (by omega) (by omega), ni_eq (a := a (16 + 4 * pl 3 k)) (by omega) (by omega), ni_le (by omega) (by omega), ni_le (by omega) (by omega)]
    have i1 : vp_in (nI (16 + 4 * pl 3 k + 0)) 2592 := by rw [ni_in (by omega)]; omega
    have i2 : vp_in (nI (48 + 6 * k + 5)) 2592 := by rw [ni_in (by omega)]; omega
    have i3 : vp_in (nI (48 + 6 * k + 2)) 2592 := by rw [ni_in (by omega)]; omega
    refine br_t (by decide) (br_t (by decide) ⟨i1, i2, fun q => ⟨i2, fun q2 => ⟨i3, fun q3 => ?_, fun q3 => ?_⟩, fun q2 => ⟨i3, fun q3 => ?_, fun q3 => ?_⟩⟩, fun q => ⟨i3, fun q3 => ?_, fun q3 => ?_⟩⟩)
    · rw [if_neg q, if_neg q2, decide_eq_false q3] at hk; exact hk
    · rw [if_neg q, if_neg q2, decide_eq_true (Classical.byContradiction q3)] at hk; exact hk
    · rw [if_neg q, if_pos (Classical.byContradiction q2), decide_eq_false (by omega)] at hk; exact hk
    · rw [if_neg q, if_pos (Classical.byContradiction q2), decide_eq_true (by omega)] at hk; exact hk
    · rw [if_pos (Classical.byContradiction q), decide_eq_false (by omega)] at hk; exact hk
    · rw [if_pos (Classical.byContradiction q), decide_eq_true (by omega)] at hk; exact hk
theorem LM_miss {r : Nat → Nat} {mi : Nat → Nat → Int32} {b : Bool} {x : Int32} (h : LM r mi) (hx : x = nI (missR b r 2)) : LM (missR b r) (am_si mi 120 0 x) := by
  obtain ⟨q1, q2, q3, q4, q5, q6, q7⟩ := h
  refine ⟨?_, ?_, ?_, ?_, ?_, ?_, ?_⟩
  · rw [si_f (by omega), miss_1 _ _ (by omega)]; exact q1
  · rw [si_f (by omega), miss_1 _ _ (by omega)]; exact q2
  · rw [si_t ⟨rfl, rfl⟩]; exact hx
  · rw [si_f (by omega), miss_1 _ _ (by omega)]; exact q4
  · rw [si_f (by omega), miss_1 _ _ (by omega)]; exact q5
  · rw [si_f (by omega), miss_1 _ _ (by omega)]; exact q6
  · rw [si_f (by omega), miss_1 _ _ (by omega)]; exact q7
theorem does_2 (pl : Nat → Nat → Nat) (a r : Nat → Nat) (k : Nat) : (doesP pl a r k).2.1 2 = r 2 := by
  have hc : ∀ r, (clP a r).2.1 2 = r 2 := fun r => by unfold clP; split <;> rfl
  unfold doesP
  split
  · exact hc r
  · split
    · split
      · rw [hc]; rfl
      · rfl
    · split
      · split <;> rfl
      · split
        · split <;> rfl
        · split
          · split <;> rfl
          · split <;> rfl
theorem s_lives {E : am_E} {d : Nat} {K : am_K} {mi : Nat → Nat → Int32} {ml : Nat → Nat → Int64} {n no np seed : Nat} {pl : Nat → Nat → Nat} {a : Nat → Nat} (hM : MA a mi) (hW : WB a) (h0 : a 0 = no) (h1 : a 1 = np) (hn60 : n ≤ 60) (hN : NST n pl) (hP : ∀ k, k < n → PK no np pl k) (hR : ∀ k, k < n → RKm 0 pl mi k) (hn : mi 107 8 = nI n) (hs : seed < 65536) (hk : ∀ mi', frW mi mi' → MA (lifeP n pl a seed).1 mi' → LM (lifeP n pl a seed).2 mi' → K none (S0, mi', ml)) : cq E (d + 10) 321 [.ref 106, .int (nI seed)] K mi ml := by
  -- the outer loop at a step, given what comes behind it
  have outer : ∀ f a r tm k mi', (∀ a r tm k mi', MA a mi' → WB a → a 0 = no → a 1 = np → LM r mi' → r 7 < 65536 → r 1 ≤ 300 → k ≤ n → ENC n pl k (fun x => mi' 119 x = nI (tm x - 1) ∧ 1 ≤ tm x ∧ tm x ≤ 99) → frW mi mi' → 60200 ≤ f + pot n pl (r 1) k → (∀ m2, frW mi m2 → MA (runP n pl f a r tm k).1 m2 → LM (runP n pl f a r tm k).2 m2 → K none (S0, m2, ml)) → cq E (d + 9) 320 [.ref 106, .int (nI k)] (kc E (d + 9) 321 K 180 [.ref 106, am_mk, am_mk, am_mk] []) mi' ml) → MA a mi' → WB a → a 0 = no → a 1 = np → LM r mi' → r 7 < 65536 → r 1 ≤ 300 → k ≤ n → (k < n → ¬ pl 0 k = 20) → ENC n pl k (fun x => mi' 119 x = nI (tm x - 1) ∧ 1 ≤ tm x ∧ tm x ≤ 99) → frW mi mi' → 60200 ≤ f + 1 + pot n pl (r 1) k → (∀ m2, frW mi m2 → MA (runP n pl (f + 1) a r tm k).1 m2 → LM (runP n pl (f + 1) a r tm k).2 m2 → K none (S0, m2, ml)) → rn E (d + 9) 321 K 32 [.ref 106, am_mk, .int (nI k), am_mk] [] mi' ml := by
    intro f a r tm k mi' ih hM hW h0 h1 hL h7 hr1 hkn h20 hE hF hpot hk
    have en : mi' 107 8 = nI n := by rw [hF 107 8 (by omega)]; exact hn
    apply rg_X10_lives_32
    rw [en, ni_le (by omega) (by omega), hL.1, ni_eq (a := r 1) (by omega) (by omega), ni_mul, nI_add, ni_cl (by omega), nI_add]
    unfold runP at hk
    refine ⟨fun q => ?_, fun q => ?_⟩
    · rw [if_pos q] at hk
      exact hk _ hF hM hL
    · have h20 := h20 (by omega)
      have hPk := hP k (by omega)
      have hRk := RKm_fr (hR k (by omega)) (fun j hj => hF 107 j (by omega))
      have wb : 11 ≤ pl 0 k ∧ pl 0 k ≤ 21 ∧ pl 0 k ≠ 18 := by unfold PK at hPk; omega
      rw [if_neg q, if_neg h20] at hk
      refine ⟨fun q2 => ⟨by rw [ni_in (by omega)]; omega, ?_⟩, fun q2 => ?_⟩
      · rw [if_neg (by omega)] at hk
        have hR' := hRk
        unfold RKm at hR'
        simp only [Nat.zero_add] at hR'
        obtain ⟨r1, r2, r3, r4, r5, r6⟩ := hR'
        have hM1 : MA a (am_si mi' 106 31 (nI (r 1 + 1))) := fun k h1 h2 => by rw [si_f (by omega)]; exact hM k h1 h2
        have hL1 : LM (up1 r 1 (r 1 + 1)) (am_si mi' 106 31 (nI (r 1 + 1))) := by
          obtain ⟨q1, q2, q3, q4, q5, q6, q7⟩ := hL
          refine ⟨si_t ⟨rfl, rfl⟩, ?_, ?_, ?_, ?_, ?_, ?_⟩
          · rw [si_f (by omega)]; exact q2
          · rw [si_f (by omega)]; exact q3
          · rw [si_f (by omega)]; exact q4
          · rw [si_f (by omega)]; exact q5
          · rw [si_f (by omega)]; exact q6
          · rw [si_f (by omega)]; exact q7
        have hF1 : frW mi (am_si mi' 106 31 (nI (r 1 + 1))) := fun k j z => by rw [si_f (by omega)]; exact hF k j z
        have hR1 : RKm 0 pl (am_si mi' 106 31 (nI (r 1 + 1))) k := RKm_fr hRk (fun j hj => by rw [si_f (by omega)])
        have h7' : up1 r 1 (r 1 + 1) 7 < 65536 := by rw [up1_f (by omega)]; exact h7
        have hwm : wm pl k < 2000 ∧ (wm pl k = 20 ↔ pl 0 k = 21) ∧ (wm pl k = 18 ↔ pl 0 k = 19) ∧ (1700 ≤ wm pl k ↔ pl 0 k = 17) := by
          unfold wm
          by_cases e17 : pl 0 k = 17
          · rw [if_pos e17]
            split
            · exact ⟨by omega, by omega, by omega, by omega⟩
            · split <;> exact ⟨by omega, by omega, by omega, by omega⟩
          · rw [if_neg e17]
            by_cases e19 : pl 0 k = 19
            · rw [if_pos e19]; exact ⟨by omega, by omega, by omega, by omega⟩
            · rw [if_neg e19, if_neg h20]
              by_cases e21 : pl 0 k = 21
              · rw [if_pos e21]; exact ⟨by omega, by omega, by omega, by omega⟩
              · rw [if_neg e21]; exact ⟨by omega, by omega, by omega, by omega⟩
        obtain ⟨w1, w2, w3, w4⟩ := hwm
        rw [si_f (by omega), r1, ni_eq (by omega) (by omega), si_f (by omega), hL.2.2.1]
        refine ⟨fun q3 => ?_, fun q3 => ?_⟩
        · obtain ⟨g1, g2, g3, g4, g5, g6⟩ := does_ok (r := up1 r 1 (r 1 + 1)) hPk hW h0 h1 h7'
          have d2 := does_2 pl a (up1 r 1 (r 1 + 1)) k
          rw [up1_f (by omega)] at d2
          apply s_does hM1 hW h0 h1 (by omega) hPk hR1 h20 hL1 h7'
          intro m1 f1 hM2 hL2
          apply rg_X10_lives_103
          rw [ni_cl (by omega), ni_b0, nI_add, nI_add]
          have hne21 : ¬ pl 0 k = 21 := fun e => q3 (w2.mpr e)
          -- behind the count
          have tail : ∀ x, x = nI (missR (doesP pl a (up1 r 1 (r 1 + 1)) k).2.2 (doesP pl a (up1 r 1 (r 1 + 1)) k).2.1 2) → rn E (d + 9) 321 K 113 [.ref 106, am_mk, .int (nI k), .int (nI (48 + 6 * k))] [] (am_si m1 120 0 x) ml := by
            intro x hx
            have hL3 := LM_miss hL2 hx
            have hM3 : MA (doesP pl a (up1 r 1 (r 1 + 1)) k).1 (am_si m1 120 0 x) := fun k h1 h2 => by rw [si_f (by omega)]; exact hM2 k h1 h2
            have hF3 : frW mi (am_si m1 120 0 x) := fun k j z => by rw [si_f (by omega), f1 k j (by omega)]; exact hF1 k j z
            have h119 : ∀ j, am_si m1 120 0 x 119 j = mi' 119 j := fun j => by rw [si_f (by omega), f1 119 j (by omega), si_f (by omega)]
            have h107 : ∀ j, 48 ≤ j → am_si m1 120 0 x 107 j = mi' 107 j := fun j hj => by rw [si_f (by omega), f1 107 j (by omega), si_f (by omega)]
            generalize am_si m1 120 0 x = m3 at *
            -- behind the loop's count
            have tail2 : ∀ m4, (∀ c j, c ≠ 119 → m4 c j = m3 c j) → ENC n pl (nextP n pl a k) (fun x => m4 119 x = nI (tmP pl tm k x - 1) ∧ 1 ≤ tmP pl tm k x ∧ tmP pl tm k x ≤ 99) → rn E (d + 9) 321 K 140 [.ref 106, am_mk, .int (nI k), .int (nI (48 + 6 * k))] [] m4 ml := by
              intro m4 f4 hE4
              have hM4 : MA (doesP pl a (up1 r 1 (r 1 + 1)) k).1 m4 := fun k h1 h2 => by rw [f4 107 k (by omega)]; exact hM3 k h1 h2
              have hL4 := LM_fr hL3 (fun c j z => f4 c j (by omega))
              have hF4 : frW mi m4 := fun c j z => by rw [f4 c j (by omega)]; exact hF3 c j z
              have g107 : ∀ j, 48 ≤ j → m4 107 j = mi' 107 j := fun j hj => by rw [f4 107 j (by omega), h107 j hj]
              have next : cq E (d + 9) 320 [.ref 106, .int (nI (nextP n pl a k))] (kc E (d + 9) 321 K 180 [.ref 106, am_mk, am_mk, am_mk] []) m4 ml := by
                refine ih _ _ (tmP pl tm k) _ _ hM4 g1 (by rw [g2, h0]) (by rw [g3, h1]) hL4 (by rw [miss_1 _ _ (by omega)]; exact g5) (by rw [miss_1 _ _ (by omega), g4, up1_t rfl]; omega) (next_le hN (by omega)) hE4 hF4 ?_ hk
                rw [miss_1 _ _ (by omega), g4, up1_t rfl]
                unfold pot at hpot ⊢
                rw [if_neg (by omega)] at hpot
                omega
              apply rg_X10_lives_140
              rw [ni_cl (by omega), g107 _ (by omega), r1, ni_lt (by omega) (by omega), nI_add]
              refine ⟨by rw [ni_in (by omega)]; omega, fun q4 => ?_, fun q4 => ?_⟩
              · have en2 : nextP n pl a k = k + 1 := by unfold nextP; rw [if_neg (by omega), if_neg hne21]
                rw [en2] at next
                exact next
              · have e17 : pl 0 k = 17 := w4.mp (by omega)
                have ed : doesP pl a (up1 r 1 (r 1 + 1)) k = (a, up1 r 1 (r 1 + 1), true) := by
                  unfold doesP; rw [if_neg (by omega), if_neg (by omega), if_neg (by omega), if_neg (by omega), if_neg (by omega), if_neg (by omega)]
                rw [ed] at hM4
                have hM5 : MA a m4 := hM4
                apply s_holdsM hM5 hW h0 h1 (by omega) hPk (RKm_fr hRk g107) e17
                apply rg_X10_lives_158
                rw [ni_b0, nI_add (48 + 6 * k) 4, ni_cl (a := 48 + 6 * k + 4) (by omega), g107 _ (by omega), r6 (by omega), nI_add k 1, nI_add (pl 5 k) 1]
                unfold nextP at next
                rw [if_pos e17] at next
                refine ⟨fun q5 => ?_, fun q5 => ⟨by rw [ni_in (by omega)]; omega, ?_⟩⟩
                · rw [if_pos (by simpa using q5)] at next
                  exact next
                · rw [if_neg (by rw [Classical.byContradiction q5]; decide)] at next
                  exact next
            apply rg_X10_lives_113
            rw [ni_cl (by omega), h107 _ (by omega), r1, ni_eq (by omega) (by omega)]
            refine ⟨by rw [ni_in (by omega)]; omega, fun q4 => tail2 _ (fun _ _ _ => rfl) (enc_does (no := no) (np := np) hN (by omega) h20 hE (fun e => absurd (w3.mpr e) q4) (fun b hb hp => ?_)), fun q4 => ?_⟩
            · rw [h119]
              have : tmP pl tm k = tm := by unfold tmP; rw [if_neg (fun e => q4 (w3.mpr e))]
              rw [this]; exact hp
            · have e19 : pl 0 k = 19 := w3.mp (Classical.byContradiction q4)
              have hnu : 1 ≤ pl 4 k ∧ pl 4 k ≤ 99 := by unfold PK at hPk; omega
              rw [nI_add, ni_cl (by omega), ni_cl (by omega), h107 _ (by omega), r3 e19, ni_sub (by omega)]
              refine ⟨by rw [ni_in (by omega)]; omega, by rw [ni_in (by omega)]; omega, tail2 _ (fun c j z => by rw [si_f (by omega)]) (enc_does (no := no) (np := np) hN (by omega) h20 hE (fun e => ?_) (fun b hb hp => ?_))⟩
              · unfold tmP
                rw [si_t ⟨rfl, rfl⟩, if_pos e19, up1_t rfl]
                exact ⟨rfl, hnu⟩
              · have hbk := hb e19
                unfold tmP
                rw [si_f (by omega), if_pos e19, up1_f hbk, h119]
                exact hp
          refine ⟨fun q4 => ⟨by rw [ni_in (by omega)]; omega, tail _ ?_⟩, fun q4 => ⟨by rw [ni_in (by omega)]; omega, tail _ ?_⟩⟩
          · unfold missR
            rw [q4, if_neg (by decide), up1_t rfl, d2]
          · unfold missR
            rw [if_pos (by simpa using q4), d2, Nat.add_zero]
        · have e21 : pl 0 k = 21 := w2.mp (Classical.byContradiction q3)
          have ed : doesP pl a (up1 r 1 (r 1 + 1)) k = (a, up1 r 1 (r 1 + 1), true) := by
            unfold doesP; rw [if_neg (by omega), if_neg (by omega), if_neg (by omega), if_neg (by omega), if_neg (by omega), if_neg (by omega)]
          have en2 : nextP n pl a k = n := by unfold nextP; rw [if_neg (by omega), if_pos e21]
          rw [ed, en2, runP_out] at hk
          exact hk _ hF1 hM1 hL1
      · rw [if_pos (by omega)] at hk
        refine hk _ (fun k j z => by rw [si_f (by omega)]; exact hF k j z) (fun k h1 h2 => by rw [si_f (by omega)]; exact hM k h1 h2) ?_
        obtain ⟨q1, q2, q3, q4, q5, q6, q7⟩ := hL
        refine ⟨?_, ?_, ?_, ?_, ?_, ?_, si_t ⟨rfl, rfl⟩⟩
        · rw [si_f (by omega)]; exact q1
        · rw [si_f (by omega)]; exact q2
        · rw [si_f (by omega)]; exact q3
        · rw [si_f (by omega)]; exact q4
        · rw [si_f (by omega)]; exact q5
        · rw [si_f (by omega)]; exact q6
  have key : ∀ f a r tm k mi', MA a mi' → WB a → a 0 = no → a 1 = np → LM r mi' → r 7 < 65536 → r 1 ≤ 300 → k ≤ n → ENC n pl k (fun x => mi' 119 x = nI (tm x - 1) ∧ 1 ≤ tm x ∧ tm x ≤ 99) → frW mi mi' → 60200 ≤ f + pot n pl (r 1) k → (∀ m2, frW mi m2 → MA (runP n pl f a r tm k).1 m2 → LM (runP n pl f a r tm k).2 m2 → K none (S0, m2, ml)) → rn E (d + 8) 320 (kc E (d + 9) 321 K 180 [.ref 106, am_mk, am_mk, am_mk] []) 2 [.ref 106, am_mk, .int (nI k), am_mk, am_mk] [] mi' ml := by
    intro f
    induction f with
    | zero =>
      intro a r tm k mi' hM hW h0 h1 hL h7 hr1 hkn hE hF hpot hk
      have := pot_le (n := n) (pl := pl) hr1 (show k ≤ 60 by omega)
      omega
    | succ f ih =>
      intro a r tm k mi' hM hW h0 h1 hL h7 hr1 hkn hE hF hpot hk
      have en : mi' 107 8 = nI n := by rw [hF 107 8 (by omega)]; exact hn
      have ih' : ∀ a r tm k mi', MA a mi' → WB a → a 0 = no → a 1 = np → LM r mi' → r 7 < 65536 → r 1 ≤ 300 → k ≤ n → ENC n pl k (fun x => mi' 119 x = nI (tm x - 1) ∧ 1 ≤ tm x ∧ tm x ≤ 99) → frW mi mi' → 60200 ≤ f + pot n pl (r 1) k → (∀ m2, frW mi m2 → MA (runP n pl f a r tm k).1 m2 → LM (runP n pl f a r tm k).2 m2 → K none (S0, m2, ml)) → cq E (d + 9) 320 [.ref 106, .int (nI k)] (kc E (d + 9) 321 K 180 [.ref 106, am_mk, am_mk, am_mk] []) mi' ml := by
        intro a r tm k mi' h1 h2 h3 h4 h5 h6 h7 h8 h9 h10 h11 h12
        apply en_X10_behindEnds
        exact ih a r tm k mi' h1 h2 h3 h4 h5 h6 h7 h8 h9 h10 h11 h12
      apply rg_X10_behindEnds_2
      rw [en, ni_le (a := n) (by omega) (by omega)]
      refine ⟨fun q => ?_, fun q => ?_⟩
      · apply rg_X10_lives_180
        exact outer f a r tm k mi' ih' hM hW h0 h1 hL h7 hr1 hkn (fun z => by omega) hE hF hpot hk
      · have hPk := hP k (by omega)
        have hRk := RKm_fr (hR k (by omega)) (fun j hj => hF 107 j (by omega))
        have wb : 11 ≤ pl 0 k ∧ pl 0 k ≤ 21 ∧ pl 0 k ≠ 18 := by unfold PK at hPk; omega
        have hR' := hRk
        unfold RKm at hR'
        simp only [Nat.zero_add] at hR'
        obtain ⟨r1, r2, r3, r4, r5, r6⟩ := hR'
        have w19 : ∀ j, j < n → wm pl j < 2000 ∧ (wm pl j = 19 ↔ pl 0 j = 20) ∧ (wm pl j = 18 ↔ pl 0 j = 19) := fun j hj => by
          have hPj := hP j hj
          have wj : 11 ≤ pl 0 j ∧ pl 0 j ≤ 21 ∧ pl 0 j ≠ 18 := by unfold PK at hPj; omega
          unfold wm
          by_cases e17 : pl 0 j = 17
          · rw [if_pos e17]
            split
            · exact ⟨by omega, by omega, by omega⟩
            · split <;> exact ⟨by omega, by omega, by omega⟩
          · rw [if_neg e17]
            by_cases e19 : pl 0 j = 19
            · rw [if_pos e19]; exact ⟨by omega, by omega, by omega⟩
            · rw [if_neg e19]
              by_cases e20 : pl 0 j = 20
              · rw [if_pos e20]; exact ⟨by omega, by omega, by omega⟩
              · rw [if_neg e20]
                by_cases e21 : pl 0 j = 21
                · rw [if_pos e21]; exact ⟨by omega, by omega, by omega⟩
                · rw [if_neg e21]; exact ⟨by omega, by omega, by omega⟩
        obtain ⟨v1, v2, v3⟩ := w19 k (by omega)
        rw [ni_mul, nI_add (48) (6 * k), ni_cl (a := 48 + 6 * k) (by omega), r1, ni_eq (a := wm pl k) (b := 19) (by omega) (by omega)]
        refine ⟨by rw [ni_in (by omega)]; omega, fun q2 => ?_, fun q2 => ?_⟩
        · apply rg_X10_lives_180
          exact outer f a r tm k mi' ih' hM hW h0 h1 hL h7 hr1 hkn (fun _ e => q2 (v2.mpr e)) hE hF hpot hk
        · have e20 : pl 0 k = 20 := v2.mp (Classical.byContradiction q2)
          obtain ⟨z1, z2, z3⟩ := (hN k (by omega)).2 e20
          obtain ⟨u1, u2, u3⟩ := w19 (pl 5 k) (by omega)
          have hRb := RKm_fr (hR (pl 5 k) (by omega)) (fun j hj => hF 107 j (by omega))
          have hRb1 : mi' 107 (48 + 6 * pl 5 k) = nI (wm pl (pl 5 k)) := by
            have := hRb.1
            rw [Nat.zero_add] at this
            exact this
          have hpot0 : pot n pl (r 1) k = 200 * r 1 + k := by unfold pot; rw [if_pos ⟨by omega, e20⟩]; rfl
          have hpge : ∀ j, 200 * r 1 + j ≤ pot n pl (r 1) j := fun j => by unfold pot; omega
          unfold runP at hk
          rw [if_neg q, if_pos e20] at hk
          rw [nI_add (48 + 6 * k) 4, ni_cl (a := 48 + 6 * k + 4) (by omega), r6 (by omega), ni_mul, nI_add (48) (6 * pl 5 k), ni_cl (a := 48 + 6 * pl 5 k) (by omega), hRb1, ni_eq (a := wm pl (pl 5 k)) (by omega) (by omega), ni_cl (a := pl 5 k) (by omega), nI_add, nI_add]
          have hi4 : vp_in (nI (48 + 6 * k + 4)) 2592 := by rw [ni_in (by omega)]; omega
          have hib : vp_in (nI (48 + 6 * pl 5 k)) 2592 := by rw [ni_in (by omega)]; omega
          have hi8 : vp_in (nI (pl 5 k)) 80 := by rw [ni_in (by omega)]; omega
          have x0 : ∀ x : Int32, x - nI 0 = x := fun x => by rw [show nI 0 = 0 from rfl, Int32.sub_zero]
          have same : ∀ c j, am_si mi' 119 (pl 5 k) (mi' 119 (pl 5 k) - nI 0) c j = mi' c j := fun c j => by
            by_cases e : c = 119 ∧ j = pl 5 k
            · rw [si_t e, x0, e.1, e.2]
            · rw [si_f e]
          have same' : am_si mi' 119 (pl 5 k) (mi' 119 (pl 5 k) - nI 0) = mi' := funext fun c => funext fun j => same c j
          rw [same']
          refine ⟨hi4, hib, fun q3 => ⟨hi8, hi8, ?_⟩, fun q3 => ⟨hi8, ?_⟩⟩
          · rw [if_neg (fun e => q3 (u3.mpr e))] at hk
            have := hpge (k + 1)
            exact ih a r tm (k + 1) mi' hM hW h0 h1 hL h7 hr1 (by omega) (enc_end hN (by omega) e20 hE (fun _ _ h => h)) hF (by omega) hk
          · have q5 : pl 0 (pl 5 k) = 19 := u3.mp (Classical.byContradiction q3)
            rw [if_pos q5] at hk
            obtain ⟨t1, t2, t3⟩ := hE (pl 5 k) (by omega) q5 z1 (by omega)
            rw [t1, ni_le (by omega) (by omega)]
            have hE2 : ∀ m4 : Nat → Nat → Int32, (∀ j, j ≠ pl 5 k → m4 119 j = mi' 119 j) → ∀ x, x ≠ pl 5 k → (mi' 119 x = nI (tm x - 1) ∧ 1 ≤ tm x ∧ tm x ≤ 99) → (m4 119 x = nI (up1 tm (pl 5 k) (tm (pl 5 k) - 1) x - 1) ∧ 1 ≤ up1 tm (pl 5 k) (tm (pl 5 k) - 1) x ∧ up1 tm (pl 5 k) (tm (pl 5 k) - 1) x ≤ 99) := fun m4 h4 x hx h => by
              rw [h4 x hx, up1_f hx]; exact h
            have on : ¬ (1 < tm (pl 5 k) ∧ pl 5 k + 1 < k) → ∀ m4, (∀ c j, ¬ (c = 119 ∧ j = pl 5 k) → m4 c j = mi' c j) → rn E (d + 8) 320 (kc E (d + 9) 321 K 180 [.ref 106, am_mk, am_mk, am_mk] []) 2 [.ref 106, am_mk, .int (nI (k + 1)), am_mk, am_mk] [] m4 ml := fun e m4 h4 => by
              rw [if_neg e] at hk
              have := hpge (k + 1)
              exact ih a r _ (k + 1) m4 (fun k h1 h2 => by rw [h4 107 k (by omega)]; exact hM k h1 h2) hW h0 h1 (LM_fr hL (fun c j z => h4 c j (by omega))) h7 hr1 (by omega) (enc_end hN (by omega) e20 hE (hE2 m4 (fun j hj => h4 119 j (by omega)))) (fun c j z => by rw [h4 c j (by omega)]; exact hF c j z) (by omega) hk
            refine ⟨fun q6 => ⟨hi8, hi8, on (by omega) _ (fun _ _ _ => rfl)⟩, fun q6 => ⟨hi8, hi8, ?_⟩⟩
            rw [ni_sub (by omega)]
            by_cases e7 : pl 5 k + 1 < k
            · rw [if_pos ⟨by omega, e7⟩] at hk
              have hpb : pot n pl (r 1) (pl 5 k + 1) = 200 * r 1 + (pl 5 k + 1) + 61 := by
                unfold pot
                rw [if_neg (fun e => back_ne hN (by omega) e20 q5 e7 e.2)]
              refine ih a r _ (pl 5 k + 1) _ (fun k h1 h2 => by rw [si_f (by omega)]; exact hM k h1 h2) hW h0 h1 (LM_fr hL (fun c j z => by rw [si_f (by omega)])) h7 hr1 (by omega) (enc_back hN (by omega) e20 q5 hE ?_ (hE2 _ (fun j hj => by rw [si_f (by omega)]))) (fun c j z => by rw [si_f (by omega)]; exact hF c j z) (by omega) hk
              rw [si_t ⟨rfl, rfl⟩, up1_t rfl]
              exact ⟨rfl, by omega, by omega⟩
            · -- an empty loop: the reference goes round it
              have e8 : pl 5 k + 1 = k := by omega
              have spin : ∀ v m4, v < 200 → (∀ c j, ¬ (c = 119 ∧ j = pl 5 k) → m4 c j = mi' c j) → m4 119 (pl 5 k) = nI v → rn E (d + 8) 320 (kc E (d + 9) 321 K 180 [.ref 106, am_mk, am_mk, am_mk] []) 2 [.ref 106, am_mk, .int (nI k), am_mk, am_mk] [] m4 ml := by
                intro v
                induction v with
                | zero =>
                  intro m4 hv h4 h0'
                  apply rg_X10_behindEnds_2
                  rw [h4 107 8 (by omega), en, ni_le (a := n) (by omega) (by omega), ni_mul, nI_add (48) (6 * k), ni_cl (a := 48 + 6 * k) (by omega), h4 107 (48 + 6 * k) (by omega), r1, ni_eq (a := wm pl k) (b := 19) (by omega) (by omega), nI_add (48 + 6 * k) 4, ni_cl (a := 48 + 6 * k + 4) (by omega), h4 107 (48 + 6 * k + 4) (by omega), r6 (by omega), ni_mul, nI_add (48) (6 * pl 5 k), ni_cl (a := 48 + 6 * pl 5 k) (by omega), h4 107 (48 + 6 * pl 5 k) (by omega), hRb1, ni_eq (a := wm pl (pl 5 k)) (by omega) (by omega), ni_cl (a := pl 5 k) (by omega), nI_add, nI_add, h0', ni_le (by omega) (by omega), x0]
                  refine br_f q ⟨by rw [ni_in (by omega)]; omega, br_f q2 ⟨hi4, hib, br_f q3 ⟨hi8, br_t (by omega) ⟨hi8, hi8, on (by omega) _ (fun c j z => ?_)⟩⟩⟩⟩
                  rw [si_f z]; exact h4 c j z
                | succ v ihv =>
                  intro m4 hv h4 h0'
                  apply rg_X10_behindEnds_2
                  rw [h4 107 8 (by omega), en, ni_le (a := n) (by omega) (by omega), ni_mul, nI_add (48) (6 * k), ni_cl (a := 48 + 6 * k) (by omega), h4 107 (48 + 6 * k) (by omega), r1, ni_eq (a := wm pl k) (b := 19) (by omega) (by omega), nI_add (48 + 6 * k) 4, ni_cl (a := 48 + 6 * k + 4) (by omega), h4 107 (48 + 6 * k + 4) (by omega), r6 (by omega), ni_mul, nI_add (48) (6 * pl 5 k), ni_cl (a := 48 + 6 * pl 5 k) (by omega), h4 107 (48 + 6 * pl 5 k) (by omega), hRb1, ni_eq (a := wm pl (pl 5 k)) (by omega) (by omega), ni_cl (a := pl 5 k) (by omega), nI_add, nI_add, h0', ni_le (by omega) (by omega), ni_sub (a := v + 1) (b := 1) (by omega), Nat.add_sub_cancel, e8]
                  refine br_f q ⟨by rw [ni_in (by omega)]; omega, br_f q2 ⟨hi4, hib, br_f q3 ⟨hi8, br_f (by omega) ⟨hi8, hi8, ihv _ (by omega) (fun c j z => ?_) (si_t ⟨rfl, rfl⟩)⟩⟩⟩⟩
                  rw [si_f z]; exact h4 c j z
              rw [e8]
              exact spin (tm (pl 5 k) - 1 - 1) _ (by omega) (fun c j z => by rw [si_f z]) (si_t ⟨rfl, rfl⟩)
  have ini : ∀ i, i ≤ 5 → ∀ mi', frW mi mi' → MA a mi' → mi' 106 31 = nI 0 → mi' 106 30 = nI seed → (∀ j, j < i → mi' 120 j = nI 0) → rn E (d + 9) 321 K 12 [.ref 106, am_mk, .int (nI i), am_mk] [] mi' ml := by
    refine dn_ind 5 (fun i hi ih mi' hF hM e31 e30 h120 => ?_)
    apply rg_X10_lives_12
    rw [ni_le (by omega) (by omega), nI_add, ni_cl (by omega)]
    refine ⟨fun q => ?_, fun q => ⟨by rw [ni_in (by omega)]; omega, ?_⟩⟩
    · have : i = 5 := by omega
      subst this
      refine outer 99999 a (r0L seed) (fun _ => 0) 0 mi' (fun a r tm k mi' h1 h2 h3 h4 h5 h6 h7 h8 h9 h10 h11 h12 => ?_) hM hW h0 h1 ⟨e31, e30, h120 0 (by omega), h120 1 (by omega), h120 2 (by omega), h120 3 (by omega), h120 4 (by omega)⟩ hs (by show (0 : Nat) ≤ 300; omega) (by omega) (fun z e => ?_) (fun _ _ _ q => absurd q (Nat.not_lt_zero _)) hF (by omega) hk
      · apply en_X10_behindEnds
        exact key 99999 a r tm k mi' h1 h2 h3 h4 h5 h6 h7 h8 h9 h10 h11 h12
      · have := ((hN 0 z).2 e).1
        omega
    · refine ih (by omega) _ (fun k j z => by rw [si_f (by omega)]; exact hF k j z) (fun k h1 h2 => by rw [si_f (by omega)]; exact hM k h1 h2) (by rw [si_f (by omega)]; exact e31) (by rw [si_f (by omega)]; exact e30) (fun j hj => ?_)
      by_cases e : j = i
      · rw [si_t ⟨rfl, e⟩]
      · rw [si_f (by omega)]; exact h120 j (by omega)
  apply en_X10_lives
  exact ini 0 (by omega) _ (fun k j z => by rw [si_f (by omega), si_f (by omega)]) (fun k h1 h2 => by rw [si_f (by omega), si_f (by omega)]; exact hM k h1 h2) (si_t ⟨rfl, rfl⟩) (by rw [si_f (by omega), si_t ⟨rfl, rfl⟩]) (fun _ h => absurd h (Nat.not_lt_zero _))
