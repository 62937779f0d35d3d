/-! A whole life, by the class; then by the reference. -/
def r0L (seed : Nat) : Nat → Nat := fun j => if j = 7 then seed else 0
def lifeP (n : Nat) (pl : Nat → Nat → Nat) (a : Nat → Nat) (seed : Nat) : (Nat → Nat) × (Nat → Nat) := runP n pl 100000 a (r0L seed) (fun _ => 0) 0
theorem RKc_fr {pl : Nat → Nat → Nat} {mi mi' : Nat → Nat → Int32} {k : Nat} (h : RKc 21 pl mi k) (hf : ∀ c j, 21 ≤ c ∧ c ≤ 27 → mi' c j = mi c j) : RKc 21 pl mi' k := by
  unfold RKc at *
  rw [hf 22 k (by omega), hf 23 k (by omega), hf 24 k (by omega), hf 25 k (by omega), hf 26 k (by omega), hf 27 k (by omega)]
  exact h
theorem run_ok {n no np : Nat} {pl : Nat → Nat → Nat} (hN : NST n pl) (hP : ∀ k, k < n → PK no np pl k) : ∀ f a r tm k, WB a → a 0 = no → a 1 = np → r 7 < 65536 → r 6 ≤ 1 → WB (runP n pl f a r tm k).1 ∧ (runP n pl f a r tm k).1 0 = no ∧ (runP n pl f a r tm k).1 1 = np ∧ (runP n pl f a r tm k).2 6 ≤ 1 := by
  intro f
  induction f with
  | zero => intro a r tm k h h0 h1 h7 h6; exact ⟨h, h0, h1, h6⟩
  | succ f ih =>
    intro a r tm k h h0 h1 h7 h6
    unfold runP
    split
    · exact ⟨h, h0, h1, h6⟩
    · split
      · split
        · split
          · exact ih _ _ _ _ h h0 h1 h7 h6
          · exact ih _ _ _ _ h h0 h1 h7 h6
        · exact ih _ _ _ _ h h0 h1 h7 h6
      · split
        · exact ⟨h, h0, h1, by show up1 r 6 1 6 ≤ 1; rw [up1_t rfl]; omega⟩
        · next q1 q2 q3 =>
          obtain ⟨g1, g2, g3, g4, g5, g6⟩ := does_ok (r := up1 r 1 (r 1 + 1)) (hP k (by omega)) h h0 h1 (by rw [up1_f (by omega)]; exact h7)
          exact ih _ _ _ _ g1 (by rw [g2, h0]) (by rw [g3, h1]) (by rw [miss_1 _ _ (by omega)]; exact g5) (by rw [miss_1 _ _ (by omega), g6, up1_f (by omega)]; exact h6)
theorem s_run {E : am_E} {d : Nat} {K : am_K} {mi : Nat → Nat → Int32} {ml : Nat → Nat → Int64} {b c : Nat} (hb : bt b) (hc : lf c) {n no np seed : Nat} {pl : Nat → Nat → Nat} {a : Nat → Nat} (hC : CB b a mi) (hW : WB a) (h0 : a 0 = no) (h1 : a 1 = np) (hn60 : n ≤ 60) (hN : NST n pl) (hP : ∀ k, k < n → PK no np pl k) (hR : ∀ k, k < n → RKc 21 pl mi k) (hn : mi 21 2 = nI n) (hs : seed < 65536) (hk : ∀ mi', frV b c mi mi' → CB b (lifeP n pl a seed).1 mi' → LC c (lifeP n pl a seed).2 mi' → K none (S0, mi', ml)) : cq E (d + 7) 43 [.ref c, .ref b, .ref 21, .int (nI seed)] K mi ml := by
  have hne := bl_ne hb hc
  have hpb : ∀ k, 21 ≤ k ∧ k ≤ 27 → ¬ ((b ≤ k ∧ k ≤ b + 8) ∨ k = c ∨ k = c + 1) := fun k hk => by unfold bt at hb; unfold lf at hc; omega
  have key : ∀ f a r tm k mi', f ≤ 100000 → CB b a mi' → WB a → a 0 = no → a 1 = np → LC c r mi' → r 7 < 65536 → r 1 ≤ 300 → k ≤ n → ENC n pl k (fun x => mi' (c + 1) x = nI (tm x) ∧ 1 ≤ tm x ∧ tm x ≤ 99) → frV b c mi mi' → (∀ m2, frV b c mi m2 → CB b (runP n pl f a r tm k).1 m2 → LC c (runP n pl f a r tm k).2 m2 → K none (S0, m2, ml)) → rn E (d + 6) 43 K 46 [.ref c, .ref b, .ref 21, am_mk, .int (nI k), .int (nI (100000 - f))] [] mi' ml := by
    intro f
    induction f with
    | zero =>
      intro a r tm k mi' hf hC hW h0 h1 hL h7 hr1 hkn hE hF hk
      apply rg_X3_run_46 hc hb yr_21
      rw [ni_le (a := 100000) (by omega) (by omega)]
      exact br_t (by omega) (hk _ hF hC hL)
    | succ f ih =>
      intro a r tm k mi' hf hC hW h0 h1 hL h7 hr1 hkn hE hF hk
      have en : mi' 21 2 = nI n := by rw [hF 21 2 (hpb 21 (by omega))]; exact hn
      have l1 := hL.2 1 (by omega) (by omega)
      apply rg_X3_run_46 hc hb yr_21
      rw [ni_le (a := 100000) (by omega) (by omega), en, ni_le (a := n) (by omega) (by omega), l1]
      refine br_f (by omega) ⟨fun q => ?_, fun q => ⟨by rw [ni_in (by omega)]; omega, ?_⟩⟩
      · unfold runP at hk
        rw [if_pos q] at hk
        exact hk _ hF hC hL
      · have hRk := RKc_fr (hR k (by omega)) (fun c' j z => hF c' j (hpb c' z))
        have hPk := hP k (by omega)
        have wb : pl 0 k ≤ 21 := by unfold PK at hPk; omega
        unfold runP at hk
        rw [if_neg q] at hk
        rw [ni_cl (by omega), hRk.1, ni_eq (by omega) (by omega), ni_lt (by omega) (by omega), nI_add]
        refine ⟨fun q2 => ⟨fun q3 => ?_, fun q3 => ?_⟩, fun q2 => ?_⟩
        · rw [if_neg q2, if_neg (by omega)] at hk
          have hL1 := LC_up hL (j := 1) (r 1 + 1) (by omega)
          have hC1 : CB b a (am_si mi' c 1 (nI (r 1 + 1))) := CB_frb hC (fun k j z => by rw [si_f (by omega)])
          have hR1 : RKc 21 pl (am_si mi' c 1 (nI (r 1 + 1))) k := RKc_fr hRk (fun c' j z => by rw [si_f (by unfold lf at hc; omega)])
          have h7' : up1 r 1 (r 1 + 1) 7 < 65536 := by rw [up1_f (by omega)]; exact h7
          obtain ⟨g1, g2, g3, g4, g5, g6⟩ := does_ok (r := up1 r 1 (r 1 + 1)) hPk hW h0 h1 h7'
          apply s_doStep hb hc (n := n) hC1 hW h0 h1 (by omega) hn60 hPk hR1 (by rw [si_f (by unfold lf at hc; omega)]; exact en) q2 hL1 h7'
          intro m1 f1 f2 f3 hC2 hL2
          apply rg_X3_run_120 hc hb yr_21
          rw [nI_add, show 100000 - (f + 1) + 1 = 100000 - f by omega]
          have hF1 : frV b c mi m1 := fun k j z => by rw [f1 k j z, si_f (by omega), hF k j z]
          refine ih _ _ (tmP pl tm k) _ _ (by omega) hC2 g1 (by rw [g2, h0]) (by rw [g3, h1]) hL2 (by rw [miss_1 _ _ (by omega)]; exact g5) (by rw [miss_1 _ _ (by omega), g4, up1_t rfl]; omega) (next_le hN (by omega)) ?_ hF1 hk
          refine enc_does (no := no) (np := np) hN (by omega) q2 hE (fun e => ?_) (fun x hx hp => ?_)
          · have : 1 ≤ pl 4 k ∧ pl 4 k ≤ 99 := by unfold PK at hPk; omega
            unfold tmP
            rw [if_pos e, up1_t rfl]
            exact ⟨f3 e, this⟩
          · rw [f2 x hx, si_f (by omega)]
            unfold tmP
            by_cases e : pl 0 k = 19
            · rw [if_pos e, up1_f (hx e)]; exact hp
            · rw [if_neg e]; exact hp
        · rw [if_neg q2, if_pos (by omega)] at hk
          exact hk _ (fun k j z => by rw [si_f (by omega)]; exact hF k j z) (CB_frb hC (fun k j z => by rw [si_f (by omega)])) (LC_up hL _ (by omega))
        · have e20 : pl 0 k = 20 := by omega
          rw [if_pos e20] at hk
          obtain ⟨z1, z2, z3⟩ := (hN k (by omega)).2 e20
          have hPb := hP (pl 5 k) (by omega)
          have wb2 : pl 0 (pl 5 k) ≤ 21 := by unfold PK at hPb; omega
          have hRb := RKc_fr (hR (pl 5 k) (by omega)) (fun c' j z => hF c' j (hpb c' z))
          apply en_X3_behindEnd hc yr_21
          rw [ni_cl (by omega), hRk.2.2.2.2.2 (by omega)]
          refine ⟨by rw [ni_in (by omega)]; omega, br_f (by rw [ni_lt (by omega) (by omega)]; omega) ?_⟩
          rw [ni_cl (by omega), hRb.1, ni_eq (by omega) (by omega), nI_add, nI_add, si_t ⟨rfl, rfl⟩]
          have hib : vp_in (nI (pl 5 k)) 60 := by rw [ni_in (by omega)]; omega
          refine ⟨hib, fun q4 => ?_, fun q4 => ⟨hib, hib, hib, ?_⟩⟩
          · rw [if_neg q4] at hk
            apply rg_X3_run_81 hc hb yr_21
            rw [nI_add, show 100000 - (f + 1) + 1 = 100000 - f by omega]
            exact ih _ _ tm _ _ (by omega) hC hW h0 h1 hL h7 hr1 (by omega) (enc_end hN (by omega) e20 hE (fun _ _ h => h)) hF hk
          · have q5 : pl 0 (pl 5 k) = 19 := by omega
            rw [if_pos q5] at hk
            obtain ⟨t1, t2, t3⟩ := hE (pl 5 k) (by omega) q5 z1 (by omega)
            rw [t1, ni_sub (by omega), ni_le (by omega) (by omega), ni_le (by omega) (by omega)]
            have hF2 : frV b c mi (am_si mi' (c + 1) (pl 5 k) (nI (tm (pl 5 k) - 1))) := fun k j z => by rw [si_f (by omega)]; exact hF k j z
            have hC2 : CB b a (am_si mi' (c + 1) (pl 5 k) (nI (tm (pl 5 k) - 1))) := CB_frb hC (fun k j z => by rw [si_f (by omega)])
            have hL2 : LC c r (am_si mi' (c + 1) (pl 5 k) (nI (tm (pl 5 k) - 1))) := LC_fr hL (fun j => by rw [si_f (by omega)])
            have hE2 : ∀ x, x ≠ pl 5 k → (mi' (c + 1) x = nI (tm x) ∧ 1 ≤ tm x ∧ tm x ≤ 99) → (am_si mi' (c + 1) (pl 5 k) (nI (tm (pl 5 k) - 1)) (c + 1) x = nI (up1 tm (pl 5 k) (tm (pl 5 k) - 1) x) ∧ 1 ≤ up1 tm (pl 5 k) (tm (pl 5 k) - 1) x ∧ up1 tm (pl 5 k) (tm (pl 5 k) - 1) x ≤ 99) := fun x hx h => by
              rw [si_f (by omega), up1_f hx]; exact h
            have on : ¬ (1 < tm (pl 5 k) ∧ pl 5 k + 1 < k) → rn E (d + 6) 43 K 46 [.ref c, .ref b, .ref 21, am_mk, .int (nI (k + 1)), .int (nI (100000 - f))] [] (am_si mi' (c + 1) (pl 5 k) (nI (tm (pl 5 k) - 1))) ml := fun e => by
              rw [if_neg e] at hk
              exact ih _ _ _ _ _ (by omega) hC2 hW h0 h1 hL2 h7 hr1 (by omega) (enc_end hN (by omega) e20 hE hE2) hF2 hk
            refine ⟨fun q6 => ?_, fun q6 => ⟨fun q7 => ?_, fun q7 => ?_⟩⟩
            · apply rg_X3_run_81 hc hb yr_21
              rw [nI_add, show 100000 - (f + 1) + 1 = 100000 - f by omega]
              exact on (by omega)
            · apply rg_X3_run_81 hc hb yr_21
              rw [nI_add, show 100000 - (f + 1) + 1 = 100000 - f by omega]
              exact on (by omega)
            · apply rg_X3_run_81 hc hb yr_21
              rw [nI_add, show 100000 - (f + 1) + 1 = 100000 - f by omega]
              rw [if_pos (by omega)] at hk
              refine ih _ _ _ _ _ (by omega) hC2 hW h0 h1 hL2 h7 hr1 (by omega) (enc_back hN (by omega) e20 q5 hE ?_ hE2) hF2 hk
              rw [si_t ⟨rfl, rfl⟩, up1_t rfl]
              exact ⟨rfl, by omega, by omega⟩
  apply en_X3_run hc hb yr_21
  refine key 100000 a (r0L seed) (fun _ => 0) 0 _ (Nat.le_refl _) (CB_frb hC (fun k j z => ?_)) hW h0 h1 ⟨?_, fun j j1 j2 => ?_⟩ hs (by show (0 : Nat) ≤ 300; omega) (by omega) (fun _ _ _ q => absurd q (Nat.not_lt_zero _)) (fun k j z => ?_) hk
  · rw [si_f (by omega), si_f (by omega), si_f (by omega), si_f (by omega), si_f (by omega), si_f (by omega), si_f (by omega), si_f (by omega)]
  · rw [si_f (by omega), si_f (by omega), si_f (by omega), si_f (by omega), si_f (by omega), si_f (by omega), si_f (by omega), si_t ⟨rfl, rfl⟩]
  · unfold r0L
    by_cases e7 : j = 7
    · rw [si_t ⟨rfl, e7⟩, if_pos e7]
    · rw [si_f (by omega), if_neg e7]
      by_cases e6 : j = 6
      · rw [si_t ⟨rfl, e6⟩]
      · rw [si_f (by omega)]
        by_cases e5 : j = 5
        · rw [si_t ⟨rfl, e5⟩]
        · rw [si_f (by omega)]
          by_cases e4 : j = 4
          · rw [si_t ⟨rfl, e4⟩]
          · rw [si_f (by omega)]
            by_cases e3 : j = 3
            · rw [si_t ⟨rfl, e3⟩]
            · rw [si_f (by omega)]
              by_cases e2 : j = 2
              · rw [si_t ⟨rfl, e2⟩]
              · rw [si_f (by omega), si_t ⟨rfl, by omega⟩]
  · rw [si_f (by omega), si_f (by omega), si_f (by omega), si_f (by omega), si_f (by omega), si_f (by omega), si_f (by omega), si_f (by omega)]
/-! .. by the reference. -/
def LM (r : Nat → Nat) (mi : Nat → Nat → Int32) : Prop := mi 106 31 = nI (r 1) ∧ mi 106 30 = nI (r 7) ∧ mi 120 0 = nI (r 2) ∧ mi 120 1 = nI (r 3) ∧ mi 120 2 = nI (r 4) ∧ mi 120 3 = nI (r 5) ∧ mi 120 4 = nI (r 6)
theorem LM_fr {r : Nat → Nat} {mi mi' : Nat → Nat → Int32} (h : LM r mi) (hf : ∀ k j, (k = 106 ∧ (j = 30 ∨ j = 31)) ∨ k = 120 → mi' k j = mi k j) : LM r mi' := by
  unfold LM at *
  rw [hf 106 31 (by omega), hf 106 30 (by omega), hf 120 0 (by omega), hf 120 1 (by omega), hf 120 2 (by omega), hf 120 3 (by omega), hf 120 4 (by omega)]
  exact h
/-- what a life changes in the reference, but for its loops -/
def frX (f g : Nat → Nat → Int32) : Prop := ∀ k j, ¬ (k = 115 ∨ k = 120 ∨ (k = 106 ∧ (j = 25 ∨ j = 30 ∨ j = 31)) ∨ (k = 107 ∧ j < 48 ∧ j ≠ 8)) → g k j = f k j
def frW (f g : Nat → Nat → Int32) : Prop := ∀ k j, ¬ (k = 115 ∨ k = 119 ∨ k = 120 ∨ (k = 106 ∧ (j = 25 ∨ j = 30 ∨ j = 31)) ∨ (k = 107 ∧ j < 48 ∧ j ≠ 8)) → g k j = f k j
theorem frX_W {f g : Nat → Nat → Int32} (h : frX f g) : frW f g := fun k j z => h k j (by omega)
theorem frW_tr {f g h : Nat → Nat → Int32} (h1 : frW f g) (h2 : frW g h) : frW f h := fun k j z => by rw [h2 k j z, h1 k j z]
theorem nsum_add (f g : Nat → Nat) : ∀ n, nsum (fun p => f p + g p) n = nsum f n + nsum g n
  | 0 => rfl
  | n + 1 => by
    show nsum (fun p => f p + g p) n + (f n + g n) = nsum f n + f n + (nsum g n + g n)
    rw [nsum_add f g n]; omega
theorem sat_call {a : Nat → Nat} (hW : WA a) : nsum (fun p => callA a (16 + 4 * p + 1)) (callA a 1) = nsum (fun p => a (16 + 4 * p + 1)) (a 1) + pc (aboA (callA a)) := by
  have e1 : callA a 1 = a 1 := callA_lo a (by omega) (by omega) (by omega)
  have w1 := hW.1.2.1
  rw [e1, pc_cnt (n := a 1) (by rw [← e1]; exact abo_lt2 (callA a)) (by omega), ← nsum_add]
  apply nsum_cong
  intro p hp
  rw [callA_p a 1 (by omega), callQ_p a 1 (by omega), tb_abo, e1, callA_7]
  cases hb : (outN a).testBit p
  · rw [if_pos ⟨hp, rfl⟩]; simp [hp, b01]
  · rw [if_neg (by simp)]; simp [b01]
theorem s_callsBy {E : am_E} {d : Nat} {K : am_K} {mi : Nat → Nat → Int32} {ml : Nat → Nat → Int64} {a r : Nat → Nat} (hM : MA a mi) (hW : WB a) (hL : LM r mi) (hk : ∀ mi', frX mi mi' → MA (clP a r).1 mi' → LM (clP a r).2.1 mi' → K (some (.int (nI (b01 (clP a r).2.2)))) (S0, mi', ml)) : cq E (d + 8) 317 [.ref 106] K mi ml := by
  have a5 := hW.2.1
  have w1 := hW.1.1.2.1
  apply en_X10_callsBy
  rw [hM 5 (by omega) (by omega), ni_eq (by omega) (by omega)]
  refine ⟨fun q => ?_, fun q => ?_⟩
  · have e : clP a r = (callA a, clR a r, true) := by unfold clP; rw [if_pos (by omega)]
    rw [e] at hk
    have hW1 := WB_call hW (show a 5 < 9999 by omega)
    apply s_allSat hM hW.1
    apply rg_X10_callsBy_18
    rw [hL.2.2.2.2.1]
    apply s_calling hM hW.1
    intro m1 hD hM1
    apply rg_X10_callsBy_30
    have o1 := Nat.lt_of_lt_of_le (out_lt a (aboA a) (a 6)) (WA_p2 hW.1).2
    apply s_bits (by omega)
    apply rg_X10_callsBy_33
    have g : ∀ j, m1 120 j = mi 120 j := fun j => hD 120 j (by omega)
    rw [ni_cl (by omega), nI_add, si_f (f := m1) (a := 120) (i := 1) (by omega), g 1, hL.2.2.2.1, nI_add, si_f (by omega), si_f (by omega), g 3, hL.2.2.2.2.2.1]
    refine ⟨by rw [ni_in (by omega)]; omega, ?_⟩
    apply s_allSat (a := callA a) (fun k h1 h2 => by rw [si_f (by omega), si_f (by omega)]; exact hM1 k h1 h2) hW1.1
    apply rg_X10_callsBy_56
    rw [sat_call hW.1, ni_sub (by omega), Nat.add_sub_cancel_left, nI_add, ni_cl (by omega)]
    refine ⟨by rw [ni_in (by omega)]; omega, hk _ (fun k j z => ?_) (fun k h1 h2 => ?_) ⟨?_, ?_, ?_, ?_, ?_, ?_, ?_⟩⟩
    · rw [si_f (by omega), si_f (by omega), si_f (by omega), hD k j (by omega)]
    · rw [si_f (by omega), si_f (by omega), si_f (by omega)]; exact hM1 k h1 h2
    · rw [si_f (by omega), si_f (by omega), si_f (by omega), hD 106 31 (by omega)]; exact hL.1
    · rw [si_f (by omega), si_f (by omega), si_f (by omega), hD 106 30 (by omega)]; exact hL.2.1
    · rw [si_f (by omega), si_f (by omega), si_f (by omega), g]; exact hL.2.2.1
    · rw [si_f (by omega), si_t ⟨rfl, rfl⟩]; rfl
    · rw [si_f (by omega), si_f (by omega), si_t ⟨rfl, rfl⟩]; rfl
    · rw [si_t ⟨rfl, rfl⟩]; rfl
    · rw [si_f (by omega), si_f (by omega), si_f (by omega), g]; exact hL.2.2.2.2.2.2
  · have e : clP a r = (a, r, false) := by unfold clP; rw [if_neg (by omega)]
    rw [e] at hk
    exact hk _ (fun _ _ _ => rfl) hM hL
theorem s_drawM {E : am_E} {d : Nat} {K : am_K} {mi : Nat → Nat → Int32} {ml : Nat → Nat → Int64} {x : Nat} (h : mi 106 30 = nI x) (hx : x < 65536) (hk : K (some (.int (nI (drN x / 8 % 16)))) (S0, am_si mi 106 30 (nI (drN x)), ml)) : cq E (d + 1) 316 [.ref 106, .int (nI 16)] K mi ml := by
  have e1 : nI x * nI 3167 + nI 11383 - (nI x * nI 3167 + nI 11383) / nI 65536 * nI 65536 = nI (drN x) := by
    rw [ni_mul, nI_add, pk_rem (by omega) (by omega) (by omega)]; rfl
  have hd : drN x < 65536 := Nat.mod_lt _ (by omega)
  apply en_X10_draw
  rw [h, e1, si_t ⟨rfl, rfl⟩, pk_div (by omega) (by omega) (by omega), pk_rem (by omega) (by omega) (by omega)]
  exact ⟨by decide, hk⟩
theorem RKm_fr {pl : Nat → Nat → Nat} {mi mi' : Nat → Nat → Int32} {k : Nat} (h : RKm 0 pl mi k) (hf : ∀ j, 48 ≤ j → mi' 107 j = mi 107 j) : RKm 0 pl mi' k := by
  unfold RKm at *
  rw [hf _ (by omega), hf _ (by omega), hf _ (by omega), hf _ (by omega), hf _ (by omega)]
  exact h
theorem MA_set {a : Nat → Nat} {mi : Nat → Nat → Int32} {k v : Nat} (h : MA a mi) : MA (up1 a k v) (am_si mi 107 k (nI v)) := fun j hj h8 => by
  by_cases e : j = k
  · rw [si_t ⟨rfl, e⟩, up1_t e]
  · rw [si_f (by omega), up1_f e]; exact h j hj h8
theorem s_does {E : am_E} {d : Nat} {K : am_K} {mi : Nat → Nat → Int32} {ml : Nat → Nat → Int64} {no np k : Nat} {pl : Nat → Nat → Nat} {a r : Nat → Nat} (hM : MA a mi) (hW : WB a) (h0 : a 0 = no) (h1 : a 1 = np) (hk60 : k < 60) (hP : PK no np pl k) (hR : RKm 0 pl mi k) (h20 : ¬ pl 0 k = 20) (hL : LM r mi) (h7 : r 7 < 65536) (hk : ∀ mi', frX mi mi' → MA (doesP pl a r k).1 mi' → LM (doesP pl a r k).2.1 mi' → K (some (.int (nI (b01 (doesP pl a r k).2.2)))) (S0, mi', ml)) : cq E (d + 9) 318 [.ref 106, .int (nI (48 + 6 * k))] K mi ml := by
  have x0 := hW.1.1.1
  have x1 := hW.1.1.2.1
  have x4 := hW.1.1.2.2.2.2.2.1
  have x6 := hW.1.1.2.2.2.2.2.2.2.1
  have x7 := hW.1.1.2.2.2.2.2.2.2.2
  have w := WA_p2 hW.1
  have m6 : mi 107 6 = nI (a 6) := hM 6 (by omega) (by omega)
  have m7 : mi 107 7 = nI (a 7) := hM 7 (by omega) (by omega)
  have hR' := hR
  unfold RKm at hR'
  simp only [Nat.zero_add] at hR'
  obtain ⟨r1, r2, r3, r4, r5, r6⟩ := hR'
  have bo : ∀ b : Bool, nI (b01 b) = nI 0 ∨ nI (b01 b) = nI 1 := fun b => by cases b; exact Or.inl rfl; exact Or.inr rfl
  apply en_X10_does
  rw [nI_add, ni_cl (by omega), ni_cl (by omega), r1]
  have wb : 11 ≤ pl 0 k ∧ pl 0 k ≤ 21 ∧ pl 0 k ≠ 18 := by unfold PK at hP; omega
  have hwm : wm pl k < 2000 ∧ (pl 0 k ≤ 16 → wm pl k = pl 0 k) ∧ (¬ pl 0 k ≤ 16 → ¬ wm pl k ≤ 16) := by
    unfold wm
    by_cases e17 : pl 0 k = 17
    · rw [if_pos e17]
      split
      · exact ⟨by omega, fun q => by omega, fun q => by omega⟩
      · split <;> exact ⟨by omega, fun q => by omega, fun q => by omega⟩
    · rw [if_neg e17]
      by_cases e19 : pl 0 k = 19
      · rw [if_pos e19]; exact ⟨by omega, fun q => by omega, fun q => by omega⟩
      · rw [if_neg e19]
        by_cases e20 : pl 0 k = 20
        · exact absurd e20 h20
        · rw [if_neg e20]
          by_cases e21 : pl 0 k = 21
          · rw [if_pos e21]; exact ⟨by omega, fun q => by omega, fun q => by omega⟩
          · rw [if_neg e21]; exact ⟨by omega, fun q => rfl, fun q => by omega⟩
  obtain ⟨w1, w2, w3⟩ := hwm
  simp only [ni_eq (a := wm pl k) (show wm pl k < 2147483648 by omega) (show 11 < 2147483648 by omega), ni_eq (a := wm pl k) (show wm pl k < 2147483648 by omega) (show 12 < 2147483648 by omega), ni_eq (a := wm pl k) (show wm pl k < 2147483648 by omega) (show 13 < 2147483648 by omega), ni_eq (a := wm pl k) (show wm pl k < 2147483648 by omega) (show 14 < 2147483648 by omega), ni_eq (a := wm pl k) (show wm pl k < 2147483648 by omega) (show 15 < 2147483648 by omega), ni_eq (a := wm pl k) (show wm pl k < 2147483648 by omega) (show 16 < 2147483648 by omega)]
  refine ⟨by rw [ni_in (by omega)]; omega, by rw [ni_in (by omega)]; omega, fun e => ?_, fun e => ?_, fun e => ?_, fun e => ?_, fun e => ?_, fun e => ?_, fun e11 e12 e13 e14 e15 e16 => ?_⟩
  · have e' : pl 0 k = 11 := by omega
    have ed : doesP pl a r k = clP a r := by unfold doesP; rw [if_pos e']
    rw [ed] at hk
    apply s_callsBy hM hW hL
    intro m1 f1 hM1 hL1
    apply rg_X10_does_56
    exact ⟨bo _, hk _ f1 hM1 hL1⟩
  · have e' : pl 0 k = 12 := by omega
    have ht : pl 3 k < a 0 := by unfold PK at hP; omega
    have ed : doesP pl a r k = if (a 6).testBit (pl 3 k) then (a, r, false) else (up1 a 6 (a 6 ^^^ 1 <<< pl 3 k), r, true) := by
      unfold doesP; rw [if_neg (by omega), if_neg (by omega), if_pos e']
    rw [ed] at hk
    rw [r2 (by omega)]
    apply en_X10_shows
    rw [m6, ni_bit (by omega) (by omega), ni_b1, ni_shl (by omega), ni_xor]
    refine ⟨fun q => ?_, fun q => ?_⟩
    · rw [if_neg q] at hk
      apply rg_X10_does_63
      exact ⟨Or.inr rfl, hk _ (fun k j z => by rw [si_f (by omega)]) (MA_set hM) (LM_fr hL (fun k j z => by rw [si_f (by omega)]))⟩
    · rw [if_pos (Classical.byContradiction q)] at hk
      apply rg_X10_does_63
      exact ⟨Or.inl rfl, hk _ (fun _ _ _ => rfl) hM hL⟩
  · have e' : pl 0 k = 13 := by omega
    have ht : pl 3 k < a 0 := by unfold PK at hP; omega
    have ed : doesP pl a r k = if (a 6).testBit (pl 3 k) then (up1 a 6 (a 6 ^^^ 1 <<< pl 3 k), r, true) else (a, r, false) := by
      unfold doesP; rw [if_neg (by omega), if_neg (by omega), if_neg (by omega), if_pos e']
    rw [ed] at hk
    rw [r2 (by omega)]
    apply en_X10_shows
    rw [m6, ni_bit (by omega) (by omega), ni_b0, ni_shl (by omega), ni_xor]
    refine ⟨fun q => ?_, fun q => ?_⟩
    · rw [if_pos (by simpa using q)] at hk
      apply rg_X10_does_70
      exact ⟨Or.inr rfl, hk _ (fun k j z => by rw [si_f (by omega)]) (MA_set hM) (LM_fr hL (fun k j z => by rw [si_f (by omega)]))⟩
    · rw [if_neg (by rw [Classical.byContradiction q]; decide)] at hk
      apply rg_X10_does_70
      exact ⟨Or.inl rfl, hk _ (fun _ _ _ => rfl) hM hL⟩
  · have e' : pl 0 k = 14 := by omega
    have ht : pl 3 k < a 1 := by unfold PK at hP; omega
    have ed : doesP pl a r k = if (a 7).testBit (pl 3 k) then (up1 a 7 (ndif (a 7) (1 <<< pl 3 k)), r, true) else (a, r, false) := by
      unfold doesP; rw [if_neg (by omega), if_neg (by omega), if_neg (by omega), if_neg (by omega), if_pos e']
    rw [ed] at hk
    rw [r2 (by omega)]
    apply en_X10_boards
    rw [m7, ni_bit (by omega) (by omega), ni_b1, ni_shl (by omega), ni_dif]
    refine ⟨fun q => ?_, fun q => ?_⟩
    · rw [if_neg q] at hk
      apply rg_X10_does_76
      rw [dif_no (by simpa using q)]
      refine ⟨Or.inl rfl, hk _ (fun k j z => by rw [si_f (by omega)]) (fun j h1 h2 => ?_) (LM_fr hL (fun k j z => by rw [si_f (by omega)]))⟩
      by_cases e7 : j = 7
      · rw [si_t ⟨rfl, e7⟩, e7]
      · rw [si_f (by omega)]; exact hM j h1 h2
    · rw [if_pos (Classical.byContradiction q)] at hk
      apply rg_X10_does_76
      exact ⟨Or.inr rfl, hk _ (fun k j z => by rw [si_f (by omega)]) (MA_set hM) (LM_fr hL (fun k j z => by rw [si_f (by omega)]))⟩
  · have e' : pl 0 k = 15 := by omega
    have ht : pl 3 k < a 1 ∧ pl 4 k ≤ 9 := by unfold PK at hP; omega
    have hh := (hW.1.2.2 (pl 3 k) (by omega)).1
    have ed : doesP pl a r k = (up1 a (16 + 4 * pl 3 k) (pl 4 k), r, decide (¬ a (16 + 4 * pl 3 k) = pl 4 k)) := by
      unfold doesP; rw [if_neg (by omega), if_neg (by omega), if_neg (by omega), if_neg (by omega), if_neg (by omega), if_pos e']
    rw [ed] at hk
    rw [r2 (by omega), nI_add, ni_cl (by omega), r4 (by omega)]
    refine ⟨by rw [ni_in (by omega)]; omega, ?_⟩
    apply en_X10_sways
    have hmh : mi 107 (16 + 4 * pl 3 k + 0) = nI (a (16 + 4 * pl 3 k)) := hM (16 + 4 * pl 3 k) (by omega) (by omega)
    rw [ni_mul, nI_add, nI_add, ni_cl (by omega), ni_cl (by omega), hmh, ni_eq (a := a (16 + 4 * pl 3 k)) (by omega) (by omega)]
    refine ⟨by rw [ni_in (by omega)]; omega, fun q => ⟨by rw [ni_in (by omega)]; omega, ?_⟩, fun q => ⟨by rw [ni_in (by omega)]; omega, ?_⟩⟩
    · rw [decide_eq_false (fun z => z q)] at hk
      apply rg_X10_does_90
      exact ⟨Or.inl rfl, hk _ (fun k j z => by rw [si_f (by omega)]) (MA_set hM) (LM_fr hL (fun k j z => by rw [si_f (by omega)]))⟩
    · rw [decide_eq_true q] at hk
      apply rg_X10_does_90
      exact ⟨Or.inr rfl, hk _ (fun k j z => by rw [si_f (by omega)]) (MA_set hM) (LM_fr hL (fun k j z => by rw [si_f (by omega)]))⟩
  · have e' : pl 0 k = 16 := by omega
    have ed : doesP pl a r k = if tideB a (drN (r 7)) then clP a (up1 r 7 (drN (r 7))) else (a, up1 r 7 (drN (r 7)), false) := by
      unfold doesP; rw [if_neg (by omega), if_pos e']
    rw [ed] at hk
    apply s_drawM hL.2.1 h7
    apply rg_X10_does_97
    have hM1 : MA a (am_si mi 106 30 (nI (drN (r 7)))) := fun k h1 h2 => by rw [si_f (by omega)]; exact hM k h1 h2
    have hL1 : LM (up1 r 7 (drN (r 7))) (am_si mi 106 30 (nI (drN (r 7)))) := by
      obtain ⟨q1, q2, q3, q4, q5, q6, q7⟩ := hL
      refine ⟨?_, ?_, ?_, ?_, ?_, ?_, ?_⟩
      · rw [si_f (by omega)]; exact q1
      · rw [si_t ⟨rfl, rfl⟩]; rfl
      · rw [si_f (by omega)]; exact q3
      · rw [si_f (by omega)]; exact q4
      · rw [si_f (by omega)]; exact q5
      · rw [si_f (by omega)]; exact q6
      · rw [si_f (by omega)]; exact q7
    rw [hM1 4 (by omega) (by omega), ni_le (by omega) (by omega)]
    unfold tideB at hk
    refine ⟨fun q => ?_, fun q => ?_⟩
    · rw [decide_eq_false (by omega), if_neg (by decide)] at hk
      exact hk _ (fun k j z => by rw [si_f (by omega)]) hM1 hL1
    · rw [decide_eq_true (by omega), if_pos rfl] at hk
      apply s_callsBy hM1 hW hL1
      intro m1 f1 hM2 hL2
      apply rg_X10_does_110
      rw [ni_b0]
      have fin := hk m1 (fun k j z => by rw [f1 k j z, si_f (by omega)]) hM2 hL2
      refine ⟨fun q2 => ?_, fun q2 => ?_⟩
      · rw [q2] at fin; exact fin
      · have : (clP a (up1 r 7 (drN (r 7)))).2.2 = true := by simpa using q2
        rw [this] at fin; exact fin
  · have ed : doesP pl a r k = (a, r, true) := by
      unfold doesP; rw [if_neg (by omega), if_neg (by omega), if_neg (by omega), if_neg (by omega), if_neg (by omega), if_neg (by omega)]
    rw [ed] at hk
    exact hk _ (fun _ _ _ => rfl) hM hL
