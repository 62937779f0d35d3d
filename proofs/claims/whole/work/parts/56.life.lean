/-! Years lived: the plan as numbers, the moves, what encloses what. -/
def lvI (x : Int32) : Nat := x.toInt.toNat
theorem lvI_n {n : Nat} (h : n < 2147483648) : lvI (nI n) = n := by
  unfold lvI; rw [nI_toInt h]; rfl
/-- an entry: word, test, sign, thing, number, partner are pl 0 .. pl 5 -/
def PK (no np : Nat) (pl : Nat → Nat → Nat) (k : Nat) : Prop := (pl 0 k = 11 ∨ pl 0 k = 16) ∨ pl 0 k = 21 ∨ ((pl 0 k = 12 ∨ pl 0 k = 13) ∧ pl 3 k < no) ∨ (pl 0 k = 14 ∧ pl 3 k < np) ∨ (pl 0 k = 15 ∧ pl 3 k < np ∧ pl 4 k ≤ 9) ∨ (pl 0 k = 19 ∧ 1 ≤ pl 4 k ∧ pl 4 k ≤ 99) ∨ pl 0 k = 20 ∨ (pl 0 k = 17 ∧ ((pl 1 k = 8 ∧ pl 3 k < np) ∨ (pl 1 k = 18 ∧ pl 3 k < no) ∨ (pl 1 k = 7 ∧ pl 3 k < np ∧ (pl 2 k = 60 ∨ pl 2 k = 61 ∨ pl 2 k = 62) ∧ pl 4 k ≤ 9)))
def RKc (y : Nat) (pl : Nat → Nat → Nat) (mi : Nat → Nat → Int32) (k : Nat) : Prop := mi (y + 1) k = nI (pl 0 k) ∧ ((12 ≤ pl 0 k ∧ pl 0 k ≤ 15 ∨ pl 0 k = 17) → mi (y + 4) k = nI (pl 3 k)) ∧ ((pl 0 k = 15 ∨ pl 0 k = 19 ∨ (pl 0 k = 17 ∧ pl 1 k = 7)) → mi (y + 5) k = nI (pl 4 k)) ∧ (pl 0 k = 17 → mi (y + 2) k = nI (pl 1 k)) ∧ ((pl 0 k = 17 ∧ pl 1 k = 7) → mi (y + 3) k = nI (pl 2 k)) ∧ ((pl 0 k = 17 ∨ pl 0 k = 19 ∨ pl 0 k = 20) → mi (y + 6) k = nI (pl 5 k))
/-- the reference's word -/
def wm (pl : Nat → Nat → Nat) (k : Nat) : Nat := if pl 0 k = 17 then (if pl 1 k = 8 then 1709 else if pl 1 k = 18 then 1721 else 1708) else if pl 0 k = 19 then 18 else if pl 0 k = 20 then 19 else if pl 0 k = 21 then 20 else pl 0 k
def RKm (off : Nat) (pl : Nat → Nat → Nat) (mi : Nat → Nat → Int32) (k : Nat) : Prop := mi 107 (off + (48 + 6 * k)) = nI (wm pl k) ∧ ((12 ≤ pl 0 k ∧ pl 0 k ≤ 15 ∨ pl 0 k = 17) → mi 107 (off + (48 + 6 * k + 1)) = nI (pl 3 k)) ∧ (pl 0 k = 19 → mi 107 (off + (48 + 6 * k + 1)) = nI (pl 4 k)) ∧ ((pl 0 k = 15 ∨ (pl 0 k = 17 ∧ pl 1 k = 7)) → mi 107 (off + (48 + 6 * k + 2)) = nI (pl 4 k)) ∧ ((pl 0 k = 17 ∧ pl 1 k = 7) → mi 107 (off + (48 + 6 * k + 5)) = nI (pl 2 k)) ∧ ((pl 0 k = 17 ∨ pl 0 k = 19 ∨ pl 0 k = 20) → mi 107 (off + (48 + 6 * k + 4)) = nI (pl 5 k))
def plF (y : Nat) (w pt : Nat → Nat) (mi : Nat → Nat → Int32) (i : Nat) (k : Nat) : Nat := if i = 0 then w k else if i = 5 then pt k else if i = 1 then lvI (mi (y + 2) k) else if i = 2 then lvI (mi (y + 3) k) else if i = 3 then lvI (mi (y + 4) k) else lvI (mi (y + 5) k)
theorem ROW_pl {y off no np : Nat} {w pt : Nat → Nat} {mi : Nat → Nat → Int32} {k : Nat} (h0 : no ≤ 6) (h1 : np ≤ 8) (h : ROW y off no np w pt mi k) : PK no np (plF y w pt mi) k ∧ RKc y (plF y w pt mi) mi k ∧ RKm off (plF y w pt mi) mi k := by
  have e0 : plF y w pt mi 0 k = w k := rfl
  have e5 : plF y w pt mi 5 k = pt k := rfl
  have e1 : plF y w pt mi 1 k = lvI (mi (y + 2) k) := rfl
  have e2 : plF y w pt mi 2 k = lvI (mi (y + 3) k) := rfl
  have e3 : plF y w pt mi 3 k = lvI (mi (y + 4) k) := rfl
  have e4 : plF y w pt mi 4 k = lvI (mi (y + 5) k) := rfl
  generalize plF y w pt mi = pl at *
  obtain ⟨g, r⟩ := h
  unfold PK RKc RKm wm
  rw [e0, e1, e2, e3, e4, e5]
  rcases r with ⟨r1, r2⟩ | ⟨r1, r2⟩ | ⟨r1, r2, t, r3, r4, r5⟩ | ⟨r1, r2, t, r3, r4, r5⟩ | ⟨r1, r2, t, v, r3, r4, r5, r6, r7, r8⟩ | ⟨r1, r2, r3, r4, v, r5, r6, r7, r8⟩ | ⟨r1, r2, r3, r4⟩ | ⟨r1, r2, r3, t, r4, r5, r6⟩
  · refine ⟨Or.inl r1, ⟨g, fun q => by omega, fun q => by omega, fun q => by omega, fun q => by omega, fun q => by omega⟩, ?_, fun q => by omega, fun q => by omega, fun q => by omega, fun q => by omega, fun q => by omega⟩
    rw [if_neg (by omega), if_neg (by omega), if_neg (by omega), if_neg (by omega)]; exact r2
  · refine ⟨Or.inr (Or.inl r1), ⟨g, fun q => by omega, fun q => by omega, fun q => by omega, fun q => by omega, fun q => by omega⟩, ?_, fun q => by omega, fun q => by omega, fun q => by omega, fun q => by omega, fun q => by omega⟩
    rw [if_neg (by omega), if_neg (by omega), if_neg (by omega), if_pos (by omega)]; exact r2
  · have ht : lvI (mi (y + 4) k) = t := by rw [r4, lvI_n (by omega)]
    rw [ht]
    refine ⟨Or.inr (Or.inr (Or.inl ⟨r1, r3⟩)), ⟨g, fun q => r4, fun q => by omega, fun q => by omega, fun q => by omega, fun q => by omega⟩, ?_, fun q => r5, fun q => by omega, fun q => by omega, fun q => by omega, fun q => by omega⟩
    rw [if_neg (by omega), if_neg (by omega), if_neg (by omega), if_neg (by omega)]; exact r2
  · have ht : lvI (mi (y + 4) k) = t := by rw [r4, lvI_n (by omega)]
    rw [ht]
    refine ⟨Or.inr (Or.inr (Or.inr (Or.inl ⟨r1, r3⟩))), ⟨g, fun q => r4, fun q => by omega, fun q => by omega, fun q => by omega, fun q => by omega⟩, ?_, fun q => r5, fun q => by omega, fun q => by omega, fun q => by omega, fun q => by omega⟩
    rw [if_neg (by omega), if_neg (by omega), if_neg (by omega), if_neg (by omega), r1]; exact r2
  · have ht : lvI (mi (y + 4) k) = t := by rw [r5, lvI_n (by omega)]
    have hv : lvI (mi (y + 5) k) = v := by rw [r7, lvI_n (by omega)]
    rw [ht, hv]
    refine ⟨Or.inr (Or.inr (Or.inr (Or.inr (Or.inl ⟨r1, r3, r4⟩)))), ⟨g, fun q => r5, fun q => r7, fun q => by omega, fun q => by omega, fun q => by omega⟩, ?_, fun q => r6, fun q => by omega, fun q => r8, fun q => by omega, fun q => by omega⟩
    rw [if_neg (by omega), if_neg (by omega), if_neg (by omega), if_neg (by omega), r1]; exact r2
  · have hv : lvI (mi (y + 5) k) = v := by rw [r7, lvI_n (by omega)]
    rw [hv]
    refine ⟨Or.inr (Or.inr (Or.inr (Or.inr (Or.inr (Or.inl ⟨r1, r5, r6⟩))))), ⟨g, fun q => by omega, fun q => r7, fun q => by omega, fun q => by omega, fun q => r3⟩, ?_, fun q => by omega, fun q => r8, fun q => by omega, fun q => by omega, fun q => r4⟩
    rw [if_neg (by omega), if_pos (by omega)]; exact r2
  · refine ⟨Or.inr (Or.inr (Or.inr (Or.inr (Or.inr (Or.inr (Or.inl r1)))))), ⟨g, fun q => by omega, fun q => by omega, fun q => by omega, fun q => by omega, fun q => r3⟩, ?_, fun q => by omega, fun q => by omega, fun q => by omega, fun q => by omega, fun q => r4⟩
    rw [if_neg (by omega), if_neg (by omega), if_pos (by omega)]; exact r2
  · rcases r6 with ⟨q1, q2, q3⟩ | ⟨q1, q2, q3⟩ | ⟨q1, q2, q3, s, v, q4, q5, q6, q7, q8, q9⟩
    · have ht : lvI (mi (y + 4) k) = t := by rw [r4, lvI_n (by omega)]
      have hte : lvI (mi (y + 2) k) = 8 := by rw [q2, lvI_n (by omega)]
      rw [ht, hte]
      refine ⟨Or.inr (Or.inr (Or.inr (Or.inr (Or.inr (Or.inr (Or.inr ⟨r1, Or.inl ⟨rfl, q1⟩⟩)))))), ⟨g, fun q => r4, fun q => by omega, fun q => q2, fun q => by omega, fun q => r2⟩, ?_, fun q => r5, fun q => by omega, fun q => by omega, fun q => by omega, fun q => r3⟩
      rw [if_pos r1, if_pos rfl]; exact q3
    · have ht : lvI (mi (y + 4) k) = t := by rw [r4, lvI_n (by omega)]
      have hte : lvI (mi (y + 2) k) = 18 := by rw [q2, lvI_n (by omega)]
      rw [ht, hte]
      refine ⟨Or.inr (Or.inr (Or.inr (Or.inr (Or.inr (Or.inr (Or.inr ⟨r1, Or.inr (Or.inl ⟨rfl, q1⟩)⟩)))))), ⟨g, fun q => r4, fun q => by omega, fun q => q2, fun q => by omega, fun q => r2⟩, ?_, fun q => r5, fun q => by omega, fun q => by omega, fun q => by omega, fun q => r3⟩
      rw [if_pos r1, if_neg (by omega), if_pos rfl]; exact q3
    · have ht : lvI (mi (y + 4) k) = t := by rw [r4, lvI_n (by omega)]
      have hte : lvI (mi (y + 2) k) = 7 := by rw [q2, lvI_n (by omega)]
      have hsg : lvI (mi (y + 3) k) = s := by rw [q6, lvI_n (by omega)]
      have hv : lvI (mi (y + 5) k) = v := by rw [q8, lvI_n (by omega)]
      rw [ht, hte, hsg, hv]
      refine ⟨Or.inr (Or.inr (Or.inr (Or.inr (Or.inr (Or.inr (Or.inr ⟨r1, Or.inr (Or.inr ⟨rfl, q1, q4, q5⟩)⟩)))))), ⟨g, fun q => r4, fun q => q8, fun q => q2, fun q => q6, fun q => r2⟩, ?_, fun q => r5, fun q => by omega, fun q => q9, fun q => q7, fun q => r3⟩
      rw [if_pos r1, if_neg (by omega), if_neg (by omega)]; exact q3
def NST (n : Nat) (pl : Nat → Nat → Nat) : Prop := NEST n (pl 0) (pl 5)
theorem YR_pl {y off no np : Nat} {mi : Nat → Nat → Int32} (h0 : no ≤ 6) (h1 : np ≤ 8) (h : YR y off no np mi) (ht : ¬ mi y 0 = nI 0) : ∃ n pl, n ≤ 60 ∧ mi y 2 = nI n ∧ mi 107 (off + 8) = nI n ∧ NST n pl ∧ (∀ k, k < n → PK no np pl k) ∧ (∀ k, k < n → RKc y pl mi k) ∧ (∀ k, k < n → RKm off pl mi k) := by
  rcases h with ⟨g, -⟩ | ⟨-, n, w, pt, g1, g2, g3, g4, g5⟩
  · exact absurd g ht
  · exact ⟨n, plF y w pt mi, g1, g2, g3, g4, fun k hk => (ROW_pl h0 h1 (g5 k hk)).1, fun k hk => (ROW_pl h0 h1 (g5 k hk)).2.1, fun k hk => (ROW_pl h0 h1 (g5 k hk)).2.2⟩
/-! Moves. -/
def drN (c : Nat) : Nat := (c * 3167 + 11383) % 65536
def tideB (a : Nat → Nat) (c : Nat) : Bool := decide (c / 8 % 16 < a 4)
def clR (a r : Nat → Nat) : Nat → Nat := fun j => if j = 3 then r 3 + 1 else if j = 4 then r 4 + pc (outA a (aboA a) (a 6)) else if j = 5 then r 5 + pc (aboA (callA a)) else r j
def clP (a r : Nat → Nat) : (Nat → Nat) × (Nat → Nat) × Bool := if a 5 < 9999 then (callA a, clR a r, true) else (a, r, false)
def doesP (pl : Nat → Nat → Nat) (a r : Nat → Nat) (k : Nat) : (Nat → Nat) × (Nat → Nat) × Bool :=
  if pl 0 k = 11 then clP a r
  else if pl 0 k = 16 then (if tideB a (drN (r 7)) then clP a (up1 r 7 (drN (r 7))) else (a, up1 r 7 (drN (r 7)), false))
  else if pl 0 k = 12 then (if (a 6).testBit (pl 3 k) then (a, r, false) else (up1 a 6 (a 6 ^^^ 1 <<< pl 3 k), r, true))
  else if pl 0 k = 13 then (if (a 6).testBit (pl 3 k) then (up1 a 6 (a 6 ^^^ 1 <<< pl 3 k), r, true) else (a, r, false))
  else if pl 0 k = 14 then (if (a 7).testBit (pl 3 k) then (up1 a 7 (ndif (a 7) (1 <<< pl 3 k)), r, true) else (a, r, false))
  else if pl 0 k = 15 then (up1 a (16 + 4 * pl 3 k) (pl 4 k), r, decide (¬ a (16 + 4 * pl 3 k) = pl 4 k))
  else (a, r, true)
def testP (pl : Nat → Nat → Nat) (a : Nat → Nat) (k : Nat) : Bool := if pl 1 k = 8 then (a 7).testBit (pl 3 k) else if pl 1 k = 18 then (a 6).testBit (pl 3 k) else if pl 2 k = 60 then decide (a (16 + 4 * pl 3 k) < pl 4 k) else if pl 2 k = 62 then decide (pl 4 k < a (16 + 4 * pl 3 k)) else decide (a (16 + 4 * pl 3 k) = pl 4 k)
def missR (b : Bool) (r : Nat → Nat) : Nat → Nat := if b then r else up1 r 2 (r 2 + 1)
def nextP (n : Nat) (pl : Nat → Nat → Nat) (a : Nat → Nat) (k : Nat) : Nat := if pl 0 k = 17 then (if testP pl a k then k + 1 else pl 5 k + 1) else if pl 0 k = 21 then n else k + 1
def tmP (pl : Nat → Nat → Nat) (tm : Nat → Nat) (k : Nat) : Nat → Nat := if pl 0 k = 19 then up1 tm k (pl 4 k) else tm
def runP (n : Nat) (pl : Nat → Nat → Nat) : Nat → (Nat → Nat) → (Nat → Nat) → (Nat → Nat) → Nat → (Nat → Nat) × (Nat → Nat)
  | 0, a, r, _, _ => (a, r)
  | f + 1, a, r, tm, k =>
    if n ≤ k then (a, r)
    else if pl 0 k = 20 then
      (if pl 0 (pl 5 k) = 19 then (if 1 < tm (pl 5 k) ∧ pl 5 k + 1 < k then runP n pl f a r (up1 tm (pl 5 k) (tm (pl 5 k) - 1)) (pl 5 k + 1) else runP n pl f a r (up1 tm (pl 5 k) (tm (pl 5 k) - 1)) (k + 1))
       else runP n pl f a r tm (k + 1))
    else if 300 ≤ r 1 then (a, up1 r 6 1)
    else runP n pl f (doesP pl a (up1 r 1 (r 1 + 1)) k).1 (missR (doesP pl a (up1 r 1 (r 1 + 1)) k).2.2 (doesP pl a (up1 r 1 (r 1 + 1)) k).2.1) (tmP pl tm k) (nextP n pl a k)
/-! What encloses what. -/
def ENC (n : Nat) (pl : Nat → Nat → Nat) (k : Nat) (P : Nat → Prop) : Prop := ∀ b, b < n → pl 0 b = 19 → b < k → k ≤ pl 5 b → P b
theorem enc_next {n k : Nat} {pl : Nat → Nat → Nat} {P : Nat → Prop} (hw : ¬ pl 0 k = 19) (h : ENC n pl k P) : ENC n pl (k + 1) P := fun b h1 h2 h3 h4 => by
  have : b ≠ k := fun e => hw (by rw [← e]; exact h2)
  exact h b h1 h2 (by omega) (by omega)
theorem enc_loop {n k : Nat} {pl : Nat → Nat → Nat} {P P' : Nat → Prop} (h : ENC n pl k P) (hk : P' k) (hP : ∀ b, b ≠ k → P b → P' b) : ENC n pl (k + 1) P' := fun b h1 h2 h3 h4 => by
  by_cases e : b = k
  · rw [e]; exact hk
  · exact hP b e (h b h1 h2 (by omega) (by omega))
theorem enc_skip {n k : Nat} {pl : Nat → Nat → Nat} {P : Nat → Prop} (hN : NST n pl) (hk : k < n) (hw : pl 0 k = 17) (h : ENC n pl k P) : ENC n pl (pl 5 k + 1) P := fun b h1 h2 h3 h4 => by
  obtain ⟨z1, z2, z3, z4, z5⟩ := (hN k hk).1 (Or.inl hw)
  have n1 : b ≠ k := fun e => by rw [e, hw] at h2; omega
  have n2 : b ≠ pl 5 k := fun e => by rw [e, z3] at h2; omega
  by_cases e : k < b
  · have := (z5 b e (by omega)).1 (Or.inr h2)
    omega
  · exact h b h1 h2 (by omega) (by omega)
theorem enc_end {n k : Nat} {pl : Nat → Nat → Nat} {P P' : Nat → Prop} (hN : NST n pl) (hk : k < n) (hw : pl 0 k = 20) (h : ENC n pl k P) (hP : ∀ b, b ≠ pl 5 k → P b → P' b) : ENC n pl (k + 1) P' := fun b h1 h2 h3 h4 => by
  obtain ⟨z1, z2, z3⟩ := (hN k hk).2 hw
  have n1 : b ≠ k := fun e => by rw [e, hw] at h2; omega
  have n2 : b ≠ pl 5 k := fun e => by rw [e, z3] at h4; omega
  exact hP b n2 (h b h1 h2 (by omega) (by omega))
theorem enc_back {n k : Nat} {pl : Nat → Nat → Nat} {P P' : Nat → Prop} (hN : NST n pl) (hk : k < n) (hw : pl 0 k = 20) (hl : pl 0 (pl 5 k) = 19) (h : ENC n pl k P) (hp : P' (pl 5 k)) (hP : ∀ b, b ≠ pl 5 k → P b → P' b) : ENC n pl (pl 5 k + 1) P' := fun b h1 h2 h3 h4 => by
  obtain ⟨z1, z2, z3⟩ := (hN k hk).2 hw
  by_cases e : b = pl 5 k
  · rw [e]; exact hp
  · obtain ⟨y1, y2, y3, y4, y5⟩ := (hN b h1).1 (Or.inr h2)
    have := (y5 (pl 5 k) (by omega) (by omega)).1 (Or.inr hl)
    rw [z3] at this
    exact hP b e (h b h1 h2 (by omega) (by omega))
theorem enc_out {n : Nat} {pl : Nat → Nat → Nat} {P : Nat → Prop} (hN : NST n pl) : ENC n pl n P := fun b h1 h2 h3 h4 => by
  have := ((hN b h1).1 (Or.inr h2)).2.1
  omega
theorem back_ne {n k : Nat} {pl : Nat → Nat → Nat} (hN : NST n pl) (hk : k < n) (hw : pl 0 k = 20) (hl : pl 0 (pl 5 k) = 19) (h : pl 5 k + 1 < k) : ¬ pl 0 (pl 5 k + 1) = 20 := fun e => by
  obtain ⟨z1, z2, z3⟩ := (hN k hk).2 hw
  obtain ⟨y1, y2, y3, y4, y5⟩ := (hN (pl 5 k) (by omega)).1 (Or.inr hl)
  rw [z3] at y5
  have h1 := (y5 (pl 5 k + 1) (by omega) h).2 e
  have h2 := ((hN (pl 5 k + 1) (by omega)).2 e).1
  omega
theorem enc_does {n k : Nat} {pl : Nat → Nat → Nat} {a : Nat → Nat} {P P' : Nat → Prop} {no np : Nat} (hN : NST n pl) (hk : k < n) (hw : ¬ pl 0 k = 20) (h : ENC n pl k P) (hp : pl 0 k = 19 → P' k) (hP : ∀ b, (pl 0 k = 19 → b ≠ k) → P b → P' b) : ENC n pl (nextP n pl a k) P' := by
  unfold nextP
  by_cases e17 : pl 0 k = 17
  · rw [if_pos e17]
    have h' : ENC n pl k P' := fun b h1 h2 h3 h4 => hP b (fun q => by omega) (h b h1 h2 h3 h4)
    split
    · exact enc_next (by omega) h'
    · exact enc_skip hN hk e17 h'
  · rw [if_neg e17]
    by_cases e21 : pl 0 k = 21
    · rw [if_pos e21]; exact enc_out hN
    · rw [if_neg e21]
      by_cases e19 : pl 0 k = 19
      · exact enc_loop h (hp e19) (fun b hb => hP b (fun _ => hb))
      · exact enc_next e19 (fun b h1 h2 h3 h4 => hP b (fun q => absurd q e19) (h b h1 h2 h3 h4))
theorem next_le {n k : Nat} {pl : Nat → Nat → Nat} {a : Nat → Nat} (hN : NST n pl) (hk : k < n) : nextP n pl a k ≤ n := by
  unfold nextP
  split
  · next e =>
    have := ((hN k hk).1 (Or.inl e)).2.1
    split <;> omega
  · split <;> omega
/-- how far it is: it grows with every move -/
def pot (n : Nat) (pl : Nat → Nat → Nat) (st k : Nat) : Nat := 200 * st + k + (if k < n ∧ pl 0 k = 20 then 0 else 61)
theorem pot_le {n : Nat} {pl : Nat → Nat → Nat} {st k : Nat} (hs : st ≤ 300) (hk : k ≤ 60) : pot n pl st k ≤ 60121 := by
  unfold pot; split <;> omega
/-! A boat stays fit. -/
theorem WB_call {a : Nat → Nat} (h : WB a) (h5 : a 5 < 9999) : WB (callA a) := by
  have wt := h.2.2
  refine ⟨WA_call h.1 (by omega) (fun p hp => by have := wt p hp; omega), ?_, fun p hp => ?_⟩
  · rw [callA_5]; omega
  · rw [callA_lo a (by omega) (by omega) (by omega)] at hp
    rw [callA_5, callA_p a 1 (by omega), callQ_p a 1 (by omega)]
    have := wt p hp
    split
    · simp; omega
    · omega
theorem cl_ok {a r : Nat → Nat} (h : WB a) : WB (clP a r).1 ∧ (clP a r).1 0 = a 0 ∧ (clP a r).1 1 = a 1 ∧ (clP a r).2.1 1 = r 1 ∧ (clP a r).2.1 7 = r 7 ∧ (clP a r).2.1 6 = r 6 := by
  unfold clP
  split
  · next e => exact ⟨WB_call h e, callA_lo a (k := 0) (by omega) (by omega) (by omega), callA_lo a (k := 1) (by omega) (by omega) (by omega), rfl, rfl, rfl⟩
  · exact ⟨h, rfl, rfl, rfl, rfl, rfl⟩
theorem does_ok {no np : Nat} {pl : Nat → Nat → Nat} {a r : Nat → Nat} {k : Nat} (hP : PK no np pl k) (h : WB a) (h0 : a 0 = no) (h1 : a 1 = np) (h7 : r 7 < 65536) : WB (doesP pl a r k).1 ∧ (doesP pl a r k).1 0 = a 0 ∧ (doesP pl a r k).1 1 = a 1 ∧ (doesP pl a r k).2.1 1 = r 1 ∧ (doesP pl a r k).2.1 7 < 65536 ∧ (doesP pl a r k).2.1 6 = r 6 := by
  have x6 := h.1.1.2.2.2.2.2.2.2.1
  have x7 := h.1.1.2.2.2.2.2.2.2.2
  have hd : drN (r 7) < 65536 := Nat.mod_lt _ (by omega)
  unfold doesP
  by_cases e11 : pl 0 k = 11
  · rw [if_pos e11]
    obtain ⟨q1, q2, q3, q4, q5, q6⟩ := cl_ok (r := r) h
    exact ⟨q1, q2, q3, q4, by rw [q5]; exact h7, q6⟩
  rw [if_neg e11]
  by_cases e16 : pl 0 k = 16
  · rw [if_pos e16]
    split
    · obtain ⟨q1, q2, q3, q4, q5, q6⟩ := cl_ok (r := up1 r 7 (drN (r 7))) h
      exact ⟨q1, q2, q3, by rw [q4]; rfl, by rw [q5, up1_t rfl]; exact hd, by rw [q6]; rfl⟩
    · exact ⟨h, rfl, rfl, rfl, by show up1 r 7 (drN (r 7)) 7 < 65536; rw [up1_t rfl]; exact hd, rfl⟩
  rw [if_neg e16]
  have sh : pl 3 k < a 0 → WB (up1 a 6 (a 6 ^^^ 1 <<< pl 3 k)) := fun z => WB_up h (Or.inr (Or.inr (Or.inr (Or.inl ⟨rfl, Nat.xor_lt_two_pow x6 (shl_lt z)⟩))))
  by_cases e12 : pl 0 k = 12
  · rw [if_pos e12]
    have ht : pl 3 k < a 0 := by unfold PK at hP; omega
    split
    · exact ⟨h, rfl, rfl, rfl, h7, rfl⟩
    · exact ⟨sh ht, rfl, rfl, rfl, h7, rfl⟩
  rw [if_neg e12]
  by_cases e13 : pl 0 k = 13
  · rw [if_pos e13]
    have ht : pl 3 k < a 0 := by unfold PK at hP; omega
    split
    · exact ⟨sh ht, rfl, rfl, rfl, h7, rfl⟩
    · exact ⟨h, rfl, rfl, rfl, h7, rfl⟩
  rw [if_neg e13]
  by_cases e14 : pl 0 k = 14
  · rw [if_pos e14]
    split
    · exact ⟨WB_up h (Or.inr (Or.inr (Or.inr (Or.inr (Or.inl ⟨rfl, dif_lt x7⟩))))), rfl, rfl, rfl, h7, rfl⟩
    · exact ⟨h, rfl, rfl, rfl, h7, rfl⟩
  rw [if_neg e14]
  by_cases e15 : pl 0 k = 15
  · rw [if_pos e15]
    have ht : pl 3 k < a 1 ∧ pl 4 k ≤ 9 := by unfold PK at hP; omega
    exact ⟨WB_up h (Or.inr (Or.inr (Or.inr (Or.inr (Or.inr (Or.inr ⟨pl 3 k, ht.1, Or.inl ⟨rfl, ht.2⟩⟩)))))), up1_f (by omega), up1_f (by omega), rfl, h7, rfl⟩
  rw [if_neg e15]
  exact ⟨h, rfl, rfl, rfl, h7, rfl⟩
theorem miss_1 (b : Bool) (r : Nat → Nat) {j : Nat} (h : j ≠ 2) : missR b r j = r j := by
  unfold missR
  split
  · rfl
  · exact up1_f h
