/-! One thing of a boat changed. -/
def up1 (a : Nat → Nat) (k v : Nat) : Nat → Nat := fun j => if j = k then v else a j
theorem up1_t {a : Nat → Nat} {k v j : Nat} (h : j = k) : up1 a k v j = v := if_pos h
theorem up1_f {a : Nat → Nat} {k v j : Nat} (h : ¬ j = k) : up1 a k v j = a j := if_neg h
theorem MA_up {a : Nat → Nat} {mi : Nat → Nat → Int32} (h : MA a mi) (k v : Nat) : MA (up1 a k v) (am_si mi 107 k (nI v)) := fun j hj h8 => by
  by_cases e : j = k
  · rw [up1_t e, si_t ⟨rfl, e⟩]
  · rw [up1_f e, si_f (by omega)]; exact h j hj h8
theorem MS_up {off : Nat} {a : Nat → Nat} {mi : Nat → Nat → Int32} (h : MS off a mi) (k v : Nat) : MS off (up1 a k v) (am_si mi 107 (off + k) (nI v)) := fun j hj h8 => by
  by_cases e : j = k
  · rw [up1_t e, si_t ⟨rfl, by omega⟩]
  · rw [up1_f e, si_f (by omega)]; exact h j hj h8
def UPC (a : Nat → Nat) (k v : Nat) : Prop := (k = 2 ∧ 1 ≤ v ∧ v ≤ 9) ∨ (k = 3 ∧ v ≤ 3) ∨ (k = 4 ∧ v ≤ 16) ∨ (k = 6 ∧ v < 2 ^ a 0) ∨ (k = 7 ∧ v < 2 ^ a 1) ∨ (∃ o, o < a 0 ∧ k = 10 + o ∧ 1 ≤ v ∧ v ≤ 5) ∨ (∃ p, p < a 1 ∧ ((k = 16 + 4 * p ∧ v ≤ 9) ∨ (k = 16 + 4 * p + 2 ∧ v < 2 ^ a 0) ∨ (k = 16 + 4 * p + 3 ∧ v < 2 ^ a 1 ∧ v.testBit p = false)))
theorem WA_up {a : Nat → Nat} {k v : Nat} (h : WA a) (hc : UPC a k v) : WA (up1 a k v) := by
  obtain ⟨⟨x0, x1, x2, x3, x4, x5, x6, x7, x8⟩, y, z⟩ := h
  have hk : k ≠ 0 ∧ k ≠ 1 ∧ k ≠ 5 ∧ ∀ q, k ≠ 16 + 4 * q + 1 := by
    rcases hc with c | c | c | c | c | ⟨o, ho, c⟩ | ⟨p, hp, c⟩ <;> exact ⟨by omega, by omega, by omega, fun q => by omega⟩
  obtain ⟨k0, k1, k5, k17⟩ := hk
  have e0 : up1 a k v 0 = a 0 := up1_f (Ne.symm k0)
  have e1 : up1 a k v 1 = a 1 := up1_f (Ne.symm k1)
  have e5 : up1 a k v 5 = a 5 := up1_f (Ne.symm k5)
  have e17 : ∀ q, up1 a k v (16 + 4 * q + 1) = a (16 + 4 * q + 1) := fun q => up1_f (fun z => k17 q z.symm)
  unfold WA
  rw [e0, e1, e5]
  refine ⟨⟨x0, x1, ?_, ?_, ?_, ?_, x6, ?_, ?_⟩, fun o ho => ?_, fun q hq => ?_⟩
  · unfold up1; split
    · rcases hc with c | c | c | c | c | ⟨o, ho, c⟩ | ⟨p, hp, c⟩ <;> omega
    · exact x2
  · unfold up1; split
    · rcases hc with c | c | c | c | c | ⟨o, ho, c⟩ | ⟨p, hp, c⟩ <;> omega
    · exact x3
  · unfold up1; split
    · rcases hc with c | c | c | c | c | ⟨o, ho, c⟩ | ⟨p, hp, c⟩ <;> omega
    · exact x4
  · unfold up1; split
    · rcases hc with c | c | c | c | c | ⟨o, ho, c⟩ | ⟨p, hp, c⟩ <;> omega
    · exact x5
  · unfold up1; split
    · rcases hc with c | c | c | c | c | ⟨o, ho, c⟩ | ⟨p, hp, c⟩ <;> omega
    · exact x7
  · unfold up1; split
    · rcases hc with c | c | c | c | c | ⟨o, ho, c⟩ | ⟨p, hp, c⟩ <;> omega
    · exact x8
  · unfold up1; split
    · rcases hc with c | c | c | c | c | ⟨o, ho, c⟩ | ⟨p, hp, c⟩ <;> omega
    · exact y o ho
  · obtain ⟨z1, z2, z3, z4, z5⟩ := z q hq
    rw [e17]
    refine ⟨?_, z2, ?_, ?_, ?_⟩
    · unfold up1; split
      · rcases hc with c | c | c | c | c | ⟨o, ho, c⟩ | ⟨p, hp, c⟩ <;> omega
      · exact z1
    · unfold up1; split
      · rcases hc with c | c | c | c | c | ⟨o, ho, c⟩ | ⟨p, hp, c⟩ <;> omega
      · exact z3
    · unfold up1; split
      · rcases hc with c | c | c | c | c | ⟨o, ho, c⟩ | ⟨p, hp, c⟩ <;> omega
      · exact z4
    · by_cases e : 16 + 4 * q + 3 = k
      · rw [up1_t e]
        rcases hc with c | c | c | c | c | ⟨o, ho, c⟩ | ⟨p, hp, c | c | c⟩
        · omega
        · omega
        · omega
        · omega
        · omega
        · omega
        · omega
        · omega
        · have : q = p := by omega
          subst this
          exact c.2.2
      · rw [up1_f e]; exact z5
theorem WB_up {a : Nat → Nat} {k v : Nat} (h : WB a) (hc : UPC a k v) : WB (up1 a k v) := by
  have x0 := h.1.1.1
  have hk : k ≠ 1 ∧ k ≠ 5 ∧ ∀ q, k ≠ 16 + 4 * q + 1 := by
    rcases hc with c | c | c | c | c | ⟨o, ho, c⟩ | ⟨p, hp, c⟩ <;> exact ⟨by omega, by omega, fun q => by omega⟩
  refine ⟨WA_up h.1 hc, ?_, fun p hp => ?_⟩
  · rw [up1_f (Ne.symm hk.2.1)]; exact h.2.1
  · rw [up1_f (Ne.symm hk.1)] at hp
    rw [up1_f (Ne.symm hk.2.1), up1_f (fun z => hk.2.2 p z.symm)]; exact h.2.2 p hp
theorem CB_shown {b : Nat} {a : Nat → Nat} {mi : Nat → Nat → Int32} (h : CB b a mi) (v : Nat) : CB b (up1 a 6 v) (am_si mi b 6 (nI v)) := by
  obtain ⟨⟨c0, c1, c2, c3, c4, c5, c6, c7⟩, cp, cq⟩ := h
  have e0 : up1 a 6 v 0 = a 0 := up1_f (by omega)
  have e1 : up1 a 6 v 1 = a 1 := up1_f (by omega)
  refine ⟨⟨?_, ?_, ?_, ?_, ?_, ?_, ?_, ?_⟩, fun o ho => ?_, fun p hp => ?_⟩
  · rw [si_f (by omega), up1_f (by omega)]; exact c0
  · rw [si_f (by omega), up1_f (by omega)]; exact c1
  · rw [si_f (by omega), up1_f (by omega)]; exact c2
  · rw [si_f (by omega), up1_f (by omega)]; exact c3
  · rw [si_f (by omega), up1_f (by omega)]; exact c4
  · rw [si_f (by omega), up1_f (by omega)]; exact c5
  · rw [si_t ⟨rfl, rfl⟩, up1_t rfl]
  · rw [si_f (by omega)]; exact c7
  · rw [e0] at ho
    rw [si_f (by omega), up1_f (by omega)]; exact cp o ho
  · rw [e1] at hp
    unfold seesA
    rw [si_f (by omega), si_f (by omega), si_f (by omega), si_f (by omega), up1_f (by omega), up1_f (by omega), up1_f (by omega), up1_f (by omega), up1_f (by omega)]
    exact cq p hp
theorem CB_out {b : Nat} {a : Nat → Nat} {mi : Nat → Nat → Int32} (h : CB b a mi) (v : Nat) : CB b (up1 a 7 v) (am_si mi b 7 (nI (ndif (2 ^ a 1 - 1) v))) := by
  obtain ⟨⟨c0, c1, c2, c3, c4, c5, c6, c7⟩, cp, cq⟩ := h
  have e0 : up1 a 7 v 0 = a 0 := up1_f (by omega)
  have e1 : up1 a 7 v 1 = a 1 := up1_f (by omega)
  refine ⟨⟨?_, ?_, ?_, ?_, ?_, ?_, ?_, ?_⟩, fun o ho => ?_, fun p hp => ?_⟩
  · rw [si_f (by omega), up1_f (by omega)]; exact c0
  · rw [si_f (by omega), up1_f (by omega)]; exact c1
  · rw [si_f (by omega), up1_f (by omega)]; exact c2
  · rw [si_f (by omega), up1_f (by omega)]; exact c3
  · rw [si_f (by omega), up1_f (by omega)]; exact c4
  · rw [si_f (by omega), up1_f (by omega)]; exact c5
  · rw [si_f (by omega), up1_f (by omega)]; exact c6
  · rw [si_t ⟨rfl, rfl⟩]; unfold aboA; rw [e1, up1_t rfl]
  · rw [e0] at ho
    rw [si_f (by omega), up1_f (by omega)]; exact cp o ho
  · rw [e1] at hp
    unfold seesA
    rw [si_f (by omega), si_f (by omega), si_f (by omega), si_f (by omega), up1_f (by omega), up1_f (by omega), up1_f (by omega), up1_f (by omega), up1_f (by omega)]
    exact cq p hp
theorem CB_rule {b : Nat} {a : Nat → Nat} {mi : Nat → Nat → Int32} (h : CB b a mi) (i v : Nat) (hi : i < 3) : CB b (up1 a (i + 2) v) (am_si mi b i (nI v)) := by
  obtain ⟨⟨c0, c1, c2, c3, c4, c5, c6, c7⟩, cp, cq⟩ := h
  have e0 : up1 a (i + 2) v 0 = a 0 := up1_f (by omega)
  have e1 : up1 a (i + 2) v 1 = a 1 := up1_f (by omega)
  have e7 : up1 a (i + 2) v 7 = a 7 := up1_f (by omega)
  refine ⟨⟨?_, ?_, ?_, ?_, ?_, ?_, ?_, ?_⟩, fun o ho => ?_, fun p hp => ?_⟩
  · by_cases e : i = 0
    · subst e; rw [si_t ⟨rfl, rfl⟩, up1_t rfl]
    · rw [si_f (by omega), up1_f (by omega)]; exact c0
  · by_cases e : i = 1
    · subst e; rw [si_t ⟨rfl, rfl⟩, up1_t rfl]
    · rw [si_f (by omega), up1_f (by omega)]; exact c1
  · by_cases e : i = 2
    · subst e; rw [si_t ⟨rfl, rfl⟩, up1_t rfl]
    · rw [si_f (by omega), up1_f (by omega)]; exact c2
  · rw [si_f (by omega), up1_f (by omega)]; exact c3
  · rw [si_f (by omega), up1_f (by omega)]; exact c4
  · rw [si_f (by omega), up1_f (by omega)]; exact c5
  · rw [si_f (by omega), up1_f (by omega)]; exact c6
  · rw [si_f (by omega)]; unfold aboA; rw [e1, e7]; exact c7
  · rw [e0] at ho
    rw [si_f (by omega), up1_f (by omega)]; exact cp o ho
  · rw [e1] at hp
    unfold seesA
    rw [si_f (by omega), si_f (by omega), si_f (by omega), si_f (by omega), up1_f (by omega), up1_f (by omega), up1_f (by omega), up1_f (by omega), up1_f (by omega)]
    exact cq p hp
theorem CB_pull {b : Nat} {a : Nat → Nat} {mi : Nat → Nat → Int32} (h : CB b a mi) (i v : Nat) (hi : i < 6) : CB b (up1 a (10 + i) v) (am_si mi (b + 1) i (nI v)) := by
  obtain ⟨⟨c0, c1, c2, c3, c4, c5, c6, c7⟩, cp, cq⟩ := h
  have e0 : up1 a (10 + i) v 0 = a 0 := up1_f (by omega)
  have e1 : up1 a (10 + i) v 1 = a 1 := up1_f (by omega)
  have e7 : up1 a (10 + i) v 7 = a 7 := up1_f (by omega)
  refine ⟨⟨?_, ?_, ?_, ?_, ?_, ?_, ?_, ?_⟩, fun o ho => ?_, fun p hp => ?_⟩
  · rw [si_f (by omega), up1_f (by omega)]; exact c0
  · rw [si_f (by omega), up1_f (by omega)]; exact c1
  · rw [si_f (by omega), up1_f (by omega)]; exact c2
  · rw [si_f (by omega), up1_f (by omega)]; exact c3
  · rw [si_f (by omega), up1_f (by omega)]; exact c4
  · rw [si_f (by omega), up1_f (by omega)]; exact c5
  · rw [si_f (by omega), up1_f (by omega)]; exact c6
  · rw [si_f (by omega)]; unfold aboA; rw [e1, e7]; exact c7
  · rw [e0] at ho
    by_cases e : o = i
    · subst e; rw [si_t ⟨rfl, rfl⟩, up1_t rfl]
    · rw [si_f (by omega), up1_f (by omega)]; exact cp o ho
  · rw [e1] at hp
    unfold seesA
    rw [si_f (by omega), si_f (by omega), si_f (by omega), si_f (by omega), up1_f (by omega), up1_f (by omega), up1_f (by omega), up1_f (by omega), up1_f (by omega)]
    exact cq p hp
theorem CB_pers {b : Nat} {a : Nat → Nat} {mi : Nat → Nat → Int32} (hw : a 0 ≤ 6) (h : CB b a mi) (q j v : Nat) (x : Int32) (hj : j = 0 ∨ j = 2 ∨ j = 3) (hx : x = if j = 3 then nI (ndif (ndif (2 ^ a 1 - 1) v) (1 <<< q)) else nI v) : CB b (up1 a (16 + 4 * q + j) v) (am_si mi (b + 3 + j) q x) := by
  obtain ⟨⟨c0, c1, c2, c3, c4, c5, c6, c7⟩, cp, cq⟩ := h
  have e0 : up1 a (16 + 4 * q + j) v 0 = a 0 := up1_f (by omega)
  have e1 : up1 a (16 + 4 * q + j) v 1 = a 1 := up1_f (by omega)
  have e7 : up1 a (16 + 4 * q + j) v 7 = a 7 := up1_f (by omega)
  refine ⟨⟨?_, ?_, ?_, ?_, ?_, ?_, ?_, ?_⟩, fun o ho => ?_, fun p hp => ⟨?_, ?_, ?_, ?_⟩⟩
  · rw [si_f (by omega), up1_f (by omega)]; exact c0
  · rw [si_f (by omega), up1_f (by omega)]; exact c1
  · rw [si_f (by omega), up1_f (by omega)]; exact c2
  · rw [si_f (by omega), up1_f (by omega)]; exact c3
  · rw [si_f (by omega), up1_f (by omega)]; exact c4
  · rw [si_f (by omega), up1_f (by omega)]; exact c5
  · rw [si_f (by omega), up1_f (by omega)]; exact c6
  · rw [si_f (by omega)]; unfold aboA; rw [e1, e7]; exact c7
  · rw [e0] at ho
    rw [si_f (by omega), up1_f (by omega)]; exact cp o ho
  · rw [e1] at hp
    by_cases e : p = q ∧ j = 0
    · obtain ⟨rfl, rfl⟩ := e
      rw [si_t ⟨rfl, rfl⟩, up1_t (by omega), hx]; rfl
    · rw [si_f (by omega), up1_f (by omega)]; exact (cq p hp).1
  · rw [e1] at hp
    rw [si_f (by omega), up1_f (by omega)]; exact (cq p hp).2.1
  · rw [e1] at hp
    by_cases e : p = q ∧ j = 2
    · obtain ⟨rfl, rfl⟩ := e
      rw [si_t ⟨rfl, rfl⟩, up1_t rfl, hx]; rfl
    · rw [si_f (by omega), up1_f (by omega)]; exact (cq p hp).2.2.1
  · rw [e1] at hp
    unfold seesA
    rw [e1]
    by_cases e : p = q ∧ j = 3
    · obtain ⟨rfl, rfl⟩ := e
      rw [si_t ⟨rfl, rfl⟩, up1_t rfl, hx]; rfl
    · rw [si_f (by omega), up1_f (by omega)]; exact (cq p hp).2.2.2
theorem YR_mono {y off no np no' np' : Nat} {mi : Nat → Nat → Int32} (h : YR y off no np mi) (h0 : no ≤ no') (h1 : np ≤ np') : YR y off no' np' mi := by
  rcases h with h | ⟨h1', n, w, pt, h2, h3, h4, h5, h6⟩
  · exact Or.inl h
  · refine Or.inr ⟨h1', n, w, pt, h2, h3, h4, h5, fun k hk => ?_⟩
    obtain ⟨g, r⟩ := h6 k hk
    refine ⟨g, ?_⟩
    rcases r with r | r | ⟨r1, r2, t, r3, r4⟩ | ⟨r1, r2, t, r3, r4⟩ | ⟨r1, r2, t, v, r3, r4⟩ | r | r | ⟨r1, r2, r3, t, r4, r5, r6⟩
    · exact Or.inl r
    · exact Or.inr (Or.inl r)
    · exact Or.inr (Or.inr (Or.inl ⟨r1, r2, t, by omega, r4⟩))
    · exact Or.inr (Or.inr (Or.inr (Or.inl ⟨r1, r2, t, by omega, r4⟩)))
    · exact Or.inr (Or.inr (Or.inr (Or.inr (Or.inl ⟨r1, r2, t, v, by omega, r4⟩))))
    · exact Or.inr (Or.inr (Or.inr (Or.inr (Or.inr (Or.inl r)))))
    · exact Or.inr (Or.inr (Or.inr (Or.inr (Or.inr (Or.inr (Or.inl r))))))
    · refine Or.inr (Or.inr (Or.inr (Or.inr (Or.inr (Or.inr (Or.inr ⟨r1, r2, r3, t, r4, r5, ?_⟩))))))
      rcases r6 with ⟨q, r6⟩ | ⟨q, r6⟩ | ⟨q, r6⟩
      · exact Or.inl ⟨by omega, r6⟩
      · exact Or.inr (Or.inl ⟨by omega, r6⟩)
      · exact Or.inr (Or.inr ⟨by omega, r6⟩)
/-- a call that changes the boat alone -/
theorem INV_b {a a' : Nat → Nat} {mi mi' : Nat → Nat → Int32} {ml ml' : Nat → Nat → Int64} (h : INV mi ml) (hB : BY 12 21 0 0 a mi ml) (hf : ∀ k j, ¬ (scr k j ∨ (12 ≤ k ∧ k ≤ 20) ∨ (k = 107 ∧ j < 48 ∧ j ≠ 8)) → mi' k j = mi k j) (hl : ∀ k j, ¬ (scl k j ∨ k = 14 ∨ k = 19 ∨ (k = 108 ∧ j < 14)) → ml' k j = ml k j) (hs : mi' 0 0 = mi' 106 2) (hW' : WB a') (hC' : CB 12 a' mi') (hM' : MA a' mi') (h0 : a 0 ≤ a' 0) (h1 : a 1 ≤ a' 1) (hN : NMS 12 0 (a' 0) (a' 1) ml') : INV mi' ml' := by
  obtain ⟨g1, g2, g3, g4, g5, -, g7, g8, g9⟩ := h
  unfold scr at hf
  unfold scl at hl
  refine ⟨hs, ?_, ?_, R_tape_fr g4 (fun k j z => hf k j (by omega)), R_tr_fr g5 (fun k j z => hf k j (by omega)) (fun k j z => hl k j (by omega)), ⟨a', hW', hC', MS_0.mpr hM', hN, YR_mono (YR_fr hB.2.2.2.2 (fun k j z => hf k j (by omega))) h0 h1⟩, R_kept_fr g7 (fun k j z => hf k j (by omega)) (fun k j z => hl k j (by omega)), R_life_fr g8 (fun k j z => hf k j (by omega)), R_cst_fr g9 (fun k j z => hl k j (by omega))⟩
  · rw [hl 11 0 (by omega), hl 106 3 (by omega), hl 11 1 (by omega), hl 106 4 (by omega)]; exact g2
  · rw [hf 46 9 (by omega), hf 106 16 (by omega), hf 46 10 (by omega), hf 106 17 (by omega)]; exact g3
/-- .. by one number -/
theorem INV_u {a : Nat → Nat} {k v : Nat} {c j : Nat} {x s : Int32} {mi : Nat → Nat → Int32} {ml : Nat → Nat → Int64} (h : INV mi ml) (hB : BY 12 21 0 0 a mi ml) (hc : UPC a k v) (h48 : k < 48) (h8 : k ≠ 8) (hcc : 12 ≤ c ∧ c ≤ 20) (hC' : CB 12 (up1 a k v) (am_si mi c j x)) : INV (am_si (am_si (am_si (am_si mi c j x) 0 0 s) 107 k (nI v)) 106 2 s) ml := by
  have hk : k ≠ 0 ∧ k ≠ 1 := by
    rcases hc with c | c | c | c | c | ⟨o, ho, c⟩ | ⟨p, hp, c⟩ <;> exact ⟨by omega, by omega⟩
  refine INV_b h hB (fun q i z => ?_) (fun _ _ _ => rfl) ?_ (WB_up hB.1 hc) ?_ ?_ ?_ ?_ ?_
  · unfold scr at z
    rw [si_f (by omega), si_f (by omega), si_f (by omega), si_f (by omega)]
  · rw [si_f (by omega), si_f (by omega), si_t ⟨rfl, rfl⟩, si_t ⟨rfl, rfl⟩]
  · exact CB_frb hC' (fun q i z => by rw [si_f (by omega), si_f (by omega), si_f (by omega)])
  · intro i hi hi8
    by_cases e : i = k
    · rw [si_f (by omega), si_t ⟨rfl, e⟩, up1_t e]
    · rw [si_f (by omega), si_f (by omega), si_f (by omega), si_f (by omega), up1_f e]
      exact MS_0.mp hB.2.2.1 i hi hi8
  · rw [up1_f (Ne.symm hk.1)]; exact Nat.le_refl _
  · rw [up1_f (Ne.symm hk.2)]; exact Nat.le_refl _
  · rw [up1_f (Ne.symm hk.1), up1_f (Ne.symm hk.2)]; exact hB.2.2.2.1
