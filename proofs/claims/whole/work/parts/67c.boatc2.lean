/-! A boat's text, by the class: a part, the text. -/
theorem s_readPart {E : am_E} {d : Nat} {K : am_K} {mi : Nat → Nat → Int32} {ml : Nat → Nat → Int64} {c : Nat → Nat} {n : Nat} {m0 : Nat → Nat → Int32} {l0 : Nat → Nat → Int64} {x : BSt} (hx : WFb x) (hC : CSb c n m0 l0 x.2.1 x.2.2.1 x.2.2.2.1 x.2.2.2.2 mi ml) (hp : x.1 ≤ n) (hk : ¬ tkK c n x.1 = 4) (hT : TC c n x.1 mi ml) (h : partW c n x (Gc c n K m0 l0) (Bc K m0 l0)) : cq E (d + 6) 33 [.ref 48] K mi ml := by
  have mono : ∀ {K' : am_K}, PAS K K' → partW c n x (Gc c n K' m0 l0) (Bc K' m0 l0) := fun hP => partW_mono hx hp (fun k s hb m l f1 f2 hf => hP _ _ _ (Or.inl rfl) (hb m l f1 f2 hf)) (fun y _ hg m l f1 f2 => hP _ _ _ (Or.inr rfl) (hg m l f1 f2)) h
  have h22 := tkW_le c n x.1
  apply en_X1_readPart
  rw [kw_in (w := 0) (by omega) hT, kw_in (w := 1) (by omega) hT, kw_in (w := 2) (by omega) hT, kw_in (w := 3) (by omega) hT, kw_in (w := 6) (by omega) hT, kw_in (w := 10) (by omega) hT]
  refine ⟨fun q => ?_, fun q => ?_, fun q => ?_, fun q => ?_, fun q => ?_, fun q => ?_, fun q0 q1 q2 q3 q6 q10 => ?_⟩
  · exact s_readRule (i := 0) hC hp hT (by omega) ((mono (fun r m l q h => rg_X1_readPart_72 ⟨q, h⟩)).1 q)
  · exact s_readRule (i := 1) hC hp hT (by omega) (((mono (fun r m l q h => rg_X1_readPart_80 ⟨q, h⟩)).2 (by omega)).1 q)
  · exact s_readRule (i := 2) hC hp hT (by omega) ((((mono (fun r m l q h => rg_X1_readPart_89 ⟨q, h⟩)).2 (by omega)).2 (by omega)).1 q)
  · exact s_readSign hx hC hp hT (((((mono (fun r m l q h => rg_X1_readPart_94 ⟨q, h⟩)).2 (by omega)).2 (by omega)).2 (by omega)).1 q)
  · exact s_readPerson hx hC hp hT ((((((mono (fun r m l q h => rg_X1_readPart_99 ⟨q, h⟩)).2 (by omega)).2 (by omega)).2 (by omega)).2 (by omega)).1 q)
  · exact s_readBlind hx hC hp hT (((((((mono (fun r m l q h => rg_X1_readPart_104 ⟨q, h⟩)).2 (by omega)).2 (by omega)).2 (by omega)).2 (by omega)).2 (by omega)).1 q)
  · have := (((((h.2 q0).2 q1).2 q2).2 q3).2 q6).2 q10
    rw [badK_n hk] at this
    exact Bc_in hC this hT.2.1
/-- a boat as nothing is told of it yet -/
def pl0 (k : Nat) : Nat := if k = 2 then 4 else if k = 3 then 1 else if k = 4 then 12 else 0
def x00 : BSt := (0, pl0, fun _ => 0, fun _ => 0, 0)
theorem pl0_z {k : Nat} (h2 : k ≠ 2) (h3 : k ≠ 3) (h4 : k ≠ 4) : pl0 k = 0 := by unfold pl0; rw [if_neg h2, if_neg h3, if_neg h4]
theorem WFb_00 : WFb x00 := by
  have h0 : ∀ o, ¬ o < pl0 0 := fun o z => absurd z (Nat.not_lt_zero _)
  have h1 : ∀ o, ¬ o < pl0 1 := fun o z => absurd z (Nat.not_lt_zero _)
  refine ⟨⟨⟨⟨?_, ?_, ?_, ?_, ?_, ?_, ?_, ?_, ?_⟩, fun o ho => absurd ho (h0 o), fun p hp => absurd hp (h1 p)⟩, ?_, fun p hp => absurd hp (h1 p)⟩, fun k k1 k2 => pl0_z ?_ ?_ ?_, fun k k1 k2 => pl0_z ?_ ?_ ?_, rfl, fun o ho => absurd ho (h0 o), fun p hp => absurd hp (h1 p)⟩
  all_goals first | decide | (have k1' : 16 ≤ k := k1; omega) | (have k1' : 10 ≤ k := k1; omega)
def Ge (c : Nat → Nat) (n : Nat) (K : am_K) (m0 : Nat → Nat → Int32) (l0 : Nat → Nat → Int64) (x : BSt) : Prop := ∀ mi ml, CSb c n m0 l0 x.2.1 x.2.2.1 x.2.2.2.1 x.2.2.2.2 mi ml → K (some (.int (nI 1))) (S0, mi, ml)
theorem s_readTextB {E : am_E} {d : Nat} {K : am_K} {mi : Nat → Nat → Int32} {ml : Nat → Nat → Int64} {c : Nat → Nat} {n : Nat} (hn : n ≤ 900) (hc : ∀ i, i < n → c i < 256 ∧ mi 1 i = nI (c i)) (hw : R_cst ml) (h : textW c n (Ge c n K (am_si mi 46 2 (nI n)) ml) (Bc K (am_si mi 46 2 (nI n)) ml) (n + 1) x00) : cq E (d + 7) 32 [.ref 48, .int (nI n)] K mi ml := by
  have key : ∀ f i, i + f = n + 1 → ∀ (x : BSt) m l, WFb x → x.1 ≤ n → i ≤ x.1 → CSb c n (am_si mi 46 2 (nI n)) ml x.2.1 x.2.2.1 x.2.2.2.1 x.2.2.2.2 m l → m 46 3 = nI x.1 → textW c n (Ge c n K (am_si mi 46 2 (nI n)) ml) (Bc K (am_si mi 46 2 (nI n)) ml) f x → rn E (d + 6) 32 K 22 [.ref 48, .int (nI n), .int (nI i)] [] m l := by
    intro f
    induction f with
    | zero => intro i hi x m l _ h1 h2; omega
    | succ f ih =>
      intro i hi x m l hx hp hip hC h3 h
      apply rg_X1_readText_22
      rw [ni_lt (by omega) (by omega)]
      refine br_f (by omega) ?_
      apply s_advance (d := d + 3) hC.2.2.2.1 hp h3
      intro m1 l1 f1 f2 hA
      apply rg_X1_readText_34
      rw [ni_b0, decide_eq_false_iff_not]
      by_cases k4 : tkK c n x.1 = 4
      · have h2 := h.2 (by omega)
        have hw0 := fun w => tkW_bad (w := w) k4
        have := (((((h2.2 (hw0 0)).2 (hw0 1)).2 (hw0 2)).2 (hw0 3)).2 (hw0 6)).2 (hw0 10)
        rw [badK_4 k4] at this
        exact br_f (fun z => z (fun y => y k4)) (Bc_go hC this f1 f2 (hA.1 k4))
      obtain ⟨hT, hs⟩ := hA.2 k4
      have hC1 := CSb_tok hC f1 f2 hs
      have hk4 := tkK_le c n x.1
      refine br_t (fun z => z k4) ?_
      rw [hT.2.2.1, ni_eq (by omega) (by omega)]
      refine ⟨fun q => ?_, fun q => ?_⟩
      · apply s_readPart hx hC1 hp k4 hT
        refine partW_mono hx hp (fun k s hb m l f1 f2 hf => ?_) (fun y hy hg m l hC2 h3 => ?_) (h.2 q)
        · apply rg_X1_readText_55
          exact br_f (fun z => z rfl) (hb m l f1 f2 hf)
        · apply rg_X1_readText_55
          rw [nI_add]
          obtain ⟨y1, y2, y3⟩ := hy
          exact br_t n10 (ih (i + 1) (by omega) y m l y3 y2 (by omega) hC2 h3 hg)
      · have q' : tkK c n x.1 = 3 := Classical.byContradiction q
        exact h.1 q' m1 l1 hC1
  apply en_X1_readText
  apply en_X5_begin
  apply rg_X1_readText_8
  apply en_X0_empty bt_28
  apply rg_X1_readText_15
  refine key (n + 1) 0 (by omega) x00 _ _ WFb_00 (Nat.zero_le _) (Nat.zero_le _) ⟨fun k j z1 z2 z3 => ?_, fun _ _ _ _ => rfl, ⟨⟨⟨?_, ?_, ?_, ?_, ?_, ?_, ?_, ?_⟩, fun o ho => absurd ho (Nat.not_lt_zero _), fun o ho => absurd ho (Nat.not_lt_zero _)⟩, fun o ho => absurd ho (Nat.not_lt_zero _), fun o ho => absurd ho (Nat.not_lt_zero _), 0, by omega, si_t ⟨rfl, rfl⟩, fun i hi => ?_⟩, ⟨hn, ?_, fun i hi => ⟨(hc i hi).1, ?_⟩, hw⟩, ?_, ?_⟩ ?_ h
  · rw [si_f z3, si_f (by omega), si_f (by omega), si_f (by omega), si_f (by omega), si_f (by omega), si_f (by omega), si_f (by omega), si_f (by omega), si_f (by omega), si_f (by omega), si_f (by omega)]
  · rw [si_f (by omega), si_f (by omega), si_f (by omega), si_f (by omega), si_f (by omega), si_f (by omega), si_f (by omega), si_f (by omega), si_t ⟨rfl, rfl⟩]; rfl
  · rw [si_f (by omega), si_f (by omega), si_f (by omega), si_f (by omega), si_f (by omega), si_f (by omega), si_f (by omega), si_t ⟨rfl, rfl⟩]; rfl
  · rw [si_f (by omega), si_f (by omega), si_f (by omega), si_f (by omega), si_f (by omega), si_f (by omega), si_t ⟨rfl, rfl⟩]; rfl
  · rw [si_f (by omega), si_f (by omega), si_f (by omega), si_f (by omega), si_f (by omega), si_t ⟨rfl, rfl⟩]; rfl
  · rw [si_f (by omega), si_f (by omega), si_f (by omega), si_f (by omega), si_t ⟨rfl, rfl⟩]; rfl
  · rw [si_f (by omega), si_f (by omega), si_f (by omega), si_t ⟨rfl, rfl⟩]; rfl
  · rw [si_f (by omega), si_f (by omega), si_t ⟨rfl, rfl⟩]; rfl
  · rw [si_f (by omega), si_t ⟨rfl, rfl⟩]; decide
  · rw [Nat.zero_testBit]; exact (Nat.zero_testBit i).symm
  · rw [si_f (by omega), si_f (by omega), si_f (by omega), si_f (by omega), si_f (by omega), si_f (by omega), si_f (by omega), si_f (by omega), si_f (by omega), si_f (by omega), si_f (by omega), si_f (by omega), si_t ⟨rfl, rfl⟩]
  · rw [si_f (by omega), si_f (by omega), si_f (by omega), si_f (by omega), si_f (by omega), si_f (by omega), si_f (by omega), si_f (by omega), si_f (by omega), si_f (by omega), si_f (by omega), si_f (by omega), si_f (by omega)]
    exact (hc i hi).2
  · rw [si_f (by omega), si_f (by omega), si_f (by omega), si_f (by omega), si_f (by omega), si_f (by omega), si_f (by omega), si_f (by omega), si_f (by omega), si_f (by omega), si_t ⟨rfl, rfl⟩]
  · rw [si_f (by omega), si_f (by omega), si_f (by omega), si_f (by omega), si_f (by omega), si_f (by omega), si_f (by omega), si_f (by omega), si_f (by omega), si_t ⟨rfl, rfl⟩]
  · rw [si_f (by omega), si_f (by omega), si_f (by omega), si_f (by omega), si_f (by omega), si_f (by omega), si_f (by omega), si_f (by omega), si_f (by omega), si_f (by omega), si_f (by omega), si_t ⟨rfl, rfl⟩]; rfl
