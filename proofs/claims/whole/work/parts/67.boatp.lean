/-! A boat's text, part by part: what it comes to. G takes what is read, B a fault and its place. -/
def DetW {S : Type} (W : (S → Prop) → (Nat → Nat → Prop) → Prop) : Prop := ∃ o : (Nat × Nat) ⊕ S, ∀ G B, (∀ x, o = .inr x → G x) → (∀ k s, o = .inl (k, s) → B k s) → W G B
theorem det_g {S : Type} (x : S) : DetW (fun G _ => G x) := ⟨.inr x, fun _ _ h _ => h x rfl⟩
theorem det_b {S : Type} (k s : Nat) : DetW (S := S) (fun _ B => B k s) := ⟨.inl (k, s), fun _ _ _ h => h k s rfl⟩
theorem det_t {S : Type} : DetW (S := S) (fun _ _ => True) := ⟨.inl (0, 0), fun _ _ _ _ => trivial⟩
theorem det_if {S : Type} {P : Prop} {W V : (S → Prop) → (Nat → Nat → Prop) → Prop} (h1 : DetW W) (h2 : DetW V) : DetW (fun G B => (P → W G B) ∧ (¬ P → V G B)) := by
  by_cases h : P
  · obtain ⟨o, ho⟩ := h1
    exact ⟨o, fun G B g b => ⟨fun _ => ho G B g b, fun z => absurd h z⟩⟩
  · obtain ⟨o, ho⟩ := h2
    exact ⟨o, fun G B g b => ⟨fun z => absurd z h, fun _ => ho G B g b⟩⟩
def stopW (c : Nat → Nat) (n p : Nat) (A : Prop) (B : Nat → Nat → Prop) : Prop := (isSt c n p → A) ∧ (¬ isSt c n p → B (badK c n p 2) (tkS c n p))
def numW (c : Nat → Nat) (n p lo hi : Nat) (A : Prop) (B : Nat → Nat → Prop) : Prop := (isNo c n p lo hi → A) ∧ (¬ isNo c n p lo hi → B (noK c n p) (tkS c n p))
def nmW (c : Nat → Nat) (n p : Nat) (A : Prop) (B : Nat → Nat → Prop) : Prop := (isNm c n p → A) ∧ (¬ isNm c n p → B (badK c n p 2) (tkS c n p))
def kwW (c : Nat → Nat) (n p w : Nat) (A : Prop) (B : Nat → Nat → Prop) : Prop := (tkW c n p = w + 1 → A) ∧ (¬ tkW c n p = w + 1 → B (badK c n p 2) (tkS c n p))
/-- place, numbers, names of signs, of people, rules told -/
abbrev BSt := Nat × (Nat → Nat) × (Nat → Nat) × (Nat → Nat) × Nat
def ruleW (c : Nat → Nat) (n i lo hi : Nat) (x : BSt) (G : BSt → Prop) (B : Nat → Nat → Prop) : Prop :=
  (x.2.2.2.2.testBit i = true → B 5 (tkS c n x.1)) ∧ (¬ x.2.2.2.2.testBit i = true →
    numW c n (tkE c n x.1) lo hi (stopW c n (tkE c n (tkE c n x.1)) (G (tkE c n (tkE c n (tkE c n x.1)), up1 x.2.1 (i + 2) (tkV c n (tkE c n x.1)), x.2.2.1, x.2.2.2.1, x.2.2.2.2 ||| 1 <<< i)) B) B)
def signA (a : Nat → Nat) (v : Nat) : Nat → Nat := up1 (up1 a (10 + a 0) v) 0 (a 0 + 1)
def takenP (x : BSt) (e : Nat) : Prop := ¬ fnd x.2.2.1 e (x.2.1 0) = 0 ∨ ¬ fnd x.2.2.2.1 e (x.2.1 1) = 0
def signT (c : Nat → Nat) (n r : Nat) (x : BSt) (a1 on1 : Nat → Nat) (G : BSt → Prop) (B : Nat → Nat → Prop) : Prop :=
  (tkW c n r = 5 + 1 → stopW c n (tkE c n r) (G (tkE c n (tkE c n r), up1 a1 6 (x.2.1 6 ||| 1 <<< x.2.1 0), on1, x.2.2.2.1, x.2.2.2.2)) B) ∧ (¬ tkW c n r = 5 + 1 → stopW c n r (G (tkE c n r, a1, on1, x.2.2.2.1, x.2.2.2.2)) B)
def signW (c : Nat → Nat) (n : Nat) (x : BSt) (G : BSt → Prop) (B : Nat → Nat → Prop) : Prop :=
  (x.2.1 0 = 6 → B 6 (tkS c n x.1)) ∧ (¬ x.2.1 0 = 6 →
    nmW c n (tkE c n x.1) ((takenP x (tkC c n (tkE c n x.1)) → B 3 (tkS c n (tkE c n x.1))) ∧ (¬ takenP x (tkC c n (tkE c n x.1)) →
      kwW c n (tkE c n (tkE c n x.1)) 4 (numW c n (tkE c n (tkE c n (tkE c n x.1))) 1 5 (signT c n (tkE c n (tkE c n (tkE c n (tkE c n x.1)))) x (signA x.2.1 (tkV c n (tkE c n (tkE c n (tkE c n x.1))))) (up1 x.2.2.1 (x.2.1 0) (tkC c n (tkE c n x.1))) G B) B) B)) B)
def excW (c : Nat → Nat) (n : Nat) (on : Nat → Nat) (m : Nat) (G : Nat → Nat → Prop) (B : Nat → Nat → Prop) : Nat → Nat → Nat → Prop
  | 0, _, _ => True
  | f + 1, p, s => (isNm c n p → ((fnd on (tkC c n p) m = 0 → B 3 (tkS c n p)) ∧ (¬ fnd on (tkC c n p) m = 0 → (s.testBit (fnd on (tkC c n p) m - 1) = true → B 5 (tkS c n p)) ∧ (¬ s.testBit (fnd on (tkC c n p) m - 1) = true → excW c n on m G B f (tkE c n p) (s ||| 1 <<< (fnd on (tkC c n p) m - 1)))))) ∧ (¬ isNm c n p → stopW c n p (G (tkE c n p) s) B)
/-- behind a person's hold and whether it is out -/
def persT (c : Nat → Nat) (n r : Nat) (x : BSt) (a1 pn1 : Nat → Nat) (G : BSt → Prop) (B : Nat → Nat → Prop) : Prop :=
  (tkW c n r = 9 + 1 → excW c n x.2.2.1 (x.2.1 0) (fun p s => G (p, up1 a1 (16 + 4 * x.2.1 1 + 2) s, x.2.2.1, pn1, x.2.2.2.2)) B 7 (tkE c n r) 0) ∧ (¬ tkW c n r = 9 + 1 → stopW c n r (G (tkE c n r, a1, x.2.2.1, pn1, x.2.2.2.2)) B)
def persU (c : Nat → Nat) (n r : Nat) (x : BSt) (a1 pn1 : Nat → Nat) (G : BSt → Prop) (B : Nat → Nat → Prop) : Prop :=
  (tkW c n r = 8 + 1 → persT c n (tkE c n r) x (up1 a1 7 (x.2.1 7 ||| 1 <<< x.2.1 1)) pn1 G B) ∧ (¬ tkW c n r = 8 + 1 → persT c n r x a1 pn1 G B)
def persW (c : Nat → Nat) (n : Nat) (x : BSt) (G : BSt → Prop) (B : Nat → Nat → Prop) : Prop :=
  (x.2.1 1 = 8 → B 6 (tkS c n x.1)) ∧ (¬ x.2.1 1 = 8 →
    nmW c n (tkE c n x.1) ((takenP x (tkC c n (tkE c n x.1)) → B 3 (tkS c n (tkE c n x.1))) ∧ (¬ takenP x (tkC c n (tkE c n x.1)) →
      kwW c n (tkE c n (tkE c n x.1)) 7 (numW c n (tkE c n (tkE c n (tkE c n x.1))) 0 9 (persU c n (tkE c n (tkE c n (tkE c n (tkE c n x.1)))) x (comeA x.2.1 (tkV c n (tkE c n (tkE c n (tkE c n x.1))))) (up1 x.2.2.2.1 (x.2.1 1) (tkC c n (tkE c n x.1))) G B) B) B)) B)
def bliA (a : Nat → Nat) (u v : Nat) : Nat → Nat := up1 a (16 + 4 * (u - 1) + 3) (a (16 + 4 * (u - 1) + 3) ||| 1 <<< (v - 1))
def bliT (c : Nat → Nat) (n p u v : Nat) (x : BSt) (G : BSt → Prop) (B : Nat → Nat → Prop) : Prop :=
  (v = 0 → B 3 (tkS c n p)) ∧ (¬ v = 0 → (v = u → B 5 (tkS c n p)) ∧ (¬ v = u → stopW c n (tkE c n p) (G (tkE c n (tkE c n p), bliA x.2.1 u v, x.2.2.1, x.2.2.2.1, x.2.2.2.2)) B))
def bliW (c : Nat → Nat) (n : Nat) (x : BSt) (G : BSt → Prop) (B : Nat → Nat → Prop) : Prop :=
  nmW c n (tkE c n x.1) ((fnd x.2.2.2.1 (tkC c n (tkE c n x.1)) (x.2.1 1) = 0 → B 3 (tkS c n (tkE c n x.1))) ∧ (¬ fnd x.2.2.2.1 (tkC c n (tkE c n x.1)) (x.2.1 1) = 0 →
    nmW c n (tkE c n (tkE c n x.1)) (bliT c n (tkE c n (tkE c n x.1)) (fnd x.2.2.2.1 (tkC c n (tkE c n x.1)) (x.2.1 1)) (fnd x.2.2.2.1 (tkC c n (tkE c n (tkE c n x.1))) (x.2.1 1)) x G B) B)) B
def partW (c : Nat → Nat) (n : Nat) (x : BSt) (G : BSt → Prop) (B : Nat → Nat → Prop) : Prop :=
  (tkW c n x.1 = 0 + 1 → ruleW c n 0 1 9 x G B) ∧ (¬ tkW c n x.1 = 0 + 1 → (tkW c n x.1 = 1 + 1 → ruleW c n 1 0 3 x G B) ∧ (¬ tkW c n x.1 = 1 + 1 → (tkW c n x.1 = 2 + 1 → ruleW c n 2 0 16 x G B) ∧ (¬ tkW c n x.1 = 2 + 1 → (tkW c n x.1 = 3 + 1 → signW c n x G B) ∧ (¬ tkW c n x.1 = 3 + 1 → (tkW c n x.1 = 6 + 1 → persW c n x G B) ∧ (¬ tkW c n x.1 = 6 + 1 → (tkW c n x.1 = 10 + 1 → bliW c n x G B) ∧ (¬ tkW c n x.1 = 10 + 1 → B (badK c n x.1 2) (tkS c n x.1)))))))
def textW (c : Nat → Nat) (n : Nat) (G : BSt → Prop) (B : Nat → Nat → Prop) : Nat → BSt → Prop
  | 0, _ => True
  | f + 1, x => (tkK c n x.1 = 3 → G x) ∧ (¬ tkK c n x.1 = 3 → partW c n x (fun y => textW c n G B f y) B)
/-! one outcome -/
theorem det_rule (c : Nat → Nat) (n i lo hi : Nat) (x : BSt) : DetW (ruleW c n i lo hi x) := det_if (det_b _ _) (det_if (det_if (det_g _) (det_b _ _)) (det_b _ _))
theorem det_sign (c : Nat → Nat) (n : Nat) (x : BSt) : DetW (signW c n x) := det_if (det_b _ _) (det_if (det_if (det_b _ _) (det_if (det_if (det_if (det_if (det_g _) (det_b _ _)) (det_if (det_g _) (det_b _ _))) (det_b _ _)) (det_b _ _))) (det_b _ _))
theorem det_exc {c : Nat → Nat} {n : Nat} {on : Nat → Nat} {m : Nat} {g : Nat → Nat → BSt} : ∀ f p s, DetW (fun G B => excW c n on m (fun p s => G (g p s)) B f p s)
  | 0, _, _ => det_t
  | f + 1, p, s => det_if (det_if (det_b _ _) (det_if (det_b _ _) (det_exc f _ _))) (det_if (det_g _) (det_b _ _))
theorem det_persT (c : Nat → Nat) (n r : Nat) (x : BSt) (a1 pn1 : Nat → Nat) : DetW (persT c n r x a1 pn1) := det_if (det_exc (g := fun p s => (p, up1 a1 (16 + 4 * x.2.1 1 + 2) s, x.2.2.1, pn1, x.2.2.2.2)) 7 _ _) (det_if (det_g _) (det_b _ _))
theorem det_pers (c : Nat → Nat) (n : Nat) (x : BSt) : DetW (persW c n x) := det_if (det_b _ _) (det_if (det_if (det_b _ _) (det_if (det_if (det_if (det_persT _ _ _ _ _ _) (det_persT _ _ _ _ _ _)) (det_b _ _)) (det_b _ _))) (det_b _ _))
theorem det_bli (c : Nat → Nat) (n : Nat) (x : BSt) : DetW (bliW c n x) := det_if (det_if (det_b _ _) (det_if (det_if (det_b _ _) (det_if (det_b _ _) (det_if (det_g _) (det_b _ _)))) (det_b _ _))) (det_b _ _)
theorem det_part (c : Nat → Nat) (n : Nat) (x : BSt) : DetW (partW c n x) := det_if (det_rule _ _ _ _ _ _) (det_if (det_rule _ _ _ _ _ _) (det_if (det_rule _ _ _ _ _ _) (det_if (det_sign _ _ _) (det_if (det_pers _ _ _) (det_if (det_bli _ _ _) (det_b _ _))))))
theorem det_bind {S T : Type} {W : (S → Prop) → (Nat → Nat → Prop) → Prop} {V : S → (T → Prop) → (Nat → Nat → Prop) → Prop} (h1 : DetW W) (h2 : ∀ x, DetW (V x)) : DetW (fun G B => W (fun x => V x G B) B) := by
  obtain ⟨o, ho⟩ := h1
  match o, ho with
  | .inl (k, s), ho => exact ⟨.inl (k, s), fun G B g b => ho _ _ (fun x z => by cases z) (fun k' s' z => b k' s' (by cases z; rfl))⟩
  | .inr x, ho =>
    obtain ⟨o2, ho2⟩ := h2 x
    exact ⟨o2, fun G B g b => ho _ _ (fun y z => by cases z; exact ho2 G B g b) (fun k s z => by cases z)⟩
theorem det_text (c : Nat → Nat) (n : Nat) : ∀ f x, DetW (fun G B => textW c n G B f x)
  | 0, _ => det_t
  | f + 1, x => det_if (det_g _) (det_bind (V := fun y G B => textW c n G B f y) (det_part c n x) (fun y => det_text c n f y))
/-! what is read is well formed, and the place moves on -/
def WFb (x : BSt) : Prop := WB x.2.1 ∧ (∀ k, 16 + 4 * x.2.1 1 ≤ k → k < 48 → x.2.1 k = 0) ∧ (∀ k, 10 + x.2.1 0 ≤ k → k < 16 → x.2.1 k = 0) ∧ (x.2.1 5 = 0) ∧ (∀ o, o < x.2.1 0 → x.2.2.1 o < 32 ^ 8) ∧ (∀ p, p < x.2.1 1 → x.2.2.2.1 p < 32 ^ 8)
def GDb (n : Nat) (x y : BSt) : Prop := x.1 < y.1 ∧ y.1 ≤ n ∧ WFb y
theorem stopW_mono {c : Nat → Nat} {n p : Nat} {A A' : Prop} {B B' : Nat → Nat → Prop} (hA : isSt c n p → A → A') (hB : ∀ k s, B k s → B' k s) (h : stopW c n p A B) : stopW c n p A' B' := ⟨fun q => hA q (h.1 q), fun q => hB _ _ (h.2 q)⟩
theorem numW_mono {c : Nat → Nat} {n p lo hi : Nat} {A A' : Prop} {B B' : Nat → Nat → Prop} (hA : isNo c n p lo hi → A → A') (hB : ∀ k s, B k s → B' k s) (h : numW c n p lo hi A B) : numW c n p lo hi A' B' := ⟨fun q => hA q (h.1 q), fun q => hB _ _ (h.2 q)⟩
theorem nmW_mono {c : Nat → Nat} {n p : Nat} {A A' : Prop} {B B' : Nat → Nat → Prop} (hA : isNm c n p → A → A') (hB : ∀ k s, B k s → B' k s) (h : nmW c n p A B) : nmW c n p A' B' := ⟨fun q => hA q (h.1 q), fun q => hB _ _ (h.2 q)⟩
theorem kwW_mono {c : Nat → Nat} {n p w : Nat} {A A' : Prop} {B B' : Nat → Nat → Prop} (hA : tkW c n p = w + 1 → A → A') (hB : ∀ k s, B k s → B' k s) (h : kwW c n p w A B) : kwW c n p w A' B' := ⟨fun q => hA q (h.1 q), fun q => hB _ _ (h.2 q)⟩
theorem tkE_ge {c : Nat → Nat} {n p : Nat} (h : p ≤ n) : p ≤ tkE c n p ∧ tkE c n p ≤ n := ⟨Nat.le_trans (tkS_le h).1 (tkE_le h).1, (tkE_le h).2⟩
theorem st_gt {c : Nat → Nat} {n p : Nat} (h : p ≤ n) (hs : isSt c n p) : p < tkE c n p := tkE_gt h (by have := hs.1; omega)
theorem WFb_t {p q t u : Nat} {a on pn : Nat → Nat} (h : WFb (p, a, on, pn, t)) : WFb (q, a, on, pn, u) := h
theorem WFb_up {p t k v : Nat} {a on pn : Nat → Nat} (h : WFb (p, a, on, pn, t)) (hc : UPC a k v) (hk : ¬ k = 0) (hk1 : ¬ k = 1) (hk5 : ¬ k = 5) : WFb (p, up1 a k v, on, pn, t) := by
  obtain ⟨h1, h2, h3, h4, h5, h6⟩ := h
  have e0 : up1 a k v 0 = a 0 := if_neg (fun z => hk z.symm)
  have e1 : up1 a k v 1 = a 1 := if_neg (fun z => hk1 z.symm)
  have hr : k < 10 ∨ (10 ≤ k ∧ k < 10 + a 0) ∨ (16 ≤ k ∧ k < 16 + 4 * a 1) := by
    unfold UPC at hc
    rcases hc with z | z | z | z | z | z | z
    · omega
    · omega
    · omega
    · omega
    · omega
    · obtain ⟨o, z⟩ := z; omega
    · obtain ⟨o, z⟩ := z; omega
  have ha0 : a 0 ≤ 6 := h1.1.1.1
  refine ⟨WB_up h1 hc, fun j j1 j2 => ?_, fun j j1 j2 => ?_, ?_, fun o ho => h5 o (by show o < a 0; rw [← e0]; exact ho), fun o ho => h6 o (by show o < a 1; rw [← e1]; exact ho)⟩
  · have j1' : 16 + 4 * up1 a k v 1 ≤ j := j1
    rw [e1] at j1'
    show up1 a k v j = 0
    unfold up1
    rw [if_neg (by omega)]
    exact h2 j j1' j2
  · have j1' : 10 + up1 a k v 0 ≤ j := j1
    rw [e0] at j1'
    show up1 a k v j = 0
    unfold up1
    rw [if_neg (by omega)]
    exact h3 j j1' j2
  · show up1 a k v 5 = 0
    unfold up1
    rw [if_neg (fun z => hk5 z.symm)]
    exact h4
theorem up1_at {a : Nat → Nat} {k v : Nat} : up1 a k v k = v := if_pos rfl
theorem WFb_sign {p q t v e : Nat} {a on pn : Nat → Nat} (h : WFb (p, a, on, pn, t)) (h6 : a 0 < 6) (hv : 1 ≤ v) (hv5 : v ≤ 5) (he : e < 32 ^ 8) : WFb (q, signA a v, up1 on (a 0) e, pn, t) := by
  obtain ⟨⟨⟨⟨x0, x1, x2, x3, x4, x5, x6, x7, x8⟩, y, z⟩, w5, ws⟩, h2, h3, h4, h5, h6'⟩ := h
  have e0 : signA a v 0 = a 0 + 1 := up1_at
  have ej : ∀ j, ¬ j = 0 → ¬ j = 10 + a 0 → signA a v j = a j := fun j j1 j2 => by
    unfold signA up1; rw [if_neg j1, if_neg j2]
  have e10 : signA a v (10 + a 0) = v := by
    unfold signA up1; rw [if_neg (by omega), if_pos rfl]
  have p2 : (2 : Nat) ^ (a 0 + 1) = 2 ^ a 0 * 2 := rfl
  have b6 : a 0 ≤ 6 := x0
  have b8 : a 1 ≤ 8 := x1
  refine ⟨⟨⟨⟨?_, ?_, ?_, ?_, ?_, ?_, ?_, ?_, ?_⟩, fun o ho => ?_, fun q hq => ?_⟩, ?_, fun q hq => ?_⟩, fun k k1 k2 => ?_, fun k k1 k2 => ?_, ?_, fun o ho => ?_, fun q hq => ?_⟩
  all_goals dsimp only at *
  · rw [e0]; omega
  · rw [ej 1 (by omega) (by omega)]; exact x1
  · rw [ej 2 (by omega) (by omega)]; exact x2
  · rw [ej 2 (by omega) (by omega)]; exact x3
  · rw [ej 3 (by omega) (by omega)]; exact x4
  · rw [ej 4 (by omega) (by omega)]; exact x5
  · rw [ej 5 (by omega) (by omega)]; exact x6
  · rw [ej 6 (by omega) (by omega), e0, p2]; omega
  · rw [ej 7 (by omega) (by omega), ej 1 (by omega) (by omega)]; exact x8
  · rw [e0] at ho
    by_cases eo : o = a 0
    · rw [eo, e10]; exact ⟨hv, hv5⟩
    · rw [ej (10 + o) (by omega) (by omega)]; exact y o (by omega)
  · rw [ej 1 (by omega) (by omega)] at hq ⊢
    obtain ⟨z1, z2, z3, z4, z5⟩ := z q hq
    rw [ej (16 + 4 * q) (by omega) (by omega), ej (16 + 4 * q + 1) (by omega) (by omega), ej (16 + 4 * q + 2) (by omega) (by omega), ej (16 + 4 * q + 3) (by omega) (by omega), e0, p2]
    exact ⟨z1, z2, by omega, z4, z5⟩
  · rw [ej 5 (by omega) (by omega)]; exact w5
  · rw [ej 1 (by omega) (by omega)] at hq
    rw [ej _ (by omega) (by omega), ej 5 (by omega) (by omega)]; exact ws q hq
  · rw [ej 1 (by omega) (by omega)] at k1
    rw [ej _ (by omega) (by omega)]; exact h2 k k1 k2
  · rw [e0] at k1
    rw [ej _ (by omega) (by omega)]; exact h3 k (by omega) k2
  · rw [ej 5 (by omega) (by omega)]; exact h4
  · rw [e0] at ho
    unfold up1
    by_cases eo : o = a 0
    · rw [if_pos eo]; exact he
    · rw [if_neg eo]; exact h5 o (by omega)
  · rw [ej 1 (by omega) (by omega)] at hq
    exact h6' q hq
theorem WFb_come {p q t v e : Nat} {a on pn : Nat → Nat} (h : WFb (p, a, on, pn, t)) (h8 : a 1 < 8) (hv : v ≤ 9) (he : e < 32 ^ 8) : WFb (q, comeA a v, on, up1 pn (a 1) e, t) := by
  obtain ⟨⟨hW, w5, ws⟩, h2, h3, h4, h5, h6'⟩ := h
  have b6 : a 0 ≤ 6 := hW.1.1
  refine ⟨⟨WA_come hW h8 hv, ?_, fun q hq => ?_⟩, fun k k1 k2 => ?_, fun k k1 k2 => ?_, ?_, fun o ho => ?_, fun q hq => ?_⟩
  all_goals dsimp only at *
  · rw [comeA_lo (by omega) (by omega)]; exact w5
  · rw [comeA_1] at hq
    rw [comeA_lo (k := 5) (by omega) (by omega)]
    by_cases eq : q = a 1
    · rw [eq, comeA_z a v (by omega) (by omega)]; omega
    · rw [comeA_lo (by omega) (by omega)]; exact ws q (by omega)
  · rw [comeA_1] at k1
    unfold comeA
    rw [if_neg (by omega), if_neg (by omega), if_neg (by omega)]
    exact h2 k (by omega) k2
  · rw [comeA_lo (k := 0) (by omega) (by omega)] at k1
    rw [comeA_lo (by omega) (by omega)]
    exact h3 k k1 k2
  · rw [comeA_lo (by omega) (by omega)]; exact h4
  · rw [comeA_lo (by omega) (by omega)] at ho
    exact h5 o ho
  · rw [comeA_1] at hq
    unfold up1
    by_cases eo : q = a 1
    · rw [if_pos eo]; exact he
    · rw [if_neg eo]; exact h6' q (by omega)
theorem or_lt {x o m : Nat} (hx : x < 2 ^ m) (ho : o < m) : x ||| 1 <<< o < 2 ^ m := Nat.or_lt_two_pow hx (shl_lt ho)
theorem WFb_bli {p q t u v : Nat} {a on pn : Nat → Nat} (h : WFb (p, a, on, pn, t)) (hu : u < a 1) (hv : v < a 1) (hne : v ≠ u) : WFb (q, up1 a (16 + 4 * u + 3) (a (16 + 4 * u + 3) ||| 1 <<< v), on, pn, t) := by
  have z := h.1.1.2.2 u hu
  obtain ⟨z1, z2, z3, z4, z5⟩ := z
  have z4' : a (16 + 4 * u + 3) < 2 ^ a 1 := z4
  have z5' : (a (16 + 4 * u + 3)).testBit u = false := z5
  refine WFb_t (p := p) (t := t) (WFb_up h (Or.inr (Or.inr (Or.inr (Or.inr (Or.inr (Or.inr ⟨u, hu, Or.inr (Or.inr ⟨rfl, or_lt z4' hv, ?_⟩)⟩)))))) (by omega) (by omega) (by omega))
  rw [Nat.testBit_or, z5', tb_1shl, decide_eq_false (by omega)]; rfl
theorem ruleW_mono {c : Nat → Nat} {n i lo hi : Nat} {x : BSt} {G G' : BSt → Prop} {B B' : Nat → Nat → Prop} (hx : WFb x) (hp : x.1 ≤ n) (hi3 : i < 3) (hU : ∀ v, lo ≤ v → v ≤ hi → UPC x.2.1 (i + 2) v) (hB : ∀ k s, B k s → B' k s) (hG : ∀ y, GDb n x y → G y → G' y) (h : ruleW c n i lo hi x G B) : ruleW c n i lo hi x G' B' := by
  have e1 := tkE_ge (c := c) hp
  have e2 := tkE_ge (c := c) e1.2
  refine ⟨fun q => hB _ _ (h.1 q), fun q => numW_mono (fun q2 => stopW_mono (fun q3 => hG _ ⟨?_, (tkE_ge e2.2).2, ?_⟩) hB) hB (h.2 q)⟩
  · have := st_gt e2.2 q3
    dsimp only; omega
  · exact WFb_t (p := x.1) (t := x.2.2.2.2) (WFb_up hx (hU _ q2.2.1 q2.2.2) (by omega) (by omega) (by omega))
theorem signW_mono {c : Nat → Nat} {n : Nat} {x : BSt} {G G' : BSt → Prop} {B B' : Nat → Nat → Prop} (hx : WFb x) (hp : x.1 ≤ n) (hB : ∀ k s, B k s → B' k s) (hG : ∀ y, GDb n x y → G y → G' y) (h : signW c n x G B) : signW c n x G' B' := by
  have e1 := tkE_ge (c := c) hp
  have e2 := tkE_ge (c := c) e1.2
  have e3 := tkE_ge (c := c) e2.2
  have e4 := tkE_ge (c := c) e3.2
  have e5 := tkE_ge (c := c) e4.2
  have x0 : x.2.1 0 ≤ 6 := hx.1.1.1.1
  have x6 : x.2.1 6 < 2 ^ x.2.1 0 := hx.1.1.1.2.2.2.2.2.2.2.1
  refine ⟨fun q => hB _ _ (h.1 q), fun q => nmW_mono (fun _ h2 => ⟨fun q2 => hB _ _ (h2.1 q2), fun q2 => kwW_mono (fun _ => numW_mono (fun q4 h5 => ?_) hB) hB (h2.2 q2)⟩) hB (h.2 q)⟩
  have hw := WFb_sign (q := tkE c n (tkE c n (tkE c n (tkE c n (tkE c n x.1))))) hx (show x.2.1 0 < 6 by omega) q4.2.1 q4.2.2 (tkC_lt c n (tkE c n x.1))
  refine ⟨fun q5 => stopW_mono (fun q6 => hG _ ⟨?_, (tkE_ge e5.2).2, ?_⟩) hB (h5.1 q5), fun q5 => stopW_mono (fun q6 => hG _ ⟨?_, e5.2, hw⟩) hB (h5.2 q5)⟩
  · have := st_gt e5.2 q6
    dsimp only; omega
  · refine WFb_t (p := tkE c n (tkE c n (tkE c n (tkE c n (tkE c n x.1))))) (t := x.2.2.2.2) (WFb_up hw (Or.inr (Or.inr (Or.inr (Or.inl ⟨rfl, ?_⟩)))) (by omega) (by omega) (by omega))
    rw [show signA x.2.1 (tkV c n (tkE c n (tkE c n (tkE c n x.1)))) 0 = x.2.1 0 + 1 from up1_at]
    have : (2 : Nat) ^ (x.2.1 0 + 1) = 2 ^ x.2.1 0 * 2 := rfl
    exact or_lt (by omega) (by omega)
  · have := st_gt e4.2 q6
    dsimp only; omega
def cnt6 (s : Nat) : Nat := (s.testBit 0).toNat + (s.testBit 1).toNat + (s.testBit 2).toNat + (s.testBit 3).toNat + (s.testBit 4).toNat + (s.testBit 5).toNat
theorem cnt6_le (s : Nat) : cnt6 s ≤ 6 := by
  have h : ∀ b : Bool, b.toNat ≤ 1 := by decide
  have := h (s.testBit 0); have := h (s.testBit 1); have := h (s.testBit 2); have := h (s.testBit 3); have := h (s.testBit 4); have := h (s.testBit 5)
  unfold cnt6; omega
theorem cnt6_or : ∀ s, s < 64 → ∀ o, o < 6 → ¬ s.testBit o = true → cnt6 (s ||| 1 <<< o) = cnt6 s + 1 := by decide +kernel
theorem excW_mono {c : Nat → Nat} {n m : Nat} {on : Nat → Nat} {G G' : Nat → Nat → Prop} {B B' : Nat → Nat → Prop} (hm : m ≤ 6) (hB : ∀ k s, B k s → B' k s) : ∀ f p s, p ≤ n → s < 2 ^ m → (∀ q s, p < q → q ≤ n → s < 2 ^ m → G q s → G' q s) → excW c n on m G B f p s → excW c n on m G' B' f p s
  | 0, _, _, _, _, _, _ => trivial
  | f + 1, p, s, hp, hs, hG, h => by
    have e1 := tkE_ge (c := c) hp
    have hf := fnd_le on (tkC c n p) m
    refine ⟨fun q => ⟨fun q2 => hB _ _ ((h.1 q).1 q2), fun q2 => ⟨fun q3 => hB _ _ (((h.1 q).2 q2).1 q3), fun q3 => excW_mono hm hB f _ _ e1.2 (or_lt hs (by omega)) (fun q' s' z1 z2 z3 => hG q' s' (by omega) z2 z3) (((h.1 q).2 q2).2 q3)⟩⟩, fun q => stopW_mono (fun q2 => hG _ _ (st_gt hp q2) e1.2 hs) hB (h.2 q)⟩
theorem persT_mono {c : Nat → Nat} {n r : Nat} {x : BSt} {a1 pn1 : Nat → Nat} {G G' : BSt → Prop} {B B' : Nat → Nat → Prop} (hx : WFb x) (hr : r ≤ n) (hxr : x.1 ≤ r) (h8 : x.2.1 1 < 8) (e0 : a1 0 = x.2.1 0) (e1 : a1 1 = x.2.1 1 + 1) (hw : WFb (x.1, a1, x.2.2.1, pn1, x.2.2.2.2)) (hB : ∀ k s, B k s → B' k s) (hG : ∀ y, GDb n x y → G y → G' y) (h : persT c n r x a1 pn1 G B) : persT c n r x a1 pn1 G' B' := by
  have g1 := tkE_ge (c := c) hr
  have x0 : x.2.1 0 ≤ 6 := hx.1.1.1.1
  refine ⟨fun q => excW_mono x0 hB 7 _ _ g1.2 (Nat.pow_pos (by omega)) (fun q' s' z1 z2 z3 => hG _ ⟨by dsimp only; omega, z2, ?_⟩) (h.1 q), fun q => stopW_mono (fun q2 => hG _ ⟨?_, g1.2, hw⟩) hB (h.2 q)⟩
  · exact WFb_t (p := x.1) (t := x.2.2.2.2) (WFb_up hw (Or.inr (Or.inr (Or.inr (Or.inr (Or.inr (Or.inr ⟨x.2.1 1, by omega, Or.inr (Or.inl ⟨rfl, by rw [e0]; exact z3⟩)⟩)))))) (by omega) (by omega) (by omega))
  · have := st_gt hr q2
    dsimp only; omega
theorem persW_mono {c : Nat → Nat} {n : Nat} {x : BSt} {G G' : BSt → Prop} {B B' : Nat → Nat → Prop} (hx : WFb x) (hp : x.1 ≤ n) (hB : ∀ k s, B k s → B' k s) (hG : ∀ y, GDb n x y → G y → G' y) (h : persW c n x G B) : persW c n x G' B' := by
  have e1 := tkE_ge (c := c) hp
  have e2 := tkE_ge (c := c) e1.2
  have e3 := tkE_ge (c := c) e2.2
  have e4 := tkE_ge (c := c) e3.2
  have e5 := tkE_ge (c := c) e4.2
  have x0 : x.2.1 0 ≤ 6 := hx.1.1.1.1
  have x1 : x.2.1 1 ≤ 8 := hx.1.1.1.2.1
  have x7 : x.2.1 7 < 2 ^ x.2.1 1 := hx.1.1.1.2.2.2.2.2.2.2.2
  refine ⟨fun q => hB _ _ (h.1 q), fun q => nmW_mono (fun _ h2 => ⟨fun q2 => hB _ _ (h2.1 q2), fun q2 => kwW_mono (fun _ => numW_mono (fun q4 h5 => ?_) hB) hB (h2.2 q2)⟩) hB (h.2 q)⟩
  have hw := WFb_come (q := x.1) hx (show x.2.1 1 < 8 by omega) q4.2.2 (tkC_lt c n (tkE c n x.1))
  have c0 : comeA x.2.1 (tkV c n (tkE c n (tkE c n (tkE c n x.1)))) 0 = x.2.1 0 := comeA_lo (by omega) (by omega)
  refine ⟨fun q5 => persT_mono hx e5.2 (by omega) (by omega) ?_ ?_ ?_ hB hG (h5.1 q5), fun q5 => persT_mono hx e4.2 (by omega) (by omega) c0 rfl hw hB hG (h5.2 q5)⟩
  · rw [up1_f (by omega)]; exact c0
  · rw [up1_f (by omega)]; rfl
  · refine WFb_up hw (Or.inr (Or.inr (Or.inr (Or.inr (Or.inl ⟨rfl, ?_⟩))))) (by omega) (by omega) (by omega)
    rw [comeA_1]
    have : (2 : Nat) ^ (x.2.1 1 + 1) = 2 ^ x.2.1 1 * 2 := rfl
    exact or_lt (by omega) (by omega)
theorem bliW_mono {c : Nat → Nat} {n : Nat} {x : BSt} {G G' : BSt → Prop} {B B' : Nat → Nat → Prop} (hx : WFb x) (hp : x.1 ≤ n) (hB : ∀ k s, B k s → B' k s) (hG : ∀ y, GDb n x y → G y → G' y) (h : bliW c n x G B) : bliW c n x G' B' := by
  have e1 := tkE_ge (c := c) hp
  have e2 := tkE_ge (c := c) e1.2
  have e3 := tkE_ge (c := c) e2.2
  have f1 := fnd_le x.2.2.2.1 (tkC c n (tkE c n x.1)) (x.2.1 1)
  have f2 := fnd_le x.2.2.2.1 (tkC c n (tkE c n (tkE c n x.1))) (x.2.1 1)
  refine nmW_mono (fun _ h2 => ⟨fun q2 => hB _ _ (h2.1 q2), fun q2 => nmW_mono (fun _ h4 => ⟨fun q3 => hB _ _ (h4.1 q3), fun q3 => ⟨fun q4 => hB _ _ ((h4.2 q3).1 q4), fun q4 => stopW_mono (fun q5 => hG _ ⟨?_, (tkE_ge e3.2).2, ?_⟩) hB ((h4.2 q3).2 q4)⟩⟩) hB (h2.2 q2)⟩) hB h
  · have := st_gt e3.2 q5
    dsimp only; omega
  · exact WFb_bli hx (by omega) (by omega) (by omega)
theorem partW_mono {c : Nat → Nat} {n : Nat} {x : BSt} {G G' : BSt → Prop} {B B' : Nat → Nat → Prop} (hx : WFb x) (hp : x.1 ≤ n) (hB : ∀ k s, B k s → B' k s) (hG : ∀ y, GDb n x y → G y → G' y) (h : partW c n x G B) : partW c n x G' B' := by
  refine ⟨fun q => ruleW_mono hx hp (by omega) (fun v v1 v2 => Or.inl ⟨rfl, v1, v2⟩) hB hG (h.1 q), fun q => ⟨fun q1 => ruleW_mono hx hp (by omega) (fun v v1 v2 => Or.inr (Or.inl ⟨rfl, v2⟩)) hB hG ((h.2 q).1 q1), fun q1 => ⟨fun q2 => ruleW_mono hx hp (by omega) (fun v v1 v2 => Or.inr (Or.inr (Or.inl ⟨rfl, v2⟩))) hB hG (((h.2 q).2 q1).1 q2), fun q2 => ⟨fun q3 => signW_mono hx hp hB hG ((((h.2 q).2 q1).2 q2).1 q3), fun q3 => ⟨fun q4 => persW_mono hx hp hB hG (((((h.2 q).2 q1).2 q2).2 q3).1 q4), fun q4 => ⟨fun q5 => bliW_mono hx hp hB hG ((((((h.2 q).2 q1).2 q2).2 q3).2 q4).1 q5), fun q5 => hB _ _ ((((((h.2 q).2 q1).2 q2).2 q3).2 q4).2 q5)⟩⟩⟩⟩⟩⟩
