/-! boat, class and reference side by side. -/
def DetP {S : Type} (W : (S → Prop) → (Nat → Nat → Prop) → Prop) : Prop := ∃ o : (Nat × Nat) ⊕ S, (∀ k s, o = .inl (k, s) → 1 ≤ k ∧ k ≤ 9) ∧ ∀ G B, (∀ x, o = .inr x → G x) → (∀ k s, o = .inl (k, s) → B k s) → W G B
theorem dp_g {S : Type} (x : S) : DetP (fun G _ => G x) := ⟨.inr x, fun _ _ z => by (cases z), fun _ _ h _ => h x rfl⟩
theorem dp_b {S : Type} {k s : Nat} (h : 1 ≤ k ∧ k ≤ 9) : DetP (S := S) (fun _ B => B k s) := ⟨.inl (k, s), fun _ _ z => by (cases z; exact h), fun _ _ _ h => h k s rfl⟩
theorem dp_t {S : Type} : DetP (S := S) (fun _ _ => True) := ⟨.inl (1, 0), fun _ _ z => by (cases z; omega), fun _ _ _ _ => trivial⟩
theorem dp_if {S : Type} {P : Prop} {W V : (S → Prop) → (Nat → Nat → Prop) → Prop} (h1 : DetP W) (h2 : DetP V) : DetP (fun G B => (P → W G B) ∧ (¬ P → V G B)) := by
  by_cases h : P
  · obtain ⟨o, hp, ho⟩ := h1
    exact ⟨o, hp, fun G B g b => ⟨fun _ => ho G B g b, fun z => absurd h z⟩⟩
  · obtain ⟨o, hp, ho⟩ := h2
    exact ⟨o, hp, fun G B g b => ⟨fun z => absurd z h, fun _ => ho G B g b⟩⟩
theorem dp_bind {S T : Type} {W : (S → Prop) → (Nat → Nat → Prop) → Prop} {V : S → (T → Prop) → (Nat → Nat → Prop) → Prop} (h1 : DetP W) (h2 : ∀ x, DetP (V x)) : DetP (fun G B => W (fun x => V x G B) B) := by
  obtain ⟨o, hp, ho⟩ := h1
  match o, hp, ho with
  | .inl (k, s), hp, ho => exact ⟨.inl (k, s), fun k' s' z => by (cases z; exact hp k s rfl), fun G B g b => ho _ _ (fun x z => by (cases z)) (fun k' s' z => b k' s' (by (cases z; rfl)))⟩
  | .inr x, hp, ho =>
    obtain ⟨o2, hp2, ho2⟩ := h2 x
    exact ⟨o2, hp2, fun G B g b => ho _ _ (fun y z => by (cases z; exact ho2 G B g b)) (fun k s z => by (cases z))⟩
theorem bk2 (c : Nat → Nat) (n p : Nat) : 1 ≤ badK c n p 2 ∧ badK c n p 2 ≤ 9 := by unfold badK; split <;> omega
theorem bkn (c : Nat → Nat) (n p : Nat) : 1 ≤ noK c n p ∧ noK c n p ≤ 9 := by
  unfold noK
  split
  · omega
  · exact bk2 c n p
theorem dp_stop {S : Type} {c : Nat → Nat} {n p : Nat} {W : (S → Prop) → (Nat → Nat → Prop) → Prop} (h : DetP W) : DetP (fun G B => stopW c n p (W G B) B) := dp_if h (dp_b (bk2 c n p))
theorem dp_num {S : Type} {c : Nat → Nat} {n p lo hi : Nat} {W : (S → Prop) → (Nat → Nat → Prop) → Prop} (h : DetP W) : DetP (fun G B => numW c n p lo hi (W G B) B) := dp_if h (dp_b (bkn c n p))
theorem dp_nm {S : Type} {c : Nat → Nat} {n p : Nat} {W : (S → Prop) → (Nat → Nat → Prop) → Prop} (h : DetP W) : DetP (fun G B => nmW c n p (W G B) B) := dp_if h (dp_b (bk2 c n p))
theorem dp_kw {S : Type} {c : Nat → Nat} {n p w : Nat} {W : (S → Prop) → (Nat → Nat → Prop) → Prop} (h : DetP W) : DetP (fun G B => kwW c n p w (W G B) B) := dp_if h (dp_b (bk2 c n p))
theorem dp_rule (c : Nat → Nat) (n i lo hi : Nat) (x : BSt) : DetP (ruleW c n i lo hi x) := dp_if (dp_b (by omega)) (dp_num (dp_stop (dp_g _)))
theorem dp_sign (c : Nat → Nat) (n : Nat) (x : BSt) : DetP (signW c n x) := dp_if (dp_b (by omega)) (dp_nm (dp_if (dp_b (by omega)) (dp_kw (dp_num (dp_if (dp_stop (dp_g _)) (dp_stop (dp_g _)))))))
theorem dp_exc {c : Nat → Nat} {n : Nat} {on : Nat → Nat} {m : Nat} {g : Nat → Nat → BSt} : ∀ f p s, DetP (fun G B => excW c n on m (fun p s => G (g p s)) B f p s)
  | 0, _, _ => dp_t
  | f + 1, p, s => dp_if (dp_if (dp_b (by omega)) (dp_if (dp_b (by omega)) (dp_exc f _ _))) (dp_stop (dp_g _))
theorem dp_persT (c : Nat → Nat) (n r : Nat) (x : BSt) (a1 pn1 : Nat → Nat) : DetP (persT c n r x a1 pn1) := dp_if (dp_exc (g := fun p s => (p, up1 a1 (16 + 4 * x.2.1 1 + 2) s, x.2.2.1, pn1, x.2.2.2.2)) 7 _ _) (dp_stop (dp_g _))
theorem dp_pers (c : Nat → Nat) (n : Nat) (x : BSt) : DetP (persW c n x) := dp_if (dp_b (by omega)) (dp_nm (dp_if (dp_b (by omega)) (dp_kw (dp_num (dp_if (dp_persT _ _ _ _ _ _) (dp_persT _ _ _ _ _ _))))))
theorem dp_bli (c : Nat → Nat) (n : Nat) (x : BSt) : DetP (bliW c n x) := dp_nm (dp_if (dp_b (by omega)) (dp_nm (dp_if (dp_b (by omega)) (dp_if (dp_b (by omega)) (dp_stop (dp_g _))))))
theorem dp_part (c : Nat → Nat) (n : Nat) (x : BSt) : DetP (partW c n x) := dp_if (dp_rule _ _ _ _ _ _) (dp_if (dp_rule _ _ _ _ _ _) (dp_if (dp_rule _ _ _ _ _ _) (dp_if (dp_sign _ _ _) (dp_if (dp_pers _ _ _) (dp_if (dp_bli _ _ _) (dp_b (bk2 c n x.1)))))))
theorem dp_text (c : Nat → Nat) (n : Nat) : ∀ f x, DetP (fun G B => textW c n G B f x)
  | 0, _ => dp_t
  | f + 1, x => dp_if (dp_g _) (dp_bind (V := fun y G B => textW c n G B f y) (dp_part c n x) (fun y => dp_text c n f y))
theorem textW_wf {c : Nat → Nat} {n : Nat} {G : BSt → Prop} {B : Nat → Nat → Prop} : ∀ f x, WFb x → x.1 ≤ n → textW c n (fun y => WFb y → G y) B f x → textW c n G B f x
  | 0, _, _, _, _ => trivial
  | f + 1, x, hx, hp, h => ⟨fun q => h.1 q hx, fun q => partW_mono hx hp (fun _ _ hb => hb) (fun y hy hg => textW_wf f y hy.2.2 hy.2.1 hg) (h.2 q)⟩
/-- a text that was refused -/
theorem INV_txt {mi mi' : Nat → Nat → Int32} {ml ml' : Nat → Nat → Int64} (h : INV mi ml) (hf : ∀ k j, ¬ scr k j → ¬ (k = 46 ∧ 9 ≤ j) → ¬ (k = 0 ∧ j = 1) → ¬ (k = 106 ∧ (j = 10 ∨ j = 16 ∨ j = 17)) → mi' k j = mi k j) (hl : frL ml ml') (hs : mi' 0 0 = mi' 106 2) (h9 : mi' 46 9 = mi' 106 16) (h10 : mi' 46 10 = mi' 106 17) (t1 : mi' 0 1 = nI 0) (t2 : mi' 106 10 = nI 0) : INV mi' ml' := by
  obtain ⟨g1, g2, g3, g4, g5, ⟨a, g6⟩, g7, g8, g9⟩ := h
  unfold scr at hf
  unfold frL scl at hl
  refine ⟨hs, ?_, ⟨h9, h10⟩, ⟨0, by omega, t1, t2, fun i hi => absurd hi (Nat.not_lt_zero _)⟩, R_tr_fr g5 (fun k j z => hf k j (by omega) (by omega) (by omega) (by omega)) (fun k j z => hl k j (by omega)), ⟨a, BY_fr g6 (fun k j z => by unfold BYc at z; exact hf k j (by omega) (by omega) (by omega) (by omega)) (fun k j z => hl k j (by omega))⟩, R_kept_fr g7 (fun k j z => hf k j (by omega) (by omega) (by omega) (by omega)) (fun k j z => hl k j (by omega)), R_life_fr g8 (fun k j z => hf k j (by omega) (by omega) (by omega) (by omega)), R_cst_fr g9 (fun k j z => hl k j (by omega))⟩
  rw [hl 11 0 (by omega), hl 106 3 (by omega), hl 11 1 (by omega), hl 106 4 (by omega)]; exact g2
theorem tape_c {mi : Nat → Nat → Int32} {tl : Nat} (t4 : ∀ i, i < tl → ∃ c, c < 256 ∧ mi 1 i = nI c ∧ mi 112 i = byt (nI c)) : ∃ c : Nat → Nat, ∀ i, i < tl → c i < 256 ∧ mi 1 i = nI (c i) ∧ mi 112 i = byt (nI (c i)) := by
  refine ⟨fun i => if h : i < tl then (t4 i h).choose else 0, fun i hi => ?_⟩
  dsimp only
  rw [dif_pos hi]
  exact (t4 i hi).choose_spec
theorem op_boat {E : am_E} {K : am_K} {mi : Nat → Nat → Int32} {ml : Nat → Nat → Int64} (hI : INV mi ml) (hE : EK E) {u : Int32} (hk : PR 228 [.ref 106, .int u] E K) : cq E 14 126 [.ref 0, .int u] K mi ml := by
  obtain ⟨i1, i2, i3, ⟨tl, t1, t2, t3, t4⟩, i5, ⟨a, hB⟩, i7, i8, i9⟩ := id hI
  obtain ⟨c, hc⟩ := tape_c t4
  apply en_X9_boat (d := 6)
  rw [t2]
  by_cases hu : ∃ n, n < tl + 1 ∧ u = nI n
  case neg =>
    have rb : ∀ (A B : Prop), A → (u < nI 0 → A) ∧ (¬ u < nI 0 → ((nI tl < u → A) ∧ (¬ nI tl < u → B))) := fun A B hA => by
      have := rng_bd2 (B := B) (n := tl + 1) (by omega) (by omega) hu hA
      rw [Nat.add_sub_cancel] at this
      exact this
    refine rb _ _ ?_
    refine hk _ _ _ (fun Km hm => ?_)
    apply en_X10_boat (d := 2)
    apply s_begins (n := 0) (c := c) (d := 10) t1 (Nat.le_refl 900) (by rw [s106]; exact t3) (fun i hi => ⟨(hc i hi).1, by rw [si_f (by omega)]; exact (hc i hi).2.2⟩)
    case h1 => exact fun n en hn => absurd ⟨n, by omega, en⟩ hu
    intro _
    apply rg_X10_boat_8
    exact br_f (fun z => z rfl) (hm _ _ (INV_cm hI fr0_rfl fr0_rfl))
  obtain ⟨n, hn, rfl⟩ := hu
  have hnt : n ≤ tl := by omega
  rw [ni_lt (by omega) (by omega), ni_lt (by omega) (by omega)]
  refine br_f (by omega) (br_f (by omega) ?_)
  obtain ⟨o, hpos, ho⟩ := dp_text c n (n + 1) x00
  match o, hpos, ho with
  | .inl (k, s), hpos, ho =>
    have kp := hpos k s rfl
    apply s_readTextB (d := 6) (c := c) (by omega) (fun i hi => ⟨(hc i (by omega)).1, (hc i (by omega)).2.1⟩) i9
    refine ho _ _ (fun x z => by (cases z)) (fun k' s' z => ?_)
    obtain ⟨rfl, rfl⟩ : k = k' ∧ s = s' := by (cases z; exact ⟨rfl, rfl⟩)
    intro m1 l1 f1 f2 hf
    apply rg_X9_boat_26 (d := 6)
    refine br_f (fun z => z rfl) ?_
    refine hk _ _ _ (fun Km hm => ?_)
    have e1 : ∀ k j, k ≠ 0 → ¬ (28 ≤ k ∧ k ≤ 36) → ¬ (k = 46 ∧ 2 ≤ j) → ¬ (k = 48 ∧ j = 2) → am_si (am_si m1 0 1 (nI 0)) 0 0 (nI 9) k j = mi k j := fun k j z0 z1 z2 z3 => by
      rw [si_f (by omega), si_f (by omega), f1 k j z1 (by omega) z3, si_f (by omega)]
    apply s_boatM (d := 2) (c := c) (tl := tl) hE t1 (by rw [e1 106 10 (by omega) (by omega) (by omega) (by omega)]; exact t3) (fun i hi => ⟨(hc i hi).1, by rw [e1 112 i (by omega) (by omega) (by omega) (by omega)]; exact (hc i hi).2.2⟩) hnt
    refine ho _ _ (fun x z => by (cases z)) (fun k' s' z => ?_)
    obtain ⟨rfl, rfl⟩ : k = k' ∧ s = s' := by (cases z; exact ⟨rfl, rfl⟩)
    refine ⟨kp, fun m2 l2 g1 g2 q1 q2 q3 q4 => hm _ _ (INV_txt hI (fun k j z1 z2 z3 z4 => ?_) (fun k j z => ?_) ?_ ?_ ?_ ?_ q4)⟩
    · unfold scr at z1
      rw [g1 k j (by unfold bscr; omega)]
      by_cases e0 : k = 0
      · rw [si_f (by omega), si_f (by omega), f1 k j (by omega) (by omega) (by omega), si_f (by omega)]
      · exact e1 k j e0 (by omega) (by omega) (by omega)
    · unfold scl at z
      rw [g2 k j (by omega), f2 k j (by omega) (by omega)]
    · rw [q3, g1 0 0 (by unfold bscr; omega), si_t ⟨rfl, rfl⟩]
    · rw [q1, g1 46 9 (by unfold bscr; omega), si_f (by omega), si_f (by omega)]; exact hf.1
    · rw [q2, g1 46 10 (by unfold bscr; omega), si_f (by omega), si_f (by omega)]; exact hf.2
    · rw [g1 0 1 (by unfold bscr; omega), si_f (by omega), si_t ⟨rfl, rfl⟩]
  | .inr x, hpos, ho =>
    apply s_readTextB (d := 6) (c := c) (by omega) (fun i hi => ⟨(hc i (by omega)).1, (hc i (by omega)).2.1⟩) i9
    refine textW_wf _ _ WFb_00 (Nat.zero_le _) (ho _ _ (fun y z => ?_) (fun k s z => by (cases z)))
    obtain rfl : x = y := by (cases z; rfl)
    intro hx m1 l1 hC
    obtain ⟨f1, f2, ⟨r1, r2, r3, -⟩, -, nf1, nf2⟩ := hC
    have hW : WA x.2.1 := hx.1.1
    have x0 : x.2.1 0 ≤ 6 := hW.1.1
    have x1 : x.2.1 1 ≤ 8 := hW.1.2.1
    apply rg_X9_boat_26 (d := 6)
    refine br_t n10 ?_
    apply s_copyFrom (d := 12) bt_12 bt_28 (by omega)
    intro m2 l2 c1 c2
    apply rg_X9_boat_54 (d := 6)
    apply en_X7_forget (d := 12) yr_21
    apply rg_X9_boat_61 (d := 6)
    have e12 : ∀ i j, TB i j → am_si (am_si (am_si (am_si m2 21 0 (nI 0)) 21 1 (nI 0)) 21 2 (nI 0)) 0 0 (nI 0) (12 + i) j = m1 (28 + i) j := fun i j t => by
      have t' := t
      unfold TB at t'
      rw [si_f (by omega), si_f (by omega), si_f (by omega), si_f (by omega), CPF_t c1 t, si_f (by omega)]
    have e125 : am_si (am_si (am_si m2 21 0 (nI 0)) 21 1 (nI 0)) 21 2 (nI 0) 12 5 = nI (x.2.1 1) := by
      have := CPF_t (i := 0) (j := 5) c1 (by unfold TB; omega)
      rw [si_f (by omega), si_f (by omega), si_f (by omega), show (12 : Nat) = 12 + 0 from rfl, this, si_f (by omega)]
      exact r1.1.2.2.2.2.2.1
    rw [e125]
    refine hk _ _ _ (fun Km hm => ?_)
    have e1 : ∀ k j, k ≠ 0 → ¬ (12 ≤ k ∧ k ≤ 20) → k ≠ 21 → ¬ (28 ≤ k ∧ k ≤ 36) → ¬ (k = 46 ∧ 2 ≤ j) → ¬ (k = 48 ∧ j = 2) → am_si (am_si (am_si (am_si m2 21 0 (nI 0)) 21 1 (nI 0)) 21 2 (nI 0)) 0 0 (nI 0) k j = mi k j := fun k j z0 z4 z5 z1 z2 z3 => by
      rw [si_f (by omega), si_f (by omega), si_f (by omega), si_f (by omega), CPF_f c1 T9_B (by omega), si_f (by omega), f1 k j z1 (by omega) z3, si_f (by omega)]
    have e46 : ∀ j, am_si (am_si (am_si (am_si m2 21 0 (nI 0)) 21 1 (nI 0)) 21 2 (nI 0)) 0 0 (nI 0) 46 j = m1 46 j := fun j => by
      rw [si_f (by omega), si_f (by omega), si_f (by omega), si_f (by omega), CPF_f c1 T9_B (by omega), si_f (by omega)]
    have e01 : am_si (am_si (am_si (am_si m2 21 0 (nI 0)) 21 1 (nI 0)) 21 2 (nI 0)) 0 0 (nI 0) 0 1 = nI 0 := by
      rw [si_f (by omega), si_f (by omega), si_f (by omega), si_f (by omega), CPF_f c1 T9_B (by omega), si_t ⟨rfl, rfl⟩]
    have e02 : am_si (am_si (am_si (am_si m2 21 0 (nI 0)) 21 1 (nI 0)) 21 2 (nI 0)) 0 0 (nI 0) 0 2 = mi 0 2 := by
      rw [si_f (by omega), si_f (by omega), si_f (by omega), si_f (by omega), CPF_f c1 T9_B (by omega), si_f (by omega), f1 0 2 (by omega) (by omega) (by omega), si_f (by omega)]
    have e210 : am_si (am_si (am_si (am_si m2 21 0 (nI 0)) 21 1 (nI 0)) 21 2 (nI 0)) 0 0 (nI 0) 21 0 = nI 0 := by
      rw [si_f (by omega), si_f (by omega), si_f (by omega), si_t ⟨rfl, rfl⟩]
    have e212 : am_si (am_si (am_si (am_si m2 21 0 (nI 0)) 21 1 (nI 0)) 21 2 (nI 0)) 0 0 (nI 0) 21 2 = nI 0 := by
      rw [si_f (by omega), si_t ⟨rfl, rfl⟩]
    have e00 : am_si (am_si (am_si (am_si m2 21 0 (nI 0)) 21 1 (nI 0)) 21 2 (nI 0)) 0 0 (nI 0) 0 0 = nI 0 := si_t ⟨rfl, rfl⟩
    generalize am_si (am_si (am_si (am_si m2 21 0 (nI 0)) 21 1 (nI 0)) 21 2 (nI 0)) 0 0 (nI 0) = m3 at *
    apply s_boatM (d := 2) (c := c) (tl := tl) hE t1 (by rw [e1 106 10 (by omega) (by omega) (by omega) (by omega) (by omega) (by omega)]; exact t3) (fun i hi => ⟨(hc i hi).1, by rw [e1 112 i (by omega) (by omega) (by omega) (by omega) (by omega) (by omega)]; exact (hc i hi).2.2⟩) hnt
    refine ho _ _ (fun y z => ?_) (fun k s z => by (cases z))
    obtain rfl : x = y := by (cases z; rfl)
    intro m4 l4 g1 g2 hMS h8 hN0 hN6 q16 q17 q2 q10
    have F : ∀ k j, ¬ bscr k j → ¬ (k = 107 ∧ j < 416) → k ≠ 0 → ¬ (12 ≤ k ∧ k ≤ 20) → k ≠ 21 → ¬ (28 ≤ k ∧ k ≤ 36) → ¬ (k = 46 ∧ 2 ≤ j) → ¬ (k = 48 ∧ j = 2) → m4 k j = mi k j := fun k j z1 z2 z3 z4 z5 z6 z7 z8 => by
      rw [g1 k j z1 z2]; exact e1 k j z3 z4 z5 z6 z7 z8
    have G : ∀ k j, ¬ (k = 108 ∧ (j < 14 ∨ 56 ≤ j)) → ¬ (12 ≤ k ∧ k ≤ 20) → ¬ (28 ≤ k ∧ k ≤ 36) → ¬ (k = 46 ∧ j = 7) → l4 k j = ml k j := fun k j z1 z2 z3 z4 => by
      rw [g2 k j z1, CPF_f c2 T9_L (by omega), f2 k j z3 z4]
    have lN1 : ∀ i j, TL i j → l4 (12 + i) j = l1 (28 + i) j := fun i j t => by
      have t' := t
      unfold TL at t'
      rw [g2 _ _ (by omega), CPF_t c2 t]
    refine hm _ _ ⟨?_, ?_, ?_, ⟨0, by omega, ?_, q10, fun i hi => absurd hi (Nat.not_lt_zero _)⟩, R_tr_fr i5 (fun k j z => F k j (by unfold bscr; omega) (by omega) (by omega) (by omega) (by omega) (by omega) (by omega) (by omega)) (fun k j z => G k j (by omega) (by omega) (by omega) (by omega)), ⟨x.2.1, hx.1, CB_eq r1 hW (fun i j t => ?_), hMS, ⟨fun o ho => ?_, fun p hp => ?_⟩, Or.inl ⟨?_, ?_, 0, by omega, ?_⟩⟩, R_kept_fr i7 (fun k j z => ?_) (fun k j z => G k j (by omega) (by omega) (by omega) (by omega)), R_life_fr i8 (fun k j z => F k j (by unfold bscr; omega) (by omega) (by omega) (by omega) (by omega) (by omega) (by omega) (by omega)), R_cst_fr i9 (fun k j z => G k j (by omega) (by omega) (by omega) (by omega))⟩
    · rw [q2, g1 0 0 (by unfold bscr; omega) (by omega)]; exact e00
    · rw [G 11 0 (by omega) (by omega) (by omega) (by omega), G 106 3 (by omega) (by omega) (by omega) (by omega), G 11 1 (by omega) (by omega) (by omega) (by omega), G 106 4 (by omega) (by omega) (by omega) (by omega)]; exact i2
    · rw [q16, q17, g1 46 9 (by unfold bscr; omega) (by omega), g1 46 10 (by unfold bscr; omega) (by omega), e46, e46]; exact ⟨nf1, nf2⟩
    · rw [g1 0 1 (by unfold bscr; omega) (by omega)]; exact e01
    · have t' := t
      unfold TB at t'
      rw [g1 _ _ (by unfold bscr; omega) (by omega)]; exact e12 i j t
    · refine ⟨x.2.2.1 o, (hN0 o ho).1, ?_, (hN0 o ho).2⟩
      rw [lN1 2 o (by unfold TL; omega)]; exact r2 o ho
    · refine ⟨x.2.2.2.1 p, (hN6 p hp).1, ?_, ?_⟩
      · rw [lN1 7 p (by unfold TL; omega)]; exact r3 p hp
      · rw [Nat.zero_add]; exact (hN6 p hp).2
    · rw [g1 21 0 (by unfold bscr; omega) (by omega)]; exact e210
    · rw [Nat.zero_add]; exact h8
    · rw [g1 21 2 (by unfold bscr; omega) (by omega)]; exact e212
    · by_cases e0 : k = 0
      · have : j = 2 := by omega
        subst e0 this
        rw [g1 0 2 (by unfold bscr; omega) (by omega)]; exact e02
      · exact F k j (by unfold bscr; omega) (by omega) e0 (by omega) (by omega) (by omega) (by omega) (by omega)
