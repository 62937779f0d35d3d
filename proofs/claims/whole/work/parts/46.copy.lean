/-! Boats and years copied; calls ahead; marks. -/
def CPF {α : Type} (b b1 : Nat) (T : Nat → Nat → Prop) (f g : Nat → Nat → α) : Prop := ∀ k j, (b ≤ k ∧ T (k - b) j → g k j = f (b1 + (k - b)) j) ∧ (¬ (b ≤ k ∧ T (k - b) j) → g k j = f k j)
def T9 (T : Nat → Nat → Prop) : Prop := ∀ i j, T i j → i < 9
theorem CPF_0 {α : Type} {b b1 : Nat} {f : Nat → Nat → α} : CPF b b1 (fun _ _ => False) f f := fun _ _ => ⟨fun h => h.2.elim, fun _ => rfl⟩
theorem T9_0 : T9 (fun _ _ => False) := fun _ _ h => h.elim
theorem T9_si {T : Nat → Nat → Prop} {n : Nat} (h : T9 T) : T9 (fun i j => T i j ∨ (i = 0 ∧ j = n)) := fun i j q => by
  rcases q with q | q
  · exact h i j q
  · omega
theorem T9_sc {T : Nat → Nat → Prop} {c N : Nat} (h : T9 T) (hc : c < 9) : T9 (fun i j => T i j ∨ (i = c ∧ j < N)) := fun i j q => by
  rcases q with q | q
  · exact h i j q
  · omega
theorem CPF_si {b b1 n : Nat} {T : Nat → Nat → Prop} {f g : Nat → Nat → Int32} (h : CPF b b1 T f g) (hT : T9 T) (hd : b + 9 ≤ b1 ∨ b1 + 9 ≤ b) : CPF b b1 (fun i j => T i j ∨ (i = 0 ∧ j = n)) f (am_si g b n (g b1 n)) := by
  intro k j
  have e1 : g b1 n = f b1 n := (h b1 n).2 (fun q => by have := hT _ _ q.2; omega)
  by_cases e : k = b ∧ j = n
  · rw [si_t e, e1]
    obtain ⟨rfl, rfl⟩ := e
    exact ⟨fun _ => by rw [Nat.sub_self]; rfl, fun q => absurd ⟨Nat.le_refl _, Or.inr ⟨Nat.sub_self _, rfl⟩⟩ q⟩
  · rw [si_f e]
    refine ⟨fun q => (h k j).1 ⟨q.1, ?_⟩, fun q => (h k j).2 (fun z => q ⟨z.1, Or.inl z.2⟩)⟩
    rcases q.2 with z | z
    · exact z
    · exact absurd ⟨by omega, z.2⟩ e
theorem CPF_sc {α : Type} {b b1 c N : Nat} {T : Nat → Nat → Prop} {f g : Nat → Nat → α} (h : CPF b b1 T f g) (hT : T9 T) (hd : b + 9 ≤ b1 ∨ b1 + 9 ≤ b) (hc : c < 9) (hTc : ∀ j, ¬ T c j) {z n : Nat} (hz : z = 0) (hn : n = N) : CPF b b1 (fun i j => T i j ∨ (i = c ∧ j < N)) f (am_sc g (b + c) (va_cpy (g (b1 + c)) (g (b + c)) z z n)) := by
  subst hz hn
  intro k j
  by_cases e : k = b + c
  · subst e
    rw [sc_t rfl]
    have ec : b + c - b = c := by omega
    rw [ec]
    unfold va_cpy
    by_cases hj : j < n
    · rw [if_pos (by omega)]
      have e1 : g (b1 + c) (0 + (j - 0)) = f (b1 + c) j := by
        rw [Nat.zero_add, Nat.sub_zero]
        exact (h (b1 + c) j).2 (fun q => by have := hT _ _ q.2; omega)
      exact ⟨fun _ => e1, fun q => absurd ⟨by omega, Or.inr ⟨rfl, hj⟩⟩ q⟩
    · rw [if_neg (by omega)]
      refine ⟨fun q => ?_, fun _ => (h (b + c) j).2 (fun q => hTc j (by have := q.2; rw [ec] at this; exact this))⟩
      rcases q.2 with z | z
      · exact absurd z (hTc j)
      · omega
  · rw [sc_f e]
    refine ⟨fun q => (h k j).1 ⟨q.1, ?_⟩, fun q => (h k j).2 (fun z => q ⟨z.1, Or.inl z.2⟩)⟩
    rcases q.2 with z | z
    · exact z
    · omega
theorem CPF_cg {α : Type} {b b1 : Nat} {T T' : Nat → Nat → Prop} {f g : Nat → Nat → α} (h : CPF b b1 T f g) (hT : ∀ i j, T i j ↔ T' i j) : CPF b b1 T' f g := fun k j => by
  rw [← hT]; exact h k j
theorem CPF_t {α : Type} {b b1 : Nat} {T : Nat → Nat → Prop} {f g : Nat → Nat → α} (h : CPF b b1 T f g) {i j : Nat} (q : T i j) : g (b + i) j = f (b1 + i) j := by
  have e : b + i - b = i := by omega
  have := (h (b + i) j).1 ⟨by omega, by rw [e]; exact q⟩
  rw [e] at this
  exact this
theorem CPF_f {α : Type} {b b1 : Nat} {T : Nat → Nat → Prop} {f g : Nat → Nat → α} (h : CPF b b1 T f g) (hT : T9 T) {k j : Nat} (q : k < b ∨ b + 9 ≤ k) : g k j = f k j := (h k j).2 (fun z => by have := hT _ _ z.2; omega)
def TB (i j : Nat) : Prop := (i = 0 ∧ j < 8) ∨ (i = 1 ∧ j < 6) ∨ (3 ≤ i ∧ i ≤ 6 ∧ j < 8)
def TL (i j : Nat) : Prop := (i = 2 ∧ j < 6) ∨ (i = 7 ∧ j < 8)
def TY (n i j : Nat) : Prop := (i = 0 ∧ j < 3) ∨ (1 ≤ i ∧ i ≤ 6 ∧ j < n)
theorem T9_B : T9 TB := fun i j h => by unfold TB at h; omega
theorem T9_L : T9 TL := fun i j h => by unfold TL at h; omega
theorem T9_Y (n : Nat) : T9 (TY n) := fun i j h => by unfold TY at h; omega
theorem bt_far {b b1 : Nat} (hb : bt b) (hb1 : bt b1) (hne : b ≠ b1) : b + 9 ≤ b1 ∨ b1 + 9 ≤ b := by unfold bt at hb hb1; omega
theorem yr_far {b b1 : Nat} (hb : yr b) (hb1 : yr b1) (hne : b ≠ b1) : b + 9 ≤ b1 ∨ b1 + 9 ≤ b := by unfold yr at hb hb1; omega
theorem s_copyFrom {E : am_E} {d : Nat} {K : am_K} {mi : Nat → Nat → Int32} {ml : Nat → Nat → Int64} {b b1 : Nat} (hb : bt b) (hb1 : bt b1) (hne : b ≠ b1) (hk : ∀ mi' ml', CPF b b1 TB mi mi' → CPF b b1 TL ml ml' → K none (S0, mi', ml')) : cq E (d + 1) 6 [.ref b, .ref b1] K mi ml := by
  have hd := bt_far hb hb1 hne
  apply en_X0_copyFrom hb hb1
  have h1 := CPF_si (n := 0) (CPF_0 (f := mi)) T9_0 hd
  have t1 := T9_si (n := 0) T9_0
  generalize am_si mi b 0 (mi b1 0) = M1 at *
  apply rg_X0_copyFrom_8 hb hb1
  have h2 := CPF_si (n := 1) h1 t1 hd
  have t2 := T9_si (n := 1) t1
  generalize am_si M1 b 1 (M1 b1 1) = M2 at *
  apply rg_X0_copyFrom_16 hb hb1
  have h3 := CPF_si (n := 2) h2 t2 hd
  have t3 := T9_si (n := 2) t2
  generalize am_si M2 b 2 (M2 b1 2) = M3 at *
  apply rg_X0_copyFrom_24 hb hb1
  have h4 := CPF_si (n := 3) h3 t3 hd
  have t4 := T9_si (n := 3) t3
  generalize am_si M3 b 3 (M3 b1 3) = M4 at *
  apply rg_X0_copyFrom_32 hb hb1
  have h5 := CPF_si (n := 4) h4 t4 hd
  have t5 := T9_si (n := 4) t4
  generalize am_si M4 b 4 (M4 b1 4) = M5 at *
  apply rg_X0_copyFrom_40 hb hb1
  have h6 := CPF_si (n := 5) h5 t5 hd
  have t6 := T9_si (n := 5) t5
  generalize am_si M5 b 5 (M5 b1 5) = M6 at *
  apply rg_X0_copyFrom_48 hb hb1
  have h7 := CPF_si (n := 6) h6 t6 hd
  have t7 := T9_si (n := 6) t6
  generalize am_si M6 b 6 (M6 b1 6) = M7 at *
  apply rg_X0_copyFrom_56 hb hb1
  have h8 := CPF_si (n := 7) h7 t7 hd
  have t8 := T9_si (n := 7) t7
  generalize am_si M7 b 7 (M7 b1 7) = M8 at *
  have h9 := CPF_cg (T' := fun i j => i = 0 ∧ j < 8) h8 (fun i j => by simp only [false_or]; omega)
  have t9 : T9 (fun i j => i = 0 ∧ j < 8) := fun i j q => by omega
  have z0 : Int32.toNatClampNeg (nI 0) = 0 := ni_cl (by omega)
  have z6 : Int32.toNatClampNeg (nI 6) = 6 := ni_cl (by omega)
  have z8 : Int32.toNatClampNeg (nI 8) = 8 := ni_cl (by omega)
  apply rg_X0_copyFrom_64 hb hb1
  have ha := CPF_sc (c := 1) (N := 6) h9 t9 hd (by omega) (fun j q => by omega) z0 z6
  have ta := T9_sc (c := 1) (N := 6) t9 (by omega)
  generalize am_sc M8 (b + 1) _ = Ma at *
  apply rg_X0_copyFrom_79 hb hb1
  have g1 := CPF_sc (c := 2) (N := 6) (CPF_0 (f := ml)) T9_0 hd (by omega) (fun j q => q) z0 z6
  have u1 := T9_sc (c := 2) (N := 6) T9_0 (by omega)
  generalize am_sc ml (b + 2) _ = L1 at *
  apply rg_X0_copyFrom_94 hb hb1
  have hb' := CPF_sc (c := 3) (N := 8) ha ta hd (by omega) (fun j q => by omega) z0 z8
  have tb' := T9_sc (c := 3) (N := 8) ta (by omega)
  generalize am_sc Ma (b + 3) _ = Mb at *
  apply rg_X0_copyFrom_109 hb hb1
  have hc := CPF_sc (c := 4) (N := 8) hb' tb' hd (by omega) (fun j q => by omega) z0 z8
  have tc := T9_sc (c := 4) (N := 8) tb' (by omega)
  generalize am_sc Mb (b + 4) _ = Mc at *
  apply rg_X0_copyFrom_124 hb hb1
  have hd' := CPF_sc (c := 5) (N := 8) hc tc hd (by omega) (fun j q => by omega) z0 z8
  have td := T9_sc (c := 5) (N := 8) tc (by omega)
  generalize am_sc Mc (b + 5) _ = Md at *
  apply rg_X0_copyFrom_139 hb hb1
  have he := CPF_sc (c := 6) (N := 8) hd' td hd (by omega) (fun j q => by omega) z0 z8
  generalize am_sc Md (b + 6) _ = Me at *
  apply rg_X0_copyFrom_154 hb hb1
  have g2 := CPF_sc (c := 7) (N := 8) g1 u1 hd (by omega) (fun j q => by simp at q) z0 z8
  generalize am_sc L1 (b + 7) _ = L2 at *
  apply rg_X0_copyFrom_169 hb hb1
  exact hk _ _ (CPF_cg he (fun i j => by unfold TB; omega)) (CPF_cg g2 (fun i j => by unfold TL; simp only [false_or]))
theorem s_copyYears {E : am_E} {d : Nat} {K : am_K} {mi : Nat → Nat → Int32} {ml : Nat → Nat → Int64} {b b1 : Nat} (hb : yr b) (hb1 : yr b1) (hne : b ≠ b1) {n : Nat} (h01 : mi b1 0 = nI 0 ∨ mi b1 0 = nI 1) (hn : mi b1 2 = nI n) (h60 : n ≤ 60) (hk : ∀ mi', CPF b b1 (TY n) mi mi' → K none (S0, mi', ml)) : cq E (d + 1) 100 [.ref b, .ref b1] K mi ml := by
  have hd := yr_far hb hb1 hne
  have z0 : Int32.toNatClampNeg (nI 0) = 0 := ni_cl (by omega)
  have zn : Int32.toNatClampNeg (nI n) = n := ni_cl (by omega)
  have cn : ∀ {M : Nat → Nat → Int32}, M b 2 = nI n → Int32.toNatClampNeg (M b 2) = n := fun h => by rw [h, zn]
  have lt0 : ∀ k, k ≤ 60 → ¬ nI k < (0 : Int32) := fun k hk => by
    have := ni_lt0 (a := k) (by omega)
    exact fun q => this.mp q
  apply en_X7_copyFrom hb hb1
  refine ⟨h01, ?_⟩
  have h1 := CPF_si (n := 0) (CPF_0 (f := mi)) T9_0 hd
  have t1 := T9_si (n := 0) T9_0
  generalize am_si mi b 0 (mi b1 0) = M1 at *
  apply rg_X7_copyFrom_8 hb hb1
  have h2 := CPF_si (n := 1) h1 t1 hd
  have t2 := T9_si (n := 1) t1
  generalize am_si M1 b 1 (M1 b1 1) = M2 at *
  apply rg_X7_copyFrom_16 hb hb1
  have h3 := CPF_si (n := 2) h2 t2 hd
  generalize am_si M2 b 2 (M2 b1 2) = M3 at *
  have h4 := CPF_cg (T' := fun i j => i = 0 ∧ j < 3) h3 (fun i j => by simp only [false_or]; omega)
  have t4 : T9 (fun i j => i = 0 ∧ j < 3) := fun i j q => by omega
  have key : ∀ {T : Nat → Nat → Prop} {M : Nat → Nat → Int32}, CPF b b1 T mi M → T 0 2 → M b 2 = nI n := fun h q => by
    have := CPF_t (i := 0) h q
    rw [Nat.add_zero, Nat.add_zero] at this
    rw [this, hn]
  have fin : ∀ {M : Nat → Nat → Int32}, M b 2 = nI n → ((¬ (nI 0) < 0 ∧ ¬ (nI 0) < 0 ∧ ¬ (M b 2) < 0) ∧ Int32.toNatClampNeg (nI 0) + Int32.toNatClampNeg (M b 2) ≤ 60 ∧ Int32.toNatClampNeg (nI 0) + Int32.toNatClampNeg (M b 2) ≤ 60) := fun h => by
    rw [h, z0, zn]
    exact ⟨⟨lt0 0 (by omega), lt0 0 (by omega), lt0 n h60⟩, by omega, by omega⟩
  have k4 := key h4 (by omega)
  apply rg_X7_copyFrom_24 hb hb1
  refine ⟨fin k4, ?_⟩
  have h5 := CPF_sc (c := 1) (N := n) h4 t4 hd (by omega) (fun j q => by omega) z0 (cn k4)
  have t5 := T9_sc (c := 1) (N := n) t4 (by omega)
  generalize am_sc M3 (b + 1) _ = M5 at *
  have k5 := key h5 (by omega)
  apply rg_X7_copyFrom_41 hb hb1
  refine ⟨fin k5, ?_⟩
  have h6 := CPF_sc (c := 2) (N := n) h5 t5 hd (by omega) (fun j q => by omega) z0 (cn k5)
  have t6 := T9_sc (c := 2) (N := n) t5 (by omega)
  generalize am_sc M5 (b + 2) _ = M6 at *
  have k6 := key h6 (by omega)
  apply rg_X7_copyFrom_58 hb hb1
  refine ⟨fin k6, ?_⟩
  have h7 := CPF_sc (c := 3) (N := n) h6 t6 hd (by omega) (fun j q => by omega) z0 (cn k6)
  have t7 := T9_sc (c := 3) (N := n) t6 (by omega)
  generalize am_sc M6 (b + 3) _ = M7 at *
  have k7 := key h7 (by omega)
  apply rg_X7_copyFrom_75 hb hb1
  refine ⟨fin k7, ?_⟩
  have h8 := CPF_sc (c := 4) (N := n) h7 t7 hd (by omega) (fun j q => by omega) z0 (cn k7)
  have t8 := T9_sc (c := 4) (N := n) t7 (by omega)
  generalize am_sc M7 (b + 4) _ = M8 at *
  have k8 := key h8 (by omega)
  apply rg_X7_copyFrom_92 hb hb1
  refine ⟨fin k8, ?_⟩
  have h9 := CPF_sc (c := 5) (N := n) h8 t8 hd (by omega) (fun j q => by omega) z0 (cn k8)
  have t9 := T9_sc (c := 5) (N := n) t8 (by omega)
  generalize am_sc M8 (b + 5) _ = M9 at *
  have k9 := key h9 (by omega)
  apply rg_X7_copyFrom_109 hb hb1
  refine ⟨fin k9, ?_⟩
  have ha := CPF_sc (c := 6) (N := n) h9 t9 hd (by omega) (fun j q => by omega) z0 (cn k9)
  generalize am_sc M9 (b + 6) _ = Ma at *
  apply rg_X7_copyFrom_126 hb hb1
  exact hk _ (CPF_cg ha (fun i j => by unfold TY; omega))
theorem CB_eq {b b1 : Nat} {a : Nat → Nat} {f g : Nat → Nat → Int32} (h : CB b1 a f) (hW : WA a) (e : ∀ i j, TB i j → g (b + i) j = f (b1 + i) j) : CB b a g := by
  have w0 := hW.1.1
  have w1 := hW.1.2.1
  obtain ⟨⟨c0, c1, c2, c3, c4, c5, c6, c7⟩, cp, cr⟩ := h
  unfold TB at e
  have e0 : ∀ j, j < 8 → g b j = f b1 j := fun j hj => e 0 j (by omega)
  refine ⟨⟨?_, ?_, ?_, ?_, ?_, ?_, ?_, ?_⟩, fun o ho => ?_, fun p hp => ?_⟩
  · rw [e0 0 (by omega)]; exact c0
  · rw [e0 1 (by omega)]; exact c1
  · rw [e0 2 (by omega)]; exact c2
  · rw [e0 3 (by omega)]; exact c3
  · rw [e0 4 (by omega)]; exact c4
  · rw [e0 5 (by omega)]; exact c5
  · rw [e0 6 (by omega)]; exact c6
  · rw [e0 7 (by omega)]; exact c7
  · rw [e 1 o (by omega)]; exact cp o ho
  · rw [e 3 p (by omega), e 4 p (by omega), e 5 p (by omega), e 6 p (by omega)]; exact cr p hp
theorem YR_eq {y y1 off off1 no np : Nat} {f g : Nat → Nat → Int32} (h : YR y1 off1 no np f) (eY : ∀ n, f y1 2 = nI n → n ≤ 60 → ∀ i j, TY n i j → g (y + i) j = f (y1 + i) j) (eM : ∀ j, j < 408 → g 107 (off + j) = f 107 (off1 + j)) : YR y off no np g := by
  unfold TY at eY
  rcases h with ⟨h0, h8, n, hn, h2⟩ | ⟨h0, n, w, pt, hn, h2, h8, hN, hR⟩
  · have e := eY n h2 hn
    exact Or.inl ⟨by rw [show y = y + 0 from rfl, e 0 0 (by omega)]; exact h0, by rw [eM 8 (by omega)]; exact h8, n, hn, by rw [show y = y + 0 from rfl, e 0 2 (by omega)]; exact h2⟩
  · have e := eY n h2 hn
    refine Or.inr ⟨by rw [show y = y + 0 from rfl, e 0 0 (by omega)]; exact h0, n, w, pt, hn, by rw [show y = y + 0 from rfl, e 0 2 (by omega)]; exact h2, by rw [eM 8 (by omega)]; exact h8, hN, fun k hk => ?_⟩
    have := hR k hk
    unfold ROW at *
    rw [e 1 k (by omega), e 2 k (by omega), e 3 k (by omega), e 4 k (by omega), e 5 k (by omega), e 6 k (by omega), eM (48 + 6 * k) (by omega), eM (48 + 6 * k + 1) (by omega), eM (48 + 6 * k + 2) (by omega), eM (48 + 6 * k + 4) (by omega), eM (48 + 6 * k + 5) (by omega)]
    exact this
theorem BY_eq {b b1 y y1 off off1 noff noff1 : Nat} {a : Nat → Nat} {f g : Nat → Nat → Int32} {fl gl : Nat → Nat → Int64} (h : BY b1 y1 off1 noff1 a f fl) (eB : ∀ i j, TB i j → g (b + i) j = f (b1 + i) j) (eL : ∀ i j, TL i j → gl (b + i) j = fl (b1 + i) j) (eY : ∀ n, f y1 2 = nI n → n ≤ 60 → ∀ i j, TY n i j → g (y + i) j = f (y1 + i) j) (eM : ∀ j, j < 408 → g 107 (off + j) = f 107 (off1 + j)) (eN : ∀ j, j < 14 → gl 108 (noff + j) = fl 108 (noff1 + j)) : BY b y off noff a g gl := by
  obtain ⟨h1, h2, h3, h4, h5⟩ := h
  have w0 := h1.1.1.1
  have w1 := h1.1.1.2.1
  unfold TL at eL
  refine ⟨h1, CB_eq h2 h1.1 eB, fun k hk h8 => ?_, ⟨fun o ho => ?_, fun p hp => ?_⟩, YR_eq h5 eY eM⟩
  · rw [eM k (by omega)]; exact h3 k hk h8
  · rw [eL 2 o (by omega), eN o (by omega)]; exact h4.1 o ho
  · rw [eL 7 p (by omega), show noff + 6 + p = noff + (6 + p) by omega, eN (6 + p) (by omega), ← Nat.add_assoc]; exact h4.2 p hp
/-- a row of the reference's numbers copied -/
def cpI (dst src n : Nat) (f g : Nat → Nat → Int32) : Prop := (∀ k j, ¬ (k = 107 ∧ dst ≤ j ∧ j < dst + n) → g k j = f k j) ∧ (∀ i, i < n → g 107 (dst + i) = f 107 (src + i))
theorem cpI_0 {dst src : Nat} {f : Nat → Nat → Int32} : cpI dst src 0 f f := ⟨fun _ _ _ => rfl, fun _ h => absurd h (Nat.not_lt_zero _)⟩
theorem cpI_s {dst src n N : Nat} {f g : Nat → Nat → Int32} (h : cpI dst src n f g) (hn : n < N) (hd : dst + N ≤ src ∨ src + N ≤ dst) : cpI dst src (n + 1) f (am_si g 107 (dst + n) (g 107 (src + n))) := by
  have e : g 107 (src + n) = f 107 (src + n) := h.1 _ _ (by omega)
  refine ⟨fun k j q => ?_, fun i hi => ?_⟩
  · rw [si_f (by omega)]; exact h.1 k j (by omega)
  · by_cases q : i = n
    · rw [si_t ⟨rfl, by omega⟩, e, q]
    · rw [si_f (by omega)]; exact h.2 i (by omega)
theorem s_keeps {E : am_E} {d : Nat} {K : am_K} {mi : Nat → Nat → Int32} {ml : Nat → Nat → Int64} {t : Nat} (h1 : 48 ≤ t) (h2 : t + 48 ≤ 2592) (hk : ∀ mi', cpI t 0 48 mi mi' → K none (S0, mi', ml)) : cq E (d + 1) 293 [.ref 106, .int (nI t)] K mi ml := by
  have key : ∀ i, i ≤ 48 → ∀ mi', cpI t 0 i mi mi' → rn E d 293 K 2 [.ref 106, .int (nI t), .int (nI i)] [] mi' ml := dn_ind 48 (by
    intro i hi ih mi' hc
    apply rg_X10_keeps_2
    rw [ni_le (by omega) (by omega), nI_add, nI_add, ni_cl (by omega), ni_cl (by omega)]
    refine ⟨fun q => ?_, fun q => ⟨by rw [ni_in (by omega)]; omega, by rw [ni_in (by omega)]; omega, ih (by omega) _ ?_⟩⟩
    · have : i = 48 := by omega
      subst this
      exact hk _ hc
    · have := cpI_s (N := 48) hc (by omega) (by omega)
      rw [Nat.zero_add] at this
      exact this)
  apply en_X10_keeps
  exact key 0 (by omega) mi cpI_0
theorem s_restores {E : am_E} {d : Nat} {K : am_K} {mi : Nat → Nat → Int32} {ml : Nat → Nat → Int64} {t : Nat} (h1 : 48 ≤ t) (h2 : t + 48 ≤ 2592) (hk : ∀ mi', cpI 0 t 48 mi mi' → K none (S0, mi', ml)) : cq E (d + 1) 294 [.ref 106, .int (nI t)] K mi ml := by
  have key : ∀ i, i ≤ 48 → ∀ mi', cpI 0 t i mi mi' → rn E d 294 K 2 [.ref 106, .int (nI t), .int (nI i)] [] mi' ml := dn_ind 48 (by
    intro i hi ih mi' hc
    apply rg_X10_restores_2
    rw [ni_le (by omega) (by omega), nI_add, nI_add, ni_cl (by omega), ni_cl (by omega)]
    refine ⟨fun q => ?_, fun q => ⟨by rw [ni_in (by omega)]; omega, by rw [ni_in (by omega)]; omega, ih (by omega) _ ?_⟩⟩
    · have : i = 48 := by omega
      subst this
      exact hk _ hc
    · have := cpI_s (N := 48) hc (by omega) (by omega)
      rw [Nat.zero_add] at this
      exact this)
  apply en_X10_restores
  exact key 0 (by omega) mi cpI_0
def callN (a : Nat → Nat) : Nat → (Nat → Nat)
  | 0 => a
  | n + 1 => callA (callN a n)
theorem callN_ok {a : Nat → Nat} (h : WB a) : ∀ n, n ≤ 1000 → WA (callN a n) ∧ callN a n 5 = a 5 + n ∧ callN a n 0 = a 0 ∧ callN a n 1 = a 1 ∧ ∀ p, p < a 1 → callN a n (16 + 4 * p + 1) ≤ a 5 + n
  | 0, _ => ⟨h.1, rfl, rfl, rfl, h.2.2⟩
  | n + 1, hn => by
    obtain ⟨h1, h2, h3, h4, h5⟩ := callN_ok h n (by omega)
    have w := h.2.1
    refine ⟨WA_call h1 (by omega) (fun p hp => ?_), ?_, ?_, ?_, fun p hp => ?_⟩
    · have := h5 p (by omega); omega
    · show callA (callN a n) 5 = _
      rw [callA_5]; omega
    · show callA (callN a n) 0 = _
      rw [callA_lo _ (by omega) (by omega) (by omega)]; exact h3
    · show callA (callN a n) 1 = _
      rw [callA_lo _ (by omega) (by omega) (by omega)]; exact h4
    · show callA (callN a n) _ ≤ _
      rw [callA_p _ 1 (by omega), callQ_p _ 1 (by omega)]
      have := h5 p hp
      split
      · simp; omega
      · omega
theorem frD_tr {mi mi' mi'' : Nat → Nat → Int32} (h : frD mi mi') (h2 : frD mi' mi'') : frD mi mi'' := fun k j hk => by rw [h2 k j hk, h k j hk]
theorem s_callsGo {E : am_E} {d : Nat} {K : am_K} {mi : Nat → Nat → Int32} {ml : Nat → Nat → Int64} {a : Nat → Nat} {n : Nat} (hM : MA a mi) (hW : WB a) (hn : n ≤ 60) (hk : ∀ mi', frD mi mi' → MA (callN a n) mi' → K none (S0, mi', ml)) : cq E (d + 8) 295 [.ref 106, .int (nI n)] K mi ml := by
  have key : ∀ i, i ≤ n → ∀ mi', frD mi mi' → MA (callN a i) mi' → rn E (d + 7) 295 K 2 [.ref 106, .int (nI n), .int (nI i)] [] mi' ml := dn_ind n (by
    intro i hi ih mi' hf hM'
    apply rg_X10_callsGo_2
    rw [ni_le (by omega) (by omega)]
    refine ⟨fun q => ?_, fun q => ?_⟩
    · have : i = n := by omega
      subst this
      exact hk _ hf hM'
    · apply s_calling hM' (callN_ok hW i (by omega)).1
      intro m2 hD hM2
      apply rg_X10_callsGo_11
      rw [nI_add]
      exact ih (by omega) _ (frD_tr hf hD) hM2)
  apply en_X10_callsGo
  exact key 0 (by omega) mi (fun _ _ _ => rfl) hM
def fr28 (mi mi' : Nat → Nat → Int32) : Prop := ∀ k j, k < 28 ∨ 36 < k → mi' k j = mi k j
def fl28 (ml ml' : Nat → Nat → Int64) : Prop := ∀ k j, k < 28 ∨ 36 < k → ml' k j = ml k j
theorem s_spare {E : am_E} {d : Nat} {K : am_K} {mi : Nat → Nat → Int32} {ml : Nat → Nat → Int64} {a : Nat → Nat} (hC : CB 12 a mi) (hW : WA a) (hk : ∀ mi' ml', fr28 mi mi' → fl28 ml ml' → CB 28 a mi' → K none (S0, mi', ml')) : cq E (d + 1) 6 [.ref 28, .ref 12] K mi ml := by
  apply s_copyFrom bt_28 bt_12 (by omega)
  intro mi' ml' h1 h2
  exact hk _ _ (fun k j q => CPF_f h1 T9_B (by omega)) (fun k j q => CPF_f h2 T9_L (by omega)) (CB_eq hC hW (fun i j q => CPF_t h1 q))
theorem s_tryCalls {E : am_E} {d : Nat} {K : am_K} {mi : Nat → Nat → Int32} {ml : Nat → Nat → Int64} {a : Nat → Nat} {n : Nat} (hC : CB 12 a mi) (hW : WB a) (hn : n ≤ 60) (hk : ∀ mi' ml', fr28 mi mi' → fl28 ml ml' → CB 28 (callN a n) mi' → K none (S0, mi', ml')) : cq E (d + 5) 159 [.ref 0, .int (nI n)] K mi ml := by
  apply en_X9_tryCalls
  apply s_spare hC hW.1
  intro m1 l1 f1 g1 hC1
  have key : ∀ i, i ≤ n → ∀ mi', fr28 mi mi' → CB 28 (callN a i) mi' → rn E (d + 4) 159 K 13 [.ref 0, .int (nI n), .int (nI i)] [] mi' l1 := dn_ind n (by
    intro i hi ih mi' hf hC'
    apply rg_X9_tryCalls_13
    rw [ni_le (by omega) (by omega)]
    refine ⟨fun q => ?_, fun q => ?_⟩
    · have : i = n := by omega
      subst this
      exact hk _ _ hf g1 hC'
    · apply s_makeCall bt_28 hC' (callN_ok hW i (by omega)).1
      intro m2 hD hC2
      apply rg_X9_tryCalls_25
      rw [nI_add]
      exact ih (by omega) _ (fun k j z => by rw [hD k (by omega), hf k j z]) hC2)
  apply rg_X9_tryCalls_11
  exact key 0 (by omega) m1 f1 hC1
theorem INV_cm2 {mi m1 m2 : Nat → Nat → Int32} {ml ml' : Nat → Nat → Int64} {x : Int32} (h : INV mi ml) (h1 : fr0 mi m1) (h2 : fr0 (am_si m1 0 0 x) m2) (hl : frL ml ml') : INV (am_si m2 106 2 x) ml' := by
  refine INV_q h (fun k j q => ?_) hl ?_
  · unfold scr at q
    rw [si_f (by omega), h2 k j (by unfold sc0; omega), si_f (by omega), h1 k j (by unfold sc0; omega)]
  · rw [si_f (by omega), si_t ⟨rfl, rfl⟩, h2 0 0 (by unfold sc0; omega), si_t ⟨rfl, rfl⟩]
theorem fr28_0 {mi mi' : Nat → Nat → Int32} (h : fr28 mi mi') : fr0 mi mi' := fun k j z => by unfold sc0 at z; exact h k j (by omega)
theorem fl28_L {ml ml' : Nat → Nat → Int64} (h : fl28 ml ml') : frL ml ml' := fun k j z => by unfold scl at z; exact h k j (by omega)
theorem MA_k {a : Nat → Nat} {mi mi' : Nat → Nat → Int32} {t : Nat} (h : MA a mi) (hc : cpI t 0 48 mi mi') (ht : 48 ≤ t) : MA a mi' := fun k hk h8 => by
  rw [hc.1 107 k (by omega)]; exact h k hk h8
/-- kept, gone on, restored: as it was -/
theorem kept0 {t : Nat} {m0 m1 m2 m3 : Nat → Nat → Int32} (ht : 1664 ≤ t) (h1 : cpI t 0 48 m0 m1) (h2 : frD m1 m2) (h3 : cpI 0 t 48 m2 m3) : fr0 m0 m3 := fun k j z => by
  unfold sc0 at z
  by_cases q : k = 107 ∧ j < 48
  · obtain ⟨rfl, q⟩ := q
    have e := h3.2 j q
    rw [Nat.zero_add] at e
    have e1 := h1.2 j q
    rw [Nat.zero_add] at e1
    rw [e, h2 107 (t + j) (by omega), e1]
  · rw [h3.1 k j (by omega), h2 k j (by omega), h1.1 k j (by omega)]
theorem out_of {a : Nat → Nat} (hW : WA a) : ndif (2 ^ a 1 - 1) (aboA a) = a 7 := by
  apply Nat.eq_of_testBit_eq; intro i
  rw [tb_dif, tb_all, tb_abo]
  by_cases e : i < a 1
  · simp [e]
  · rw [tb_hi hW.1.2.2.2.2.2.2.2.2 (by omega)]; simp [e]
theorem op_outIn {E : am_E} {K : am_K} {mi : Nat → Nat → Int32} {ml : Nat → Nat → Int64} (hI : INV mi ml) {u : Int32} (hk : PR 296 [.ref 106, .int u] E K) : cq E 14 160 [.ref 0, .int u] K mi ml := by
  obtain ⟨i1, i2, i3, i4, i5, ⟨a, hB⟩, i7, i8, i9⟩ := id hI
  have hW : WA a := hB.1.1
  have hC : CB 12 a mi := hB.2.1
  have hM : MA a mi := MS_0.mp hB.2.2.1
  have hMi := hM
  unfold MA at hMi
  obtain ⟨⟨x0, x1, x2, x3, x4, x5, x6, x7, x8⟩, y, z⟩ := id hW
  have w := WA_p2 hW
  have hp0 := p2_pos (a 0)
  have hp1 := p2_pos (a 1)
  obtain ⟨⟨c0, c1, c2, c3, c4, c5, c6, c7⟩, cp, ch, ct, cx, cs⟩ := CB12 hC
  have e0 : nI 1 <<< ms (nI (a 0)) = nI (2 ^ a 0) := by rw [ni_shl (by omega), Nat.one_shiftLeft]
  have e1 : nI 1 <<< ms (nI (a 1)) = nI (2 ^ a 1) := by rw [ni_shl (by omega), Nat.one_shiftLeft]
  have f0 : nI (2 ^ a 0) - nI 1 = nI (2 ^ a 0 - 1) := ni_sub hp0
  have f1 : nI (2 ^ a 1) - nI 1 = nI (2 ^ a 1 - 1) := ni_sub hp1
  have m0 : mi 107 0 = nI (a 0) := hM 0 (by omega) (by omega)
  have m1 : mi 107 1 = nI (a 1) := hM 1 (by omega) (by omega)
  have m6 : mi 107 6 = nI (a 6) := hM 6 (by omega) (by omega)
  have m7 : mi 107 7 = nI (a 7) := hM 7 (by omega) (by omega)
  apply en_X9_outIn (d := 8)
  by_cases hu : ∃ k, k < 61 ∧ u = nI k
  · obtain ⟨n, hn, rfl⟩ := hu
    refine rng_ok2 (n := 61) (by omega) hn ?_
    apply s_tryCalls hC hB.1 (by omega)
    intro mm l1 ff gg hC1
    apply rg_X9_outIn_21
    obtain ⟨wN, -, -, n1, -⟩ := callN_ok hB.1 n (by omega)
    have e7 : ((mm 28 7) ^^^ nM) &&& (((nI 1) <<< ms (mm 28 5)) - (nI 1)) = nI (callN a n 7) := by
      rw [hC1.1.2.2.2.2.2.2.2, hC1.1.2.2.2.2.2.1, n1, ni_shl (by omega), ni_all (by omega), Int32.and_comm, ni_dif, ← n1, out_of wN]
    rw [e7]
    refine hk _ _ _ (fun Km hm => ?_)
    have hM1 : MA a (am_si mm 0 0 (nI 0)) := MA_0 hM (fr28_0 ff)
    apply en_X10_outIn (d := 5)
    simp only [lgc_lt, lgc_ge, lgc_gt, lgc_le, l64_0, l64_1, l64_3, l64_5, l64_9, l64_12, l64_16, l64_20, l64_60, l64_9999, w64_lt, w64_le, s107, s106, s110, s109, e0, e1, f0, f1, c0, c1, c2, c3, c4, c5, c6, c7, m0, m1, m6, m7]
    refine rng_ok2 (n := 61) (by omega) hn ?_
    apply s_keeps (by omega) (by omega)
    intro m2 h2
    apply rg_X10_outIn_25
    apply s_callsGo (MA_k hM1 h2 (by omega)) hB.1 (by omega)
    intro m3 h3 hM3
    apply rg_X10_outIn_30
    apply s_restores (by omega) (by omega)
    intro m4 h4
    apply rg_X10_outIn_45
    rw [hM3 7 (by omega) (by omega)]
    exact hm _ _ (INV_cm2 hI (fr28_0 ff) (kept0 (by omega) h2 h3 h4) (fl28_L gg))
  · refine rng_bd2 (n := 61) (by omega) (by omega) hu ?_
    refine hk _ _ _ (fun Km hm => ?_)
    apply en_X10_outIn (d := 5)
    simp only [lgc_lt, lgc_ge, lgc_gt, lgc_le, l64_0, l64_1, l64_3, l64_5, l64_9, l64_12, l64_16, l64_20, l64_60, l64_9999, w64_lt, w64_le, s107, s106, s110, s109, e0, e1, f0, f1, c0, c1, c2, c3, c4, c5, c6, c7, m0, m1, m6, m7]
    exact rng_bd2 (n := 61) (by omega) (by omega) hu (hm _ _ (INV_cm hI fr0_rfl fr0_rfl))
theorem op_holdIn {E : am_E} {K : am_K} {mi : Nat → Nat → Int32} {ml : Nat → Nat → Int64} (hI : INV mi ml) {u v : Int32} (hk : PR 298 [.ref 106, .int u, .int v] E K) : cq E 14 162 [.ref 0, .int u, .int v] K mi ml := by
  obtain ⟨i1, i2, i3, i4, i5, ⟨a, hB⟩, i7, i8, i9⟩ := id hI
  have hW : WA a := hB.1.1
  have hC : CB 12 a mi := hB.2.1
  have hM : MA a mi := MS_0.mp hB.2.2.1
  have hMi := hM
  unfold MA at hMi
  obtain ⟨⟨x0, x1, x2, x3, x4, x5, x6, x7, x8⟩, y, z⟩ := id hW
  have w := WA_p2 hW
  have hp0 := p2_pos (a 0)
  have hp1 := p2_pos (a 1)
  obtain ⟨⟨c0, c1, c2, c3, c4, c5, c6, c7⟩, cp, ch, ct, cx, cs⟩ := CB12 hC
  have e0 : nI 1 <<< ms (nI (a 0)) = nI (2 ^ a 0) := by rw [ni_shl (by omega), Nat.one_shiftLeft]
  have e1 : nI 1 <<< ms (nI (a 1)) = nI (2 ^ a 1) := by rw [ni_shl (by omega), Nat.one_shiftLeft]
  have f0 : nI (2 ^ a 0) - nI 1 = nI (2 ^ a 0 - 1) := ni_sub hp0
  have f1 : nI (2 ^ a 1) - nI 1 = nI (2 ^ a 1 - 1) := ni_sub hp1
  have m0 : mi 107 0 = nI (a 0) := hM 0 (by omega) (by omega)
  have m1 : mi 107 1 = nI (a 1) := hM 1 (by omega) (by omega)
  have m6 : mi 107 6 = nI (a 6) := hM 6 (by omega) (by omega)
  have m7 : mi 107 7 = nI (a 7) := hM 7 (by omega) (by omega)
  apply en_X9_holdIn (d := 8)
  simp only [lgc_lt, lgc_ge, lgc_gt, lgc_le, l64_0, l64_1, l64_3, l64_5, l64_9, l64_12, l64_16, l64_20, l64_60, l64_9999, w64_lt, w64_le, s107, s106, s110, s109, e0, e1, f0, f1, c0, c1, c2, c3, c4, c5, c6, c7, m0, m1, m6, m7]
  by_cases hu : ∃ p, p < a 1 ∧ u = nI p
  · obtain ⟨p, hp, rfl⟩ := hu
    refine rng_ok (by omega) hp ?_
    by_cases hv : ∃ k, k < 61 ∧ v = nI k
    · obtain ⟨n, hn, rfl⟩ := hv
      refine rng_ok2 (n := 61) (by omega) hn ?_
      apply s_tryCalls hC hB.1 (by omega)
      intro mm l1 ff gg hC1
      apply rg_X9_holdIn_32
      obtain ⟨wN, -, -, n1, -⟩ := callN_ok hB.1 n (by omega)
      rw [ni_cl (by omega), show mm 31 p = nI (callN a n (16 + 4 * p)) from (hC1.2.2 p (by omega)).1]
      refine ⟨by rw [ni_in (by omega)]; omega, ?_⟩
      refine hk _ _ _ (fun Km hm => ?_)
      have hM1 : MA a (am_si mm 0 0 (nI 0)) := MA_0 hM (fr28_0 ff)
      have n1' : am_si mm 0 0 (nI 0) 107 1 = nI (a 1) := hM1 1 (by omega) (by omega)
      apply en_X10_holdIn (d := 5)
      rw [n1']
      simp only [lgc_lt, lgc_ge, lgc_gt, lgc_le, l64_0, l64_1, l64_3, l64_5, l64_9, l64_12, l64_16, l64_20, l64_60, l64_9999, w64_lt, w64_le, s107, s106, s110, s109, e0, e1, f0, f1, c0, c1, c2, c3, c4, c5, c6, c7, m0, m1, m6, m7]
      refine rng_ok (by omega) hp (rng_ok2 (n := 61) (by omega) hn ?_)
      apply s_keeps (by omega) (by omega)
      intro m2 h2
      apply rg_X10_holdIn_33
      apply s_callsGo (MA_k hM1 h2 (by omega)) hB.1 (by omega)
      intro m3 h3 hM3
      apply rg_X10_holdIn_38
      rw [ni_mul, nI_add, nI_add, ni_cl (by omega)]
      refine ⟨by rw [ni_in (by omega)]; omega, ?_⟩
      apply s_restores (by omega) (by omega)
      intro m4 h4
      apply rg_X10_holdIn_52
      rw [show m3 107 (16 + 4 * p + 0) = nI (callN a n (16 + 4 * p)) from hM3 (16 + 4 * p) (by omega) (by omega)]
      exact hm _ _ (INV_cm2 hI (fr28_0 ff) (kept0 (by omega) h2 h3 h4) (fl28_L gg))
    · refine rng_bd2 (n := 61) (by omega) (by omega) hv ?_
      refine hk _ _ _ (fun Km hm => ?_)
      apply en_X10_holdIn (d := 5)
      simp only [lgc_lt, lgc_ge, lgc_gt, lgc_le, l64_0, l64_1, l64_3, l64_5, l64_9, l64_12, l64_16, l64_20, l64_60, l64_9999, w64_lt, w64_le, s107, s106, s110, s109, e0, e1, f0, f1, c0, c1, c2, c3, c4, c5, c6, c7, m0, m1, m6, m7]
      exact rng_ok (by omega) hp (rng_bd2 (n := 61) (by omega) (by omega) hv (hm _ _ (INV_cm hI fr0_rfl fr0_rfl)))
  · refine rng_bad (by omega) hu ?_
    refine hk _ _ _ (fun Km hm => ?_)
    apply en_X10_holdIn (d := 5)
    simp only [lgc_lt, lgc_ge, lgc_gt, lgc_le, l64_0, l64_1, l64_3, l64_5, l64_9, l64_12, l64_16, l64_20, l64_60, l64_9999, w64_lt, w64_le, s107, s106, s110, s109, e0, e1, f0, f1, c0, c1, c2, c3, c4, c5, c6, c7, m0, m1, m6, m7]
    exact rng_bad (by omega) hu (hm _ _ (INV_cm hI fr0_rfl fr0_rfl))
/-- the reference's search for the call by which p is out -/
theorem s_outAtM {E : am_E} {d : Nat} {K : am_K} {mi : Nat → Nat → Int32} {ml : Nat → Nat → Int64} {a : Nat → Nat} {p m : Nat} (hM : MA a mi) (hW : WB a) (hp : p < a 1) (hm : m ≤ 60) (h0 : ∀ j, j < m → (callN a j 7).testBit p = false) (h1 : m = 60 ∨ (callN a m 7).testBit p = true) (hk : ∀ mi', frD mi mi' → cq E (d + 7) 294 [.ref 106, .int (nI 2496)] (kc E (d + 7) 297 K 76 [.ref 106, am_mk, .int (nI m), .int (nI (b01 ((callN a m 7).testBit p)))] []) mi' ml) : rn E (d + 7) 297 K 38 [.ref 106, .int (nI p), .int (nI 0), am_mk] [] mi ml := by
  have w8 := hW.1.1.2.1
  have key : ∀ i, i ≤ m → ∀ mi', frD mi mi' → MA (callN a i) mi' → rn E (d + 7) 297 K 38 [.ref 106, .int (nI p), .int (nI i), am_mk] [] mi' ml := dn_ind m (by
    intro i hi ih mi' hf hM'
    obtain ⟨wN, -, -, n1, -⟩ := callN_ok hW i (by omega)
    have w7 := Nat.lt_of_lt_of_le wN.1.2.2.2.2.2.2.2.2 (WA_p2 wN).2
    apply rg_X10_outAt_38
    rw [hM' 7 (by omega) (by omega), ni_bit (by omega) (by omega), ni_b1, ni_le (by omega) (by omega)]
    by_cases e : i = m
    · subst e
      have fin := hk _ hf
      cases hb : (callN a i 7).testBit p
      · rw [hb] at fin h1
        have e60 : i = 60 := by
          rcases h1 with h1 | h1
          · exact h1
          · cases h1
        exact br_t (by omega) (br_t (by decide) fin)
      · rw [hb] at fin
        exact ⟨fun _ => br_f (fun q => q rfl) fin, fun _ => br_f (fun q => q rfl) (br_f (fun q => q rfl) fin)⟩
    · rw [h0 i (by omega)]
      refine br_f (by omega) (br_t (by decide) ?_)
      apply s_calling hM' wN
      intro m2 hD hM2
      apply rg_X10_outAt_56
      rw [nI_add]
      exact ih (by omega) _ (frD_tr hf hD) hM2)
  exact key 0 (by omega) mi (fun _ _ _ => rfl) hM
theorem callN_7 {a : Nat → Nat} (n p : Nat) : (callN a (n + 1) 7).testBit p = ((callN a n 7).testBit p || (outA (callN a n) (aboA (callN a n)) (callN a n 6)).testBit p) := by
  show (callA (callN a n) 7).testBit p = _
  rw [callA_7]
  unfold outN
  rw [Nat.testBit_or]
theorem op_outAt {E : am_E} {K : am_K} {mi : Nat → Nat → Int32} {ml : Nat → Nat → Int64} (hI : INV mi ml) {u : Int32} (hk : PR 297 [.ref 106, .int u] E K) : cq E 14 161 [.ref 0, .int u] K mi ml := by
  obtain ⟨i1, i2, i3, i4, i5, ⟨a, hB⟩, i7, i8, i9⟩ := id hI
  have hW : WA a := hB.1.1
  have hC : CB 12 a mi := hB.2.1
  have hM : MA a mi := MS_0.mp hB.2.2.1
  have hMi := hM
  unfold MA at hMi
  obtain ⟨⟨x0, x1, x2, x3, x4, x5, x6, x7, x8⟩, y, z⟩ := id hW
  have w := WA_p2 hW
  have hp0 := p2_pos (a 0)
  have hp1 := p2_pos (a 1)
  obtain ⟨⟨c0, c1, c2, c3, c4, c5, c6, c7⟩, cp, ch, ct, cx, cs⟩ := CB12 hC
  have e0 : nI 1 <<< ms (nI (a 0)) = nI (2 ^ a 0) := by rw [ni_shl (by omega), Nat.one_shiftLeft]
  have e1 : nI 1 <<< ms (nI (a 1)) = nI (2 ^ a 1) := by rw [ni_shl (by omega), Nat.one_shiftLeft]
  have f0 : nI (2 ^ a 0) - nI 1 = nI (2 ^ a 0 - 1) := ni_sub hp0
  have f1 : nI (2 ^ a 1) - nI 1 = nI (2 ^ a 1 - 1) := ni_sub hp1
  have m0 : mi 107 0 = nI (a 0) := hM 0 (by omega) (by omega)
  have m1 : mi 107 1 = nI (a 1) := hM 1 (by omega) (by omega)
  have m6 : mi 107 6 = nI (a 6) := hM 6 (by omega) (by omega)
  have m7 : mi 107 7 = nI (a 7) := hM 7 (by omega) (by omega)
  apply en_X9_outAt (d := 9)
  simp only [lgc_lt, lgc_ge, lgc_gt, lgc_le, l64_0, l64_1, l64_3, l64_5, l64_9, l64_12, l64_16, l64_20, l64_60, l64_9999, w64_lt, w64_le, s107, s106, s110, s109, e0, e1, f0, f1, c0, c1, c2, c3, c4, c5, c6, c7, m0, m1, m6, m7]
  by_cases hu : ∃ p, p < a 1 ∧ u = nI p
  · obtain ⟨p, hp, rfl⟩ := hu
    refine rng_ok (by omega) hp (rng_ok (by omega) (by omega) ?_)
    have hab : (aboA a).testBit p = !(a 7).testBit p := by rw [tb_abo]; simp [hp]
    rw [ni_bit (by have := abo_lt hW; omega) (by omega), ni_b0, hab]
    refine ⟨fun q => ?_, fun q => ?_⟩
    · have q7 : (a 7).testBit p = true := by simpa using q
      refine hk _ _ _ (fun Km hm => ?_)
      apply en_X10_outAt (d := 6)
      simp only [lgc_lt, lgc_ge, lgc_gt, lgc_le, l64_0, l64_1, l64_3, l64_5, l64_9, l64_12, l64_16, l64_20, l64_60, l64_9999, w64_lt, w64_le, s107, s106, s110, s109, e0, e1, f0, f1, c0, c1, c2, c3, c4, c5, c6, c7, m0, m1, m6, m7]
      refine rng_ok (by omega) hp ?_
      rw [ni_bit (by omega) (by omega), ni_b1, q7]
      exact br_f (fun z => z rfl) (hm _ _ (INV_cm hI fr0_rfl fr0_rfl))
    · have q7 : (a 7).testBit p = false := by simpa using q
      have go : ∀ m m1 l1, m ≤ 60 → (∀ j, j < m → (callN a j 7).testBit p = false) → (m = 60 ∨ (callN a m 7).testBit p = true) → fr28 mi m1 → fl28 ml l1 → ∀ v w, v = (if (callN a m 7).testBit p then nI m else nM) → w = (if (callN a m 7).testBit p then nI 0 else nI 6) → K (some (.int v)) (S0, am_si m1 0 0 w, l1) := by
        intro m m1 l1 hm60 h0 h1 f1 g1 v w hv hw
        refine hk _ _ _ (fun Km hm => ?_)
        have hM1 : MA a (am_si m1 0 0 w) := MA_0 hM (fr28_0 f1)
        have n1' : am_si m1 0 0 w 107 1 = nI (a 1) := hM1 1 (by omega) (by omega)
        have n7' : am_si m1 0 0 w 107 7 = nI (a 7) := hM1 7 (by omega) (by omega)
        apply en_X10_outAt (d := 6)
        rw [n1', n7', ni_bit (by omega) (by omega), ni_b1, q7]
        refine rng_ok (by omega) hp (br_t (by decide) ?_)
        apply s_keeps (by omega) (by omega)
        intro m2 h2
        apply rg_X10_outAt_36
        apply s_outAtM (MA_k hM1 h2 (by omega)) hB.1 hp hm60 h0 h1
        intro m3 h3
        apply s_restores (by omega) (by omega)
        intro m4 h4
        apply rg_X10_outAt_76
        cases hb : (callN a m 7).testBit p
        · rw [hb, if_neg (by decide)] at hv hw
          subst hv hw
          exact br_t rfl (hm _ _ (INV_cm2 hI (fr28_0 f1) (kept0 (by omega) h2 h3 h4) (fl28_L g1)))
        · rw [hb, if_pos rfl] at hv hw
          subst hv hw
          exact br_f (by decide) (hm _ _ (INV_cm2 hI (fr28_0 f1) (kept0 (by omega) h2 h3 h4) (fl28_L g1)))
      apply s_spare hC hW
      intro m1 l1 f1 g1 hC1
      have key : ∀ i, i ≤ 60 → ∀ mi', fr28 mi mi' → CB 28 (callN a i) mi' → (∀ j, j ≤ i → (callN a j 7).testBit p = false) → rn E 13 161 K 30 [.ref 0, .int (nI p), am_mk, .int (nI (i + 1)), am_mk] [] mi' l1 := dn_ind 60 (by
        intro i hi ih mi' hf hC' h0
        apply rg_X9_outAt_30 (d := 9)
        rw [ni_lt (by omega) (by omega)]
        refine ⟨fun q => ?_, fun q => ?_⟩
        · have e : i = 60 := by omega
          subst e
          exact go 60 _ _ (by omega) (fun j hj => h0 j (by omega)) (Or.inl rfl) hf g1 _ _ (by rw [h0 60 (by omega)]; rfl) (by rw [h0 60 (by omega)]; rfl)
        · obtain ⟨wN, -, -, n1, -⟩ := callN_ok hB.1 i (by omega)
          apply s_makeCall bt_28 hC' wN
          intro m2 hD hC2
          apply rg_X9_outAt_43 (d := 9)
          have hf2 : fr28 mi m2 := fun k j z => by rw [hD k (by omega), hf k j z]
          have ho := Nat.lt_of_lt_of_le (out_lt (callN a i) (aboA (callN a i)) (callN a i 6)) (WA_p2 wN).2
          have e7 := callN_7 (a := a) i p
          rw [h0 i (by omega), Bool.false_or] at e7
          rw [ni_bit (by omega) (by omega), ni_b0, nI_add, ← e7]
          refine ⟨fun q2 => ih (by omega) _ hf2 hC2 (fun j hj => ?_), fun q2 => ?_⟩
          · by_cases e : j = i + 1
            · rw [e]; exact q2
            · exact h0 j (by omega)
          · have q3 : (callN a (i + 1) 7).testBit p = true := by simpa using q2
            exact go (i + 1) _ _ (by omega) (fun j hj => h0 j (by omega)) (Or.inr q3) hf2 g1 _ _ (by rw [q3]; rfl) (by rw [q3]; rfl))
      apply rg_X9_outAt_28 (d := 9)
      exact key 0 (by omega) m1 f1 hC1 (fun j hj => by
        have : j = 0 := by omega
        rw [this]; exact q7)
  · refine rng_bad (by omega) hu ?_
    refine hk _ _ _ (fun Km hm => ?_)
    apply en_X10_outAt (d := 6)
    simp only [lgc_lt, lgc_ge, lgc_gt, lgc_le, l64_0, l64_1, l64_3, l64_5, l64_9, l64_12, l64_16, l64_20, l64_60, l64_9999, w64_lt, w64_le, s107, s106, s110, s109, e0, e1, f0, f1, c0, c1, c2, c3, c4, c5, c6, c7, m0, m1, m6, m7]
    exact rng_bad (by omega) hu (hm _ _ (INV_cm hI fr0_rfl fr0_rfl))
/-! Marks. -/
def cpS (dst src : Nat) (f g : Nat → Nat → Int32) : Prop := cpI (416 * dst) (416 * src) 416 f g
def cpL (dst src n : Nat) (f g : Nat → Nat → Int64) : Prop := (∀ k j, ¬ (k = 108 ∧ dst ≤ j ∧ j < dst + n) → g k j = f k j) ∧ (∀ i, i < n → g 108 (dst + i) = f 108 (src + i))
theorem cpL_0 {dst src : Nat} {f : Nat → Nat → Int64} : cpL dst src 0 f f := ⟨fun _ _ _ => rfl, fun _ h => absurd h (Nat.not_lt_zero _)⟩
theorem cpL_s {dst src n N : Nat} {f g : Nat → Nat → Int64} (h : cpL dst src n f g) (hn : n < N) (hd : dst + N ≤ src ∨ src + N ≤ dst) : cpL dst src (n + 1) f (am_sj g 108 (dst + n) (g 108 (src + n))) := by
  have e : g 108 (src + n) = f 108 (src + n) := h.1 _ _ (by omega)
  refine ⟨fun k j q => ?_, fun i hi => ?_⟩
  · rw [sj_f (by omega)]; exact h.1 k j (by omega)
  · by_cases q : i = n
    · rw [sj_t ⟨rfl, by omega⟩, e, q]
    · rw [sj_f (by omega)]; exact h.2 i (by omega)
theorem s_copies {E : am_E} {d : Nat} {K : am_K} {mi : Nat → Nat → Int32} {ml : Nat → Nat → Int64} {s t : Nat} (hs : s ≤ 3) (ht : t ≤ 3) (hne : s ≠ t) (hk : ∀ mi' ml', cpI (416 * t) (416 * s) 416 mi mi' → cpL (14 * t) (14 * s) 14 ml ml' → K none (S0, mi', ml')) : cq E (d + 1) 325 [.ref 106, .int (nI s), .int (nI t)] K mi ml := by
  have key2 : ∀ mi', cpI (416 * t) (416 * s) 416 mi mi' → ∀ i, i ≤ 14 → ∀ ml', cpL (14 * t) (14 * s) i ml ml' → rn E d 325 K 41 [.ref 106, .int (nI s), .int (nI t), .int (nI i)] [] mi' ml' := fun mi' hc => dn_ind 14 (by
    intro i hi ih ml' hl
    apply rg_X10_copies_41
    rw [ni_le (by omega) (by omega), ni_mul, ni_mul, nI_add, nI_add, nI_add, ni_cl (by omega), ni_cl (by omega)]
    refine ⟨fun q => ?_, fun q => ⟨by rw [ni_in (by omega)]; omega, by rw [ni_in (by omega)]; omega, ih (by omega) _ ?_⟩⟩
    · have : i = 14 := by omega
      subst this
      exact hk _ _ hc hl
    · exact cpL_s (N := 14) hl (by omega) (by omega))
  have key : ∀ i, i ≤ 416 → ∀ mi', cpI (416 * t) (416 * s) i mi mi' → rn E d 325 K 2 [.ref 106, .int (nI s), .int (nI t), .int (nI i)] [] mi' ml := dn_ind 416 (by
    intro i hi ih mi' hc
    apply rg_X10_copies_2
    rw [ni_le (by omega) (by omega), ni_mul, ni_mul, nI_add, nI_add, nI_add, ni_cl (by omega), ni_cl (by omega)]
    refine ⟨fun q => ?_, fun q => ⟨by rw [ni_in (by omega)]; omega, by rw [ni_in (by omega)]; omega, ih (by omega) _ ?_⟩⟩
    · have : i = 416 := by omega
      subst this
      exact key2 _ hc 0 (by omega) _ cpL_0
    · exact cpI_s (N := 416) hc (by omega) (by omega))
  apply en_X10_copies
  exact key 0 (by omega) mi cpI_0
theorem kp_b {m : Nat} (h : m < 3) : bt (58 + 16 * m) ∧ S0.2 44 m = some (58 + 16 * m) ∧ yr (67 + 16 * m) ∧ S0.2 45 m = some (67 + 16 * m) := by
  have : m = 0 ∨ m = 1 ∨ m = 2 := by omega
  rcases this with rfl | rfl | rfl <;> exact ⟨by unfold bt; omega, rfl, by unfold yr; omega, rfl⟩
theorem YR_01 {y off no np : Nat} {mi : Nat → Nat → Int32} (h : YR y off no np mi) : (mi y 0 = nI 0 ∨ mi y 0 = nI 1) ∧ ∃ n, n ≤ 60 ∧ mi y 2 = nI n := by
  rcases h with ⟨h0, h8, n, hn, h2⟩ | ⟨h0, n, w, pt, hn, h2, h8, hN, hR⟩
  · exact ⟨Or.inl h0, n, hn, h2⟩
  · exact ⟨Or.inr h0, n, hn, h2⟩
theorem CPF_fY {b b1 n : Nat} {f g : Nat → Nat → Int32} (h : CPF b b1 (TY n) f g) {k j : Nat} (q : k < b ∨ b + 7 ≤ k) : g k j = f k j := (h k j).2 (fun z => by have := z.2; unfold TY at this; omega)
theorem INV_mark {a : Nat → Nat} {m n : Nat} {mi m1 m2 m3 : Nat → Nat → Int32} {ml l1 l3 : Nat → Nat → Int64} (h : INV mi ml) (hB : BY 12 21 0 0 a mi ml) (hm : m < 3) (hmk : mi 0 2 = nI m) (c1 : CPF (58 + 16 * m) 12 TB mi m1) (c2 : CPF (58 + 16 * m) 12 TL ml l1) (hn : mi 21 2 = nI n) (h60 : n ≤ 60) (c3 : CPF (67 + 16 * m) 21 (TY n) m1 m2) (c4 : cpI (416 * (m + 1)) (416 * 0) 416 (am_si (am_si (am_si m2 0 2 (nI (m + 1))) 0 0 (nI 0)) 106 36 (nI (m + 1))) m3) (c5 : cpL (14 * (m + 1)) (14 * 0) 14 l1 l3) : INV (am_si m3 106 2 (nI 0)) l3 := by
  obtain ⟨g1, g2, g3, g4, g5, -, ⟨m', k1, k2, k3, k4⟩, g8, g9⟩ := h
  have em : m' = m := by
    rw [hmk, ni_eq (by omega) (by omega)] at k2
    exact k2.symm
  subst em
  have F : ∀ k j, ¬ ((58 + 16 * m' ≤ k ∧ k < 74 + 16 * m') ∨ (k = 107 ∧ 416 * (m' + 1) ≤ j ∧ j < 416 * (m' + 1) + 416) ∨ (k = 0 ∧ (j = 0 ∨ j = 2)) ∨ (k = 106 ∧ (j = 36 ∨ j = 2))) → am_si m3 106 2 (nI 0) k j = mi k j := fun k j z => by
    rw [si_f (by omega), c4.1 k j (by omega), si_f (by omega), si_f (by omega), si_f (by omega), CPF_fY c3 (by omega), CPF_f c1 T9_B (by omega)]
  have G : ∀ k j, ¬ ((58 + 16 * m' ≤ k ∧ k < 74 + 16 * m') ∨ (k = 108 ∧ 14 * (m' + 1) ≤ j ∧ j < 14 * (m' + 1) + 14)) → l3 k j = ml k j := fun k j z => by
    rw [c5.1 k j (by omega), CPF_f c2 T9_L (by omega)]
  have s36 : am_si m3 106 2 (nI 0) 106 36 = nI (m' + 1) := by rw [si_f (by omega), c4.1 106 36 (by omega), si_t ⟨rfl, rfl⟩]
  have s02 : am_si m3 106 2 (nI 0) 0 2 = nI (m' + 1) := by rw [si_f (by omega), c4.1 0 2 (by omega), si_f (by omega), si_f (by omega), si_t ⟨rfl, rfl⟩]
  have s00 : am_si m3 106 2 (nI 0) 0 0 = nI 0 := by rw [si_f (by omega), c4.1 0 0 (by omega), si_f (by omega), si_t ⟨rfl, rfl⟩]
  refine ⟨by rw [s00, si_t ⟨rfl, rfl⟩], ?_, ?_, R_tape_fr g4 (fun k j z => F k j (by omega)), R_tr_fr g5 (fun k j z => F k j (by omega)) (fun k j z => G k j (by omega)), ⟨a, BY_fr hB (fun k j z => F k j (by unfold BYc at z; omega)) (fun k j z => G k j (by omega))⟩, ⟨m' + 1, by omega, s02, s36, fun j hj => ?_⟩, R_life_fr g8 (fun k j z => F k j (by omega)), R_cst_fr g9 (fun k j z => G k j (by omega))⟩
  · rw [G 11 0 (by omega), G 106 3 (by omega), G 11 1 (by omega), G 106 4 (by omega)]; exact g2
  · rw [F 46 9 (by omega), F 106 16 (by omega), F 46 10 (by omega), F 106 17 (by omega)]; exact g3
  · by_cases e : j < m'
    · obtain ⟨a', ha⟩ := k4 j e
      exact ⟨a', BY_fr ha (fun k i hki => F k i (by unfold BYc at hki; omega)) (fun k i hki => G k i (by omega))⟩
    · have e2 : j = m' := by omega
      subst e2
      refine ⟨a, BY_eq hB (fun i q t => ?_) (fun i q t => ?_) (fun n' hn' hn6 i q t => ?_) (fun q hq => ?_) (fun q hq => ?_)⟩
      · have t' := t
        unfold TB at t'
        rw [si_f (by omega), c4.1 _ _ (by omega), si_f (by omega), si_f (by omega), si_f (by omega), CPF_fY c3 (by omega), CPF_t c1 t]
      · have t' := t
        unfold TL at t'
        rw [c5.1 _ _ (by omega), CPF_t c2 t]
      · rw [hn, ni_eq (by omega) (by omega)] at hn'
        subst hn'
        have t' := t
        unfold TY at t'
        rw [si_f (by omega), c4.1 _ _ (by omega), si_f (by omega), si_f (by omega), si_f (by omega), CPF_t c3 t, CPF_f c1 T9_B (by omega)]
      · rw [si_f (by omega), c4.2 q (by omega), si_f (by omega), si_f (by omega), si_f (by omega), CPF_fY c3 (by omega), CPF_f c1 T9_B (by omega)]
      · rw [c5.2 q hq, CPF_f c2 T9_L (by omega)]
theorem INV_undo {a : Nat → Nat} {m n : Nat} {mi m1 m2 m3 : Nat → Nat → Int32} {ml l1 l3 : Nat → Nat → Int64} (h : INV mi ml) (hm : m < 3) (hmk : mi 0 2 = nI (m + 1)) (hB : BY (58 + 16 * m) (67 + 16 * m) (416 * (m + 1)) (14 * (m + 1)) a mi ml) (c1 : CPF 12 (58 + 16 * m) TB (am_si mi 0 2 (nI m)) m1) (c2 : CPF 12 (58 + 16 * m) TL ml l1) (hn : mi (67 + 16 * m) 2 = nI n) (h60 : n ≤ 60) (c3 : CPF 21 (67 + 16 * m) (TY n) m1 m2) (c4 : cpI (416 * 0) (416 * (m + 1)) 416 (am_si m2 0 0 (nI 0)) m3) (c5 : cpL (14 * 0) (14 * (m + 1)) 14 l1 l3) : INV (am_si (am_si m3 106 36 (nI m)) 106 2 (nI 0)) l3 := by
  obtain ⟨g1, g2, g3, g4, g5, -, ⟨m', k1, k2, k3, k4⟩, g8, g9⟩ := h
  have em : m' = m + 1 := by
    rw [hmk, ni_eq (by omega) (by omega)] at k2
    exact k2.symm
  subst em
  have F : ∀ k j, ¬ ((12 ≤ k ∧ k < 28) ∨ (k = 107 ∧ j < 416) ∨ (k = 0 ∧ (j = 0 ∨ j = 2)) ∨ (k = 106 ∧ (j = 36 ∨ j = 2))) → am_si (am_si m3 106 36 (nI m)) 106 2 (nI 0) k j = mi k j := fun k j z => by
    rw [si_f (by omega), si_f (by omega), c4.1 k j (by omega), si_f (by omega), CPF_fY c3 (by omega), CPF_f c1 T9_B (by omega), si_f (by omega)]
  have G : ∀ k j, ¬ ((12 ≤ k ∧ k < 28) ∨ (k = 108 ∧ j < 14)) → l3 k j = ml k j := fun k j z => by
    rw [c5.1 k j (by omega), CPF_f c2 T9_L (by omega)]
  have s36 : am_si (am_si m3 106 36 (nI m)) 106 2 (nI 0) 106 36 = nI m := by rw [si_f (by omega), si_t ⟨rfl, rfl⟩]
  have s02 : am_si (am_si m3 106 36 (nI m)) 106 2 (nI 0) 0 2 = nI m := by rw [si_f (by omega), si_f (by omega), c4.1 0 2 (by omega), si_f (by omega), CPF_fY c3 (by omega), CPF_f c1 T9_B (by omega), si_t ⟨rfl, rfl⟩]
  have s00 : am_si (am_si m3 106 36 (nI m)) 106 2 (nI 0) 0 0 = nI 0 := by rw [si_f (by omega), si_f (by omega), c4.1 0 0 (by omega), si_t ⟨rfl, rfl⟩]
  refine ⟨by rw [s00, si_t ⟨rfl, rfl⟩], ?_, ?_, R_tape_fr g4 (fun k j z => F k j (by omega)), R_tr_fr g5 (fun k j z => F k j (by omega)) (fun k j z => G k j (by omega)), ⟨a, BY_eq hB (fun i q t => ?_) (fun i q t => ?_) (fun n' hn' hn6 i q t => ?_) (fun q hq => ?_) (fun q hq => ?_)⟩, ⟨m, by omega, s02, s36, fun j hj => ?_⟩, R_life_fr g8 (fun k j z => F k j (by omega)), R_cst_fr g9 (fun k j z => G k j (by omega))⟩
  · rw [G 11 0 (by omega), G 106 3 (by omega), G 11 1 (by omega), G 106 4 (by omega)]; exact g2
  · rw [F 46 9 (by omega), F 106 16 (by omega), F 46 10 (by omega), F 106 17 (by omega)]; exact g3
  · have t' := t
    unfold TB at t'
    rw [si_f (by omega), si_f (by omega), c4.1 _ _ (by omega), si_f (by omega), CPF_fY c3 (by omega), CPF_t c1 t, si_f (by omega)]
  · have t' := t
    unfold TL at t'
    rw [c5.1 _ _ (by omega), CPF_t c2 t]
  · rw [hn, ni_eq (by omega) (by omega)] at hn'
    subst hn'
    have t' := t
    unfold TY at t'
    rw [si_f (by omega), si_f (by omega), c4.1 _ _ (by omega), si_f (by omega), CPF_t c3 t, CPF_f c1 T9_B (by omega), si_f (by omega)]
  · have e := c4.2 q (by omega)
    rw [si_f (by omega), si_f (by omega), show (0 : Nat) + q = 416 * 0 + q by omega, e, si_f (by omega), CPF_fY c3 (by omega), CPF_f c1 T9_B (by omega), si_f (by omega)]
  · have e := c5.2 q hq
    rw [show (0 : Nat) + q = 14 * 0 + q by omega, e, CPF_f c2 T9_L (by omega)]
  · obtain ⟨a', ha⟩ := k4 j (by omega)
    exact ⟨a', BY_fr ha (fun k i hki => F k i (by unfold BYc at hki; omega)) (fun k i hki => G k i (by omega))⟩
theorem op_mark {E : am_E} {K : am_K} {mi : Nat → Nat → Int32} {ml : Nat → Nat → Int64} (hI : INV mi ml) (hk : PR 326 [.ref 106] E K) : cq E 14 180 [.ref 0] K mi ml := by
  obtain ⟨i1, i2, i3, i4, i5, ⟨a, hB⟩, ⟨m, k1, k2, k3, k4⟩, i8, i9⟩ := id hI
  apply en_X9_mark (d := 12)
  rw [k2, ni_lt (by omega) (by omega)]
  refine ⟨fun q => ?_, fun q => ?_⟩
  · obtain ⟨b1, b2, b3, b4⟩ := kp_b q
    obtain ⟨y01, n, hn, h2⟩ := YR_01 hB.2.2.2.2
    rw [ni_cl (by omega)]
    refine ⟨_, b1, by rw [ni_in (by omega)]; exact q, b2, ?_⟩
    apply s_copyFrom b1 bt_12 (by omega)
    intro m1 l1 c1 c2
    apply rg_X9_mark_30
    have e02 : m1 0 2 = nI m := by rw [CPF_f c1 T9_B (by omega), k2]
    have e21 : ∀ j, m1 21 j = mi 21 j := fun j => CPF_f c1 T9_B (by omega)
    rw [e02, ni_cl (by omega)]
    refine ⟨_, b3, by rw [ni_in (by omega)]; exact q, b4, ?_⟩
    apply s_copyYears b3 yr_21 (by omega) (by rw [e21]; exact y01) (by rw [e21]; exact h2) hn
    intro m2 c3
    apply rg_X9_mark_46
    have f02 : m2 0 2 = nI m := by rw [CPF_fY c3 (by omega), e02]
    rw [f02, si_t ⟨rfl, rfl⟩, nI_add]
    refine hk _ _ _ (fun Km hm => ?_)
    apply en_X10_mark (d := 12)
    have f36 : am_si (am_si m2 0 2 (nI (m + 1))) 0 0 (nI 0) 106 36 = nI m := by
      rw [si_f (by omega), si_f (by omega), CPF_fY c3 (by omega), CPF_f c1 T9_B (by omega), k3]
    rw [f36, si_t ⟨rfl, rfl⟩, ni_eq (by omega) (by omega), nI_add]
    refine br_t (by omega) ?_
    apply s_copies (s := 0) (t := m + 1) (by omega) (by omega) (by omega)
    intro m3 l3 c4 c5
    apply rg_X10_mark_33
    rw [show m3 106 36 = nI (m + 1) by rw [c4.1 106 36 (by omega), si_t ⟨rfl, rfl⟩]]
    exact hm _ _ (INV_mark hI hB q k2 c1 c2 h2 hn c3 c4 c5)
  · refine hk _ _ _ (fun Km hm => ?_)
    apply en_X10_mark (d := 12)
    rw [s106, k3, ni_eq (by omega) (by omega)]
    exact br_f (fun z => z (by omega)) (hm _ _ (INV_cm hI fr0_rfl fr0_rfl))
theorem op_undo {E : am_E} {K : am_K} {mi : Nat → Nat → Int32} {ml : Nat → Nat → Int64} (hI : INV mi ml) (hk : PR 327 [.ref 106] E K) : cq E 14 181 [.ref 0] K mi ml := by
  obtain ⟨i1, i2, i3, i4, i5, i6, ⟨m', k1, k2, k3, k4⟩, i8, i9⟩ := id hI
  apply en_X9_undo (d := 12)
  rw [k2, ni_lt (by omega) (by omega)]
  refine ⟨fun q => ?_, fun q => ?_⟩
  · obtain ⟨m, rfl⟩ : ∃ m, m' = m + 1 := ⟨m' - 1, by omega⟩
    obtain ⟨a, hB⟩ := k4 m (by omega)
    obtain ⟨b1, b2, b3, b4⟩ := kp_b (show m < 3 by omega)
    obtain ⟨y01, n, hn, h2⟩ := YR_01 hB.2.2.2.2
    rw [ni_sub (by omega), Nat.add_sub_cancel, si_t ⟨rfl, rfl⟩, ni_cl (by omega)]
    refine ⟨_, b1, by rw [ni_in (by omega)]; omega, b2, ?_⟩
    apply s_copyFrom bt_12 b1 (by omega)
    intro m1 l1 c1 c2
    apply rg_X9_undo_40
    have e02 : m1 0 2 = nI m := by rw [CPF_f c1 T9_B (by omega), si_t ⟨rfl, rfl⟩]
    have e21 : ∀ j, m1 (67 + 16 * m) j = mi (67 + 16 * m) j := fun j => by rw [CPF_f c1 T9_B (by omega), si_f (by omega)]
    rw [e02, ni_cl (by omega)]
    refine ⟨_, b3, by rw [ni_in (by omega)]; omega, b4, ?_⟩
    apply s_copyYears yr_21 b3 (by omega) (by rw [e21]; exact y01) (by rw [e21]; exact h2) hn
    intro m2 c3
    apply rg_X9_undo_56
    have f02 : m2 0 2 = nI m := by rw [CPF_fY c3 (by omega), e02]
    rw [f02]
    refine hk _ _ _ (fun Km hm => ?_)
    apply en_X10_undo (d := 12)
    have f36 : am_si m2 0 0 (nI 0) 106 36 = nI (m + 1) := by
      rw [si_f (by omega), CPF_fY c3 (by omega), CPF_f c1 T9_B (by omega), si_f (by omega), k3]
    rw [f36, ni_eq (by omega) (by omega)]
    refine br_t (by omega) ?_
    apply s_copies (s := m + 1) (t := 0) (by omega) (by omega) (by omega)
    intro m3 l3 c4 c5
    apply rg_X10_undo_23
    rw [si_t ⟨rfl, rfl⟩, show m3 106 36 = nI (m + 1) by rw [c4.1 106 36 (by omega), f36], ni_sub (by omega), Nat.add_sub_cancel]
    exact hm _ _ (INV_undo hI (by omega) k2 hB c1 c2 h2 hn c3 c4 c5)
  · refine hk _ _ _ (fun Km hm => ?_)
    apply en_X10_undo (d := 12)
    rw [s106, k3, ni_eq (by omega) (by omega)]
    exact br_f (fun z => z (by omega)) (hm _ _ (INV_cm hI fr0_rfl fr0_rfl))
