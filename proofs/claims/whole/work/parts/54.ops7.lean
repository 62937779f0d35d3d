/-! fits, fitsAt, ask. -/
theorem agT_0 {mi : Nat → Nat → Int32} {x : Int32} : agT (am_si mi 0 0 x) mi := fun k j z => by rw [si_f (by omega)]
theorem op_fits {E : am_E} {K : am_K} {mi : Nat → Nat → Int32} {ml : Nat → Nat → Int64} (hI : INV mi ml) {u v w9 : Int32} (hk : PR 302 [.ref 106, .int u, .int v, .int w9] E K) : cq E 14 165 [.ref 0, .int u, .int v, .int w9] K mi ml := by
  obtain ⟨i1, i2, i3, i4, i5, ⟨a, hB⟩, i7, i8, i9⟩ := id hI
  have hW : WA a := hB.1.1
  have hC : CB 12 a mi := hB.2.1
  have hM : MA a mi := MS_0.mp hB.2.2.1
  have hMi := hM
  unfold MA at hMi
  obtain ⟨⟨x0, x1, x2, x3, x4, x5, x6, x7, x8⟩, y, z⟩ := id hW
  have w := WA_p2 hW
  have hp0 := p2_pos (a 0)
  have hp1 := p2_pos (a 1)
  obtain ⟨⟨c0, c1, c2, c3, c4, c5, c6, c7⟩, cp, ch, ct, cx, cs⟩ := CB12 hC
  have e0 : nI 1 <<< ms (nI (a 0)) = nI (2 ^ a 0) := by rw [ni_shl (by omega), Nat.one_shiftLeft]
  have e1 : nI 1 <<< ms (nI (a 1)) = nI (2 ^ a 1) := by rw [ni_shl (by omega), Nat.one_shiftLeft]
  have f0 : nI (2 ^ a 0) - nI 1 = nI (2 ^ a 0 - 1) := ni_sub hp0
  have f1 : nI (2 ^ a 1) - nI 1 = nI (2 ^ a 1 - 1) := ni_sub hp1
  have m0 : mi 107 0 = nI (a 0) := hM 0 (by omega) (by omega)
  have m1 : mi 107 1 = nI (a 1) := hM 1 (by omega) (by omega)
  have m6 : mi 107 6 = nI (a 6) := hM 6 (by omega) (by omega)
  have m7 : mi 107 7 = nI (a 7) := hM 7 (by omega) (by omega)
  obtain ⟨r, hr, hA, hB2, hz⟩ := seen_why hC hW i5 u v w9
  apply en_X9_fits (d := 11)
  apply hA
  apply rg_X9_fits_7 (d := 11)
  rw [ni_eq (by omega) (by omega)]
  refine ⟨fun q => ?_, fun q => ?_⟩
  · obtain ⟨p, t, n, nn, s, hp, ht, hn, rfl, rfl, rfl, hL, h2, hg⟩ := hz q
    have hnn := hL.1
    apply s_fitting hC hW hp ht hL h2 hg
    apply rg_X9_fits_29 (d := 11)
    rw [bc_pc (HS_lt _ _ _ _ _)]
    refine hk _ _ _ (fun Km hm => ?_)
    apply en_X10_fits (d := 8)
    apply hB2 E 10 _ _ (MA_0 hM fr0_rfl) agT_0
    apply rg_X10_fits_7 (d := 8)
    rw [ni_le (by omega) (by omega)]
    refine br_t (by omega) ?_
    apply s_holdsOf (MA_0 hM fr0_rfl) hW hp ht (by omega) hg
    apply rg_X10_fits_31 (d := 8)
    apply s_bits (HS_lt _ _ _ _ _)
    apply rg_X10_fits_34 (d := 8)
    exact hm _ _ (INV_cm hI fr0_rfl fr0_rfl)
  · refine hk _ _ _ (fun Km hm => ?_)
    apply en_X10_fits (d := 8)
    apply hB2 E 10 _ _ (MA_0 hM fr0_rfl) agT_0
    apply rg_X10_fits_7 (d := 8)
    rw [ni_le (by omega) (by omega)]
    exact br_f (by omega) (hm _ _ (INV_cm hI fr0_rfl fr0_rfl))
/-- the place at which it is looked, up or down -/
def lkA (w i : Nat) : Nat := if w = 0 then i else 9 - i
theorem bit_none {s : Nat} (hs : s < 1024) {w : Nat} (h : ∀ i, i < 10 → s.testBit (lkA w i) = false) : s = 0 := by
  apply Nat.eq_of_testBit_eq; intro i
  rw [Nat.zero_testBit]
  by_cases e : i < 10
  · unfold lkA at h
    by_cases e2 : w = 0
    · have := h i e; rw [if_pos e2] at this; exact this
    · have := h (9 - i) (by omega); rw [if_neg e2, show 9 - (9 - i) = i by omega] at this; exact this
  · exact tb_hi (n := 10) hs (by omega)
theorem s_lookC {E : am_E} {d : Nat} {K : am_K} {mi : Nat → Nat → Int32} {ml : Nat → Nat → Int64} {s w m : Nat} (hs : s < 1024) (hw : w < 2) (hm : m ≤ 10) (h0 : ∀ i, i < m → s.testBit (lkA w i) = false) (h1 : m < 10 → s.testBit (lkA w m) = true) (hk : K (some (.int (if m < 10 then nI (lkA w m) else nM))) (S0, am_si mi 0 0 (if m < 10 then nI 0 else nI 6), ml)) : rn E (d + 2) 166 K 47 [.ref 0, am_mk, am_mk, am_mk, .int (nI w), am_mk, .int (nI s), .int (nI 0), am_mk] [] mi ml := by
  have key : ∀ i, i ≤ m → rn E (d + 2) 166 K 47 [.ref 0, am_mk, am_mk, am_mk, .int (nI w), am_mk, .int (nI s), .int (nI i), am_mk] [] mi ml := by
    refine dn_ind m (fun i hi ih => ?_)
    apply rg_X9_fitsAt_47
    rw [ni_lt (by omega) (by omega), ni_eq (by omega) (by omega), nI_add]
    refine ⟨fun q => ?_, fun q => ?_⟩
    · rw [if_neg (by omega), if_neg (by omega)] at hk
      exact hk
    · rw [ni_sub (by omega), ni_bit (by omega) (by omega), ni_bit (by omega) (by omega), ni_b0, ni_b0]
      by_cases e : i < m
      · have z := h0 i e
        unfold lkA at z
        refine ⟨fun q2 => ?_, fun q2 => ?_⟩
        · rw [if_neg q2] at z
          exact br_t z (ih e)
        · rw [if_pos (by omega)] at z
          exact br_t z (ih e)
      · have e2 : i = m := by omega
        subst e2
        have z := h1 (by omega)
        rw [if_pos (by omega), if_pos (by omega)] at hk
        unfold lkA at z hk
        refine ⟨fun q2 => ?_, fun q2 => ?_⟩
        · rw [if_neg q2] at z hk
          exact br_f (by rw [z]; decide) hk
        · rw [if_pos (by omega)] at z hk
          exact br_f (by rw [z]; decide) hk
  exact key 0 (by omega)
theorem s_lookM {E : am_E} {d : Nat} {K : am_K} {mi : Nat → Nat → Int32} {ml : Nat → Nat → Int64} {s w m : Nat} (hs : s < 1024) (hw : w < 2) (hm : m < 10) (h0 : ∀ i, i < m → s.testBit (lkA w i) = false) (h1 : s.testBit (lkA w m) = true) (hk : K (some (.int (nI (lkA w m)))) (S0, am_si mi 106 2 (nI 0), ml)) : rn E (d + 5) 303 K 70 [.ref 106, am_mk, am_mk, am_mk, .int (nI w), am_mk, .int (nI s), .int (nI (lkA w 0))] [] mi ml := by
  have key : ∀ i, i ≤ m → rn E (d + 5) 303 K 70 [.ref 106, am_mk, am_mk, am_mk, .int (nI w), am_mk, .int (nI s), .int (nI (lkA w i))] [] mi ml := by
    refine dn_ind m (fun i hi ih => ?_)
    have hl : lkA w i < 10 := by unfold lkA; split <;> omega
    apply rg_X10_fitsAt_70
    rw [ni_bit (by omega) (by omega), ni_b1, ni_eq (by omega) (by omega)]
    by_cases e : i < m
    · rw [h0 i e]
      have ih := ih e
      unfold lkA at ih ⊢
      refine br_t (by decide) ⟨fun q2 => ?_, fun q2 => ?_⟩
      · rw [if_neg q2] at ih ⊢
        rw [ni_addM (by omega), show 9 - i - 1 = 9 - (i + 1) by omega]
        exact ih
      · rw [if_pos (by omega)] at ih ⊢
        rw [nI_add]
        exact ih
    · have e2 : i = m := by omega
      subst e2
      rw [h1]
      exact br_f (fun q => q rfl) hk
  exact key 0 (by omega)
theorem op_fitsAt {E : am_E} {K : am_K} {mi : Nat → Nat → Int32} {ml : Nat → Nat → Int64} (hI : INV mi ml) {u v w9 o9 : Int32} (hk : PR 303 [.ref 106, .int u, .int v, .int w9, .int o9] E K) : cq E 14 166 [.ref 0, .int u, .int v, .int w9, .int o9] K mi ml := by
  obtain ⟨i1, i2, i3, i4, i5, ⟨a, hB⟩, i7, i8, i9⟩ := id hI
  have hW : WA a := hB.1.1
  have hC : CB 12 a mi := hB.2.1
  have hM : MA a mi := MS_0.mp hB.2.2.1
  have hMi := hM
  unfold MA at hMi
  obtain ⟨⟨x0, x1, x2, x3, x4, x5, x6, x7, x8⟩, y, z⟩ := id hW
  have w := WA_p2 hW
  have hp0 := p2_pos (a 0)
  have hp1 := p2_pos (a 1)
  obtain ⟨⟨c0, c1, c2, c3, c4, c5, c6, c7⟩, cp, ch, ct, cx, cs⟩ := CB12 hC
  have e0 : nI 1 <<< ms (nI (a 0)) = nI (2 ^ a 0) := by rw [ni_shl (by omega), Nat.one_shiftLeft]
  have e1 : nI 1 <<< ms (nI (a 1)) = nI (2 ^ a 1) := by rw [ni_shl (by omega), Nat.one_shiftLeft]
  have f0 : nI (2 ^ a 0) - nI 1 = nI (2 ^ a 0 - 1) := ni_sub hp0
  have f1 : nI (2 ^ a 1) - nI 1 = nI (2 ^ a 1 - 1) := ni_sub hp1
  have m0 : mi 107 0 = nI (a 0) := hM 0 (by omega) (by omega)
  have m1 : mi 107 1 = nI (a 1) := hM 1 (by omega) (by omega)
  have m6 : mi 107 6 = nI (a 6) := hM 6 (by omega) (by omega)
  have m7 : mi 107 7 = nI (a 7) := hM 7 (by omega) (by omega)
  apply en_X9_fitsAt (d := 11)
  by_cases hw : ∃ w, w < 2 ∧ o9 = nI w
  case neg =>
    refine rng_bd2 (n := 2) (by omega) (by omega) hw ?_
    refine hk _ _ _ (fun Km hm => ?_)
    apply en_X10_fitsAt (d := 8)
    exact rn8 (n := 1) (by omega) hw (hm _ _ (INV_cm hI fr0_rfl fr0_rfl))
  obtain ⟨wh, hwh, rfl⟩ := hw
  refine rng_ok2 (n := 2) (by omega) hwh ?_
  obtain ⟨r, hr, hA, hB2, hz⟩ := seen_why hC hW i5 u v w9
  apply hA
  apply rg_X9_fitsAt_17 (d := 11)
  rw [ni_eq (by omega) (by omega)]
  refine ⟨fun q => ?_, fun q => ?_⟩
  · obtain ⟨p, t, n, nn, s, hp, ht, hn, rfl, rfl, rfl, hL, h2, hg⟩ := hz q
    have hnn := hL.1
    have hS := HS_lt a p t n ml
    apply s_fitting hC hW hp ht hL h2 hg
    apply rg_X9_fitsAt_42 (d := 11)
    obtain ⟨m, f1, f2, f3⟩ := first_bad (fun i => (HS a p t n ml).testBit (lkA wh i) = false) 10
    have f4 : m < 10 → (HS a p t n ml).testBit (lkA wh m) = true := fun z => by simpa using f3 z
    apply s_lookC hS hwh f1 f2 f4
    refine hk _ _ _ (fun Km hm => ?_)
    have hM1 : MA a (am_si mi 0 0 (if m < 10 then nI 0 else nI 6)) := MA_0 hM fr0_rfl
    apply en_X10_fitsAt (d := 8)
    refine rn8_ok (n := 1) (by omega) hwh ?_
    apply hB2 E 10 _ _ hM1 agT_0
    apply rg_X10_fitsAt_22 (d := 8)
    rw [ni_le (by omega) (by omega)]
    refine br_t (by omega) ?_
    apply s_holdsOf hM1 hW hp ht (by omega) hg
    apply rg_X10_fitsAt_43 (d := 8)
    rw [ni_eq (by omega) (by omega), ni_eq (by omega) (by omega)]
    by_cases e : m < 10
    · have ne : ¬ HS a p t n ml = 0 := fun z => by
        have := f4 e
        rw [z, Nat.zero_testBit] at this
        cases this
      rw [if_pos e] at hm ⊢
      have fin := s_lookM (E := E) (d := 8) (K := Km) (mi := am_si mi 0 0 (nI 0)) (ml := ml) hS hwh e f2 (f4 e) (hm _ _ (INV_cm hI fr0_rfl fr0_rfl))
      unfold lkA at fin
      refine br_t ne ⟨fun q2 => ?_, fun q2 => ?_⟩
      · rw [if_neg q2] at fin
        exact fin
      · rw [if_pos (by omega)] at fin
        exact fin
    · have hs0 : HS a p t n ml = 0 := bit_none hS (w := wh) (fun i hi => f2 i (by omega))
      rw [if_neg e] at hm ⊢
      exact br_f (fun q => q hs0) (hm _ _ (INV_cm hI fr0_rfl fr0_rfl))
  · refine hk _ _ _ (fun Km hm => ?_)
    apply en_X10_fitsAt (d := 8)
    refine rn8_ok (n := 1) (by omega) hwh ?_
    apply hB2 E 10 _ _ (MA_0 hM fr0_rfl) agT_0
    apply rg_X10_fitsAt_22 (d := 8)
    rw [ni_le (by omega) (by omega)]
    exact br_f (by omega) (hm _ _ (INV_cm hI fr0_rfl fr0_rfl))
theorem pull1_le {a : Nat → Nat} (hW : WA a) (x o : Nat) : ∀ {n}, n ≤ a 0 → pullS a x (1 <<< o) n ≤ 5 ∧ (n ≤ o → pullS a x (1 <<< o) n = 0)
  | 0, _ => ⟨Nat.zero_le _, fun _ => rfl⟩
  | n + 1, h => by
    have ih := pull1_le hW x o (n := n) (by omega)
    rw [pullS_s]
    by_cases e : n = o
    · rw [ih.2 (by omega)]
      have := (hW.2.1 n (by omega)).2
      exact ⟨by split <;> omega, fun q => by omega⟩
    · have : (ndif (1 <<< o) x).testBit n = false := by
        rw [tb_dif, tb_1shl, decide_eq_false e]; rfl
      rw [this, if_neg (by decide)]
      exact ⟨by omega, fun q => by rw [ih.2 (by omega)]⟩
/-- the reference counts the same that rise -/
theorem ros_eq {a : Nat → Nat} (hW : WA a) (p hs o : Nat) : pc (hs &&& (2 ^ (pullS a (a (16 + 4 * p + 2)) (1 <<< o) (a 0) + 1) - 1)) = rosN a p hs o 10 := by
  unfold pc rosN
  apply nsum_cong
  intro k _
  rw [Nat.testBit_and, tb_all]
  congr 2
  unfold needF
  apply decide_eq_decide.mpr
  omega
theorem op_ask {E : am_E} {K : am_K} {mi : Nat → Nat → Int32} {ml : Nat → Nat → Int64} (hI : INV mi ml) {u v w9 : Int32} (hk : PR 304 [.ref 106, .int u, .int v, .int w9] E K) : cq E 14 167 [.ref 0, .int u, .int v, .int w9] K mi ml := by
  obtain ⟨i1, i2, i3, i4, i5, ⟨a, hB⟩, i7, i8, i9⟩ := id hI
  have hW : WA a := hB.1.1
  have hC : CB 12 a mi := hB.2.1
  have hM : MA a mi := MS_0.mp hB.2.2.1
  have hMi := hM
  unfold MA at hMi
  obtain ⟨⟨x0, x1, x2, x3, x4, x5, x6, x7, x8⟩, y, z⟩ := id hW
  have w := WA_p2 hW
  have hp0 := p2_pos (a 0)
  have hp1 := p2_pos (a 1)
  obtain ⟨⟨c0, c1, c2, c3, c4, c5, c6, c7⟩, cp, ch, ct, cx, cs⟩ := CB12 hC
  have e0 : nI 1 <<< ms (nI (a 0)) = nI (2 ^ a 0) := by rw [ni_shl (by omega), Nat.one_shiftLeft]
  have e1 : nI 1 <<< ms (nI (a 1)) = nI (2 ^ a 1) := by rw [ni_shl (by omega), Nat.one_shiftLeft]
  have f0 : nI (2 ^ a 0) - nI 1 = nI (2 ^ a 0 - 1) := ni_sub hp0
  have f1 : nI (2 ^ a 1) - nI 1 = nI (2 ^ a 1 - 1) := ni_sub hp1
  have m0 : mi 107 0 = nI (a 0) := hM 0 (by omega) (by omega)
  have m1 : mi 107 1 = nI (a 1) := hM 1 (by omega) (by omega)
  have m6 : mi 107 6 = nI (a 6) := hM 6 (by omega) (by omega)
  have m7 : mi 107 7 = nI (a 7) := hM 7 (by omega) (by omega)
  obtain ⟨r, hr, hA, hB2, hz⟩ := seen_why hC hW i5 u v w9
  apply en_X9_ask (d := 11)
  apply hA
  apply rg_X9_ask_7 (d := 11)
  rw [ni_eq (by omega) (by omega)]
  refine ⟨fun q => ?_, fun q => ?_⟩
  case refine_2 =>
    refine hk _ _ _ (fun Km hm => ?_)
    apply en_X10_ask (d := 8)
    apply hB2 E 10 _ _ (MA_0 hM fr0_rfl) agT_0
    apply rg_X10_ask_7 (d := 8)
    rw [ni_le (by omega) (by omega)]
    exact br_f (by omega) (hm _ _ (INV_cm hI fr0_rfl fr0_rfl))
  obtain ⟨p, t, n, nn, s, hp, ht, hn, rfl, rfl, rfl, hL, h2, hg⟩ := hz q
  have hnn := hL.1
  have hS := HS_lt a p t n ml
  have hpc := pc_le (HS a p t n ml)
  apply s_fitting hC hW hp ht hL h2 hg
  apply rg_X9_ask_28 (d := 11)
  rw [bc_pc hS, ni_le (by omega) (by omega)]
  generalize hHS : HS a p t n ml = hs at *
  have hg' : ∀ o, parG a p hs (pc hs) o ≤ pc hs := fun o => by
    have := rosN_le a p hs o
    unfold parG
    omega
  have fin : ∀ x, x ≤ a 0 → (x = if 2 ≤ pc hs then foldN (parS a p hs (pc hs)) (a 0) 0 else 0) → ∀ v w, v = nP x → w = (if x = 0 then nI 6 else nI 0) → K (some (.int v)) (S0, am_si mi 0 0 w, ml) := by
    intro x hx0 hx v w hv hw
    refine hk _ _ _ (fun Km hm => ?_)
    have hM1 : MA a (am_si mi 0 0 w) := MA_0 hM fr0_rfl
    have e0' : am_si mi 0 0 w 107 0 = nI (a 0) := hM1 0 (by omega) (by omega)
    have lv : ∀ y, y ≤ a 0 → (¬ nP y = nM → y ≠ 0 → True) := fun _ _ _ _ => trivial
    have out : x = x → ((¬ nP x = nM → Km (some (.int (nP x))) (S0, am_si (am_si mi 0 0 w) 106 2 (nI 0), ml)) ∧ (¬ (¬ nP x = nM) → Km (some (.int nM)) (S0, am_si (am_si mi 0 0 w) 106 2 (nI 6), ml))) := by
      intro _
      subst hv hw
      match x, hm with
      | 0, hm => exact br_f (fun q => q rfl) (hm _ _ (INV_cm hI fr0_rfl fr0_rfl))
      | k + 1, hm => exact br_t (fun q => (ni_nM (by omega)).mp q) (hm _ _ (INV_cm hI fr0_rfl fr0_rfl))
    have key : 2 ≤ pc hs → ∀ i, i ≤ a 0 → rn E 13 304 Km 40 [.ref 106, .int (nI p), am_mk, am_mk, am_mk, .int (nI hs), .int (nP (foldN (parS a p hs (pc hs)) i 0)), .int (nI (if foldN (parS a p hs (pc hs)) i 0 = 0 then 11 else parG a p hs (pc hs) (foldN (parS a p hs (pc hs)) i 0 - 1))), .int (nI i), am_mk, am_mk] [] (am_si mi 0 0 w) ml := by
      intro h2p
      rw [if_pos h2p] at hx
      refine dn_ind (a 0) (fun i hi ih => ?_)
      apply rg_X10_ask_40 (d := 8)
      rw [e0', ni_le (by omega) (by omega)]
      refine ⟨fun q => ?_, fun q => ?_⟩
      · have : i = a 0 := by omega
        rw [this, ← hx]
        exact out rfl
      · have ih := ih (by omega)
        rw [foldN_s] at ih
        have hxi : foldN (parS a p hs (pc hs)) i 0 ≤ i := foldN_le (fun u x hx => by unfold parS; split <;> omega) i
        generalize foldN (parS a p hs (pc hs)) i 0 = y at *
        unfold parS at ih
        apply s_bits hS
        apply rg_X10_ask_56 (d := 8)
        rw [ni_le (by omega) (by omega), ni_shl (by omega)]
        refine br_f (by omega) ?_
        have hsh := shl_lt (o := i) (n := 6) (by omega)
        apply s_pullOn hM1 hW hp (by omega)
        apply rg_X10_ask_72 (d := 8)
        obtain ⟨hp5, -⟩ := pull1_le hW (a (16 + 4 * p + 2)) i (Nat.le_refl (a 0))
        have ros := ros_eq hW p hs i
        generalize pullS a (a (16 + 4 * p + 2)) (1 <<< i) (a 0) = pl at *
        have e1 : nI 2 <<< ms (nI pl) - nI 1 = nI (2 ^ (pl + 1) - 1) := by
          rw [ni_shl (by omega), show 2 <<< pl = 1 <<< (pl + 1) by rw [Nat.one_shiftLeft, Nat.shiftLeft_eq, Nat.pow_succ, Nat.mul_comm], ni_all (by omega)]
        rw [e1, ni_and]
        apply s_bits (and_lt hS)
        apply rg_X10_ask_79 (d := 8)
        apply s_bits hS
        apply rg_X10_ask_88 (d := 8)
        rw [ros]
        have hrs := rosN_le a p hs i
        have hmax : (if nI (rosN a p hs i 10) < nI (pc hs) - nI (rosN a p hs i 10) then nI (pc hs) - nI (rosN a p hs i 10) else nI (rosN a p hs i 10)) = nI (parG a p hs (pc hs) i) := by
          unfold parG
          rw [ni_sub hrs]
          split
          · next z => rw [ni_lt (by omega) (by omega)] at z; rw [Nat.max_eq_right (by omega)]
          · next z => rw [ni_lt (by omega) (by omega)] at z; rw [Nat.max_eq_left (by omega)]
        have g1 := hg' i
        have g2 := hg' (y - 1)
        rw [hmax, nI_add]
        by_cases hy : y = 0
        · subst hy
          rw [if_pos (show (0 : Nat) = 0 ∨ _ from Or.inl rfl), if_neg (by omega)] at ih
          rw [if_pos rfl, ni_lt (by omega) (by omega)]
          exact br_t (by omega) ih
        · rw [if_neg hy, ni_lt (by omega) (by omega)]
          refine ⟨fun q5 => ?_, fun q5 => ?_⟩
          · rw [if_pos (show (y = 0 ∨ parG a p hs (pc hs) i < parG a p hs (pc hs) (y - 1)) from Or.inr q5), if_neg (by omega)] at ih
            exact ih
          · rw [if_neg (show ¬ (y = 0 ∨ parG a p hs (pc hs) i < parG a p hs (pc hs) (y - 1)) by omega), if_neg hy] at ih
            exact ih
    apply en_X10_ask (d := 8)
    apply hB2 E 10 _ _ hM1 agT_0
    apply rg_X10_ask_7 (d := 8)
    rw [ni_le (by omega) (by omega)]
    refine br_t (by omega) ?_
    apply s_holdsOf hM1 hW hp ht (by omega) hg
    apply rg_X10_ask_28 (d := 8)
    rw [hHS]
    by_cases h2p : 2 ≤ pc hs
    · exact key h2p 0 (by omega)
    · rw [if_neg h2p] at hx
      subst hx
      apply rg_X10_ask_40 (d := 8)
      rw [e0', ni_le (by omega) (by omega)]
      refine ⟨fun q => out rfl, fun q => ?_⟩
      apply s_bits hS
      apply rg_X10_ask_56 (d := 8)
      rw [ni_le (by omega) (by omega)]
      exact br_t (by omega) (out rfl)
  refine ⟨fun q2 => ?_, fun q2 => ?_⟩
  · apply s_partingOmen hC hW hp hS
    apply rg_X9_ask_59 (d := 11)
    have hxi : foldN (parS a p hs (pc hs)) (a 0) 0 ≤ a 0 := foldN_le (fun u x hx => by unfold parS; split <;> omega) (a 0)
    have fin := fin _ hxi (by rw [if_pos q2]) _ _ rfl rfl
    generalize foldN (parS a p hs (pc hs)) (a 0) 0 = x at *
    match x, hxi, fin with
    | 0, _, fin => exact br_f (fun q => q rfl) fin
    | k + 1, hxi, fin =>
      rw [if_neg (by omega)] at fin
      exact br_t (fun q => (ni_nM (by omega)).mp q) fin
  · exact fin 0 (by omega) (by rw [if_neg q2]) _ _ rfl rfl
