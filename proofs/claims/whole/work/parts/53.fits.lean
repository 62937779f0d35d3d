/-! What was seen: which holds fit. -/
theorem lr_ok {s n : Nat} {A B : Prop} (hs : s < n) (hn : n < 2147483648) (hB : B) : (lg_cmp (lN s) 0 < nI 0 → A) ∧ (¬ lg_cmp (lN s) 0 < nI 0 → ((nI 0 ≤ lg_cmp (lN s) (Int32.toInt64 (nI n)) → A) ∧ (¬ nI 0 ≤ lg_cmp (lN s) (Int32.toInt64 (nI n)) → B))) := by
  rw [lgc_lt, lgc_ge, nI_l hn, lN_0, pk_lLT (by omega) (by omega), pk_lLE (by omega) (by omega)]
  exact br_f (by omega) (br_f (by omega) hB)
theorem lr_bad {x : Int64} {n : Nat} {A B : Prop} (hn : n < 2147483648) (hx : ¬ ∃ s, s < n ∧ x = lN s) (hA : A) : (lg_cmp x 0 < nI 0 → A) ∧ (¬ lg_cmp x 0 < nI 0 → ((nI 0 ≤ lg_cmp x (Int32.toInt64 (nI n)) → A) ∧ (¬ nI 0 ≤ lg_cmp x (Int32.toInt64 (nI n)) → B))) := by
  refine ⟨fun _ => hA, fun q => ⟨fun _ => hA, fun q2 => ?_⟩⟩
  rw [lgc_lt] at q
  obtain ⟨k, hk, rfl⟩ := pk_lOf q
  rw [lgc_ge, nI_l hn, pk_lLE (by omega) hk] at q2
  exact absurd ⟨k, by omega, rfl⟩ hx
theorem lr2_ok {s n : Nat} {A B : Prop} (hs : s < n) (hn : n < 2147483648) (hB : B) : (lg_cmp (lN s) 0 < nI 0 → A) ∧ (¬ lg_cmp (lN s) 0 < nI 0 → ((nI 0 < lg_cmp (lN s) (Int32.toInt64 (nI (n - 1))) → A) ∧ (¬ nI 0 < lg_cmp (lN s) (Int32.toInt64 (nI (n - 1))) → B))) := by
  rw [lgc_lt, lgc_gt, nI_l (by omega), lN_0, pk_lLT (by omega) (by omega), pk_lLT (by omega) (by omega)]
  exact br_f (by omega) (br_f (by omega) hB)
theorem lr2_bad {x : Int64} {n : Nat} {A B : Prop} (h1 : 1 ≤ n) (hn : n < 2147483648) (hx : ¬ ∃ s, s < n ∧ x = lN s) (hA : A) : (lg_cmp x 0 < nI 0 → A) ∧ (¬ lg_cmp x 0 < nI 0 → ((nI 0 < lg_cmp x (Int32.toInt64 (nI (n - 1))) → A) ∧ (¬ nI 0 < lg_cmp x (Int32.toInt64 (nI (n - 1))) → B))) := by
  refine ⟨fun _ => hA, fun q => ⟨fun _ => hA, fun q2 => ?_⟩⟩
  rw [lgc_lt] at q
  obtain ⟨k, hk, rfl⟩ := pk_lOf q
  rw [lgc_gt, nI_l (by omega), pk_lLT (by omega) hk] at q2
  exact absurd ⟨k, by omega, rfl⟩ hx
/-- a two is good: a set of omens and a set of people -/
def GD (a : Nat → Nat) (t : Nat) (ml : Nat → Nat → Int64) (i : Nat) : Prop := (∃ s, s < 2 ^ a 0 ∧ ml 111 (60 * t + 2 * i) = lN s) ∧ (∃ s, s < 2 ^ a 1 ∧ ml 111 (60 * t + 2 * i + 1) = lN s)
theorem s_valueAt {E : am_E} {d : Nat} {K : am_K} {mi : Nat → Nat → Int32} {ml : Nat → Nat → Int64} {t p : Nat} (ht : t < 4) (hp : p < 60) (hk : K (some (.long (ml (4 + t) p))) (S0, mi, ml)) : cq E (d + 1) 94 [.ref 2, .int (nI t), .int (nI p)] K mi ml := by
  obtain ⟨t1, t2⟩ := tr_t ht
  apply en_X6_valueAt
  rw [ni_cl (by omega), ni_cl (by omega)]
  exact ⟨_, t1, by rw [ni_in (by omega)]; exact ht, t2, by rw [ni_in (by omega)]; omega, hk⟩
theorem seenC {E : am_E} {d : Nat} {K : am_K} {mi : Nat → Nat → Int32} {ml : Nat → Nat → Int64} {a : Nat → Nat} {t n m nn s : Nat} (hC : CB 12 a mi) (hW : WA a) (ht : t < 4) (hL : LT t nn s mi ml) (h2 : 2 * n ≤ nn) (hm : m ≤ n) (hg : ∀ i, i < m → GD a t ml i) (hb : m < n → ¬ GD a t ml m) (hk : K (some (.int (nI (if m < n then 5 else 0)))) (S0, mi, ml)) : rn E (d + 1) 163 K 66 [.ref 0, am_mk, .int (nI t), .int (nI n), .int (nI 0)] [] mi ml := by
  have hn := hL.1
  have w0 := hW.1.1
  have w1 := hW.1.2.1
  have w := WA_p2 hW
  have c4 := hC.1.2.2.2.2.1
  have c5 := hC.1.2.2.2.2.2.1
  have l8 := hL.2.2.2.2.2.2.2
  have key : ∀ i, i ≤ m → rn E (d + 1) 163 K 66 [.ref 0, am_mk, .int (nI t), .int (nI n), .int (nI i)] [] mi ml := by
    refine dn_ind m (fun i hi ih => ?_)
    apply rg_X9_troubleWithSeen_66
    rw [ni_le (by omega) (by omega), ni_mul]
    refine ⟨fun q => ?_, fun q => ?_⟩
    · rw [if_neg (by omega)] at hk
      exact hk
    · have v1 := l8 (2 * i) (by omega)
      have v2 := l8 (2 * i + 1) (by omega)
      apply s_valueAt ht (by omega)
      apply rg_X9_troubleWithSeen_88
      rw [c4, ni_shl (by omega), Nat.one_shiftLeft, ni_mul, nI_add, v1]
      by_cases e : i < m
      · obtain ⟨⟨s1, g1, g2⟩, s3, g3, g4⟩ := hg i e
        rw [g2]
        refine lr_ok g1 (by omega) ?_
        apply s_valueAt ht (by omega)
        apply rg_X9_troubleWithSeen_112
        rw [c5, ni_shl (by omega), Nat.one_shiftLeft, v2, ← Nat.add_assoc, g4, nI_add]
        exact lr_ok g3 (by omega) (ih e)
      · have e2 : i = m := by omega
        subst e2
        rw [if_pos (by omega)] at hk
        by_cases z1 : ∃ s, s < 2 ^ a 0 ∧ ml 111 (60 * t + 2 * i) = lN s
        · obtain ⟨s1, g1, g2⟩ := id z1
          rw [g2]
          refine lr_ok g1 (by omega) ?_
          apply s_valueAt ht (by omega)
          apply rg_X9_troubleWithSeen_112
          rw [c5, ni_shl (by omega), Nat.one_shiftLeft, v2, ← Nat.add_assoc]
          exact lr_bad (by omega) (fun z2 => hb (by omega) ⟨z1, z2⟩) hk
        · exact lr_bad (by omega) z1 hk
  exact key 0 (by omega)
theorem seenM {E : am_E} {d : Nat} {K : am_K} {mi : Nat → Nat → Int32} {ml : Nat → Nat → Int64} {a : Nat → Nat} {t n m : Nat} (hM : MA a mi) (hW : WA a) (ht : t < 4) (h2 : 2 * n ≤ 60) (hm : m ≤ n) (hg : ∀ i, i < m → GD a t ml i) (hb : m < n → ¬ GD a t ml m) (hk : K (some (.int (nI (if m < n then 5 else 0)))) (S0, mi, ml)) : rn E (d + 2) 299 K 58 [.ref 106, am_mk, .int (nI t), .int (nI n), .int (nI 0)] [] mi ml := by
  have w0 := hW.1.1
  have w1 := hW.1.2.1
  have w := WA_p2 hW
  have p0 := p2_pos (a 0)
  have p1 := p2_pos (a 1)
  have m0 : mi 107 0 = nI (a 0) := hM 0 (by omega) (by omega)
  have m1 : mi 107 1 = nI (a 1) := hM 1 (by omega) (by omega)
  have key : ∀ i, i ≤ m → rn E (d + 2) 299 K 58 [.ref 106, am_mk, .int (nI t), .int (nI n), .int (nI i)] [] mi ml := by
    refine dn_ind m (fun i hi ih => ?_)
    apply rg_X10_wrongFits_58
    rw [ni_le (by omega) (by omega), ni_mul, ni_mul, nI_add, nI_add, nI_add, m0, m1, ni_shl (by omega), ni_shl (by omega), ni_all (by omega), ni_all (by omega), ni_cl (by omega), ni_cl (by omega)]
    have hin1 : vp_in (nI (60 * t + 2 * i)) 240 ∨ n ≤ i := by
      by_cases z : n ≤ i
      · exact Or.inr z
      · exact Or.inl (by rw [ni_in (by omega)]; omega)
    refine ⟨fun q => ?_, fun q => ⟨by rw [ni_in (by omega)]; omega, ?_⟩⟩
    · rw [if_neg (by omega)] at hk
      exact hk
    · by_cases e : i < m
      · obtain ⟨⟨s1, g1, g2⟩, s3, g3, g4⟩ := hg i e
        rw [g2, g4]
        exact lr2_ok g1 (by omega) ⟨by rw [ni_in (by omega)]; omega, lr2_ok g3 (by omega) (ih e)⟩
      · have e2 : i = m := by omega
        subst e2
        rw [if_pos (by omega)] at hk
        by_cases z1 : ∃ s, s < 2 ^ a 0 ∧ ml 111 (60 * t + 2 * i) = lN s
        · obtain ⟨s1, g1, g2⟩ := id z1
          rw [g2]
          exact lr2_ok g1 (by omega) ⟨by rw [ni_in (by omega)]; omega, lr2_bad p1 (by omega) (fun z2 => hb (by omega) ⟨z1, z2⟩) hk⟩
        · exact lr2_bad p0 (by omega) z1 hk
  exact key 0 (by omega)
theorem first_bad (P : Nat → Prop) (n : Nat) : ∃ m, m ≤ n ∧ (∀ i, i < m → P i) ∧ (m < n → ¬ P m) := by
  induction n with
  | zero => exact ⟨0, Nat.le_refl _, fun _ h => absurd h (Nat.not_lt_zero _), fun h => absurd h (Nat.lt_irrefl _)⟩
  | succ n ih =>
    obtain ⟨m, h1, h2, h3⟩ := ih
    by_cases e : m < n
    · exact ⟨m, by omega, h2, fun _ => h3 e⟩
    · have : m = n := by omega
      subst this
      by_cases z : P m
      · refine ⟨m + 1, Nat.le_refl _, fun i hi => ?_, fun h => absurd h (Nat.lt_irrefl _)⟩
        by_cases e2 : i = m
        · rw [e2]; exact z
        · exact h2 i (by omega)
      · exact ⟨m, by omega, h2, fun _ => z⟩
/-- what stands in the way of what was seen -/
theorem seen_why {a : Nat → Nat} {mi : Nat → Nat → Int32} {ml : Nat → Nat → Int64} (hC : CB 12 a mi) (hW : WA a) (hR : R_tr mi ml) (u v w9 : Int32) : ∃ r, r ≤ 5 ∧ (∀ (E : am_E) (d : Nat) (K : am_K), K (some (.int (nI r))) (S0, mi, ml) → cq E (d + 2) 163 [.ref 0, .int u, .int v, .int w9] K mi ml) ∧ (∀ (E : am_E) (d : Nat) (K : am_K) (m1 : Nat → Nat → Int32), MA a m1 → agT m1 mi → K (some (.int (nI r))) (S0, m1, ml) → cq E (d + 3) 299 [.ref 106, .int u, .int v, .int w9] K m1 ml) ∧ (r = 0 → ∃ p t n nn s, p < a 1 ∧ t < 4 ∧ n ≤ 20 ∧ u = nI p ∧ v = nI t ∧ w9 = nI n ∧ LT t nn s mi ml ∧ 2 * n ≤ nn ∧ ∀ i, i < n → GD a t ml i) := by
  have w0 := hW.1.1
  have w1 := hW.1.2.1
  have c5 := hC.1.2.2.2.2.2.1
  by_cases hu : ∃ p, p < a 1 ∧ u = nI p
  case neg =>
    refine ⟨1, by omega, fun E d K hk => ?_, fun E d K m1 hM ha hk => ?_, fun q => by omega⟩
    · apply en_X9_troubleWithSeen
      rw [c5]
      exact rng_bad (by omega) hu hk
    · apply en_X10_wrongFits
      rw [hM 1 (by omega) (by omega)]
      exact rng_bad (by omega) hu hk
  obtain ⟨p, hp, rfl⟩ := hu
  by_cases hv : ∃ t, t < 4 ∧ v = nI t
  case neg =>
    refine ⟨1, by omega, fun E d K hk => ?_, fun E d K m1 hM ha hk => ?_, fun q => by omega⟩
    · apply en_X9_troubleWithSeen
      rw [c5]
      exact rng_ok (by omega) hp (rng_bad (by omega) hv hk)
    · apply en_X10_wrongFits
      rw [hM 1 (by omega) (by omega)]
      exact rng_ok (by omega) hp (rng_bad (by omega) hv hk)
  obtain ⟨t, ht, rfl⟩ := hv
  have hin : vp_in (nI t) 4 := by rw [ni_in (by omega)]; exact ht
  by_cases hw : ∃ n, n < 21 ∧ w9 = nI n
  case neg =>
    refine ⟨1, by omega, fun E d K hk => ?_, fun E d K m1 hM ha hk => ?_, fun q => by omega⟩
    · apply en_X9_troubleWithSeen
      rw [c5]
      exact rng_ok (by omega) hp (rng_ok (by omega) ht (rng_bd2 (n := 21) (by omega) (by omega) hw hk))
    · apply en_X10_wrongFits
      simp only [lgc_lt, lgc_gt, l64_0, l64_20, w64_lt]
      rw [hM 1 (by omega) (by omega)]
      exact rng_ok (by omega) hp (rng_ok (by omega) ht (rng_bd2 (n := 21) (by omega) (by omega) hw hk))
  obtain ⟨n, hn, rfl⟩ := hw
  rcases tr_cs hR ht with ⟨t1, t2⟩ | ⟨nn, s, hL⟩
  · refine ⟨2, by omega, fun E d K hk => ?_, fun E d K m1 hM ha hk => ?_, fun q => by omega⟩
    · apply en_X9_troubleWithSeen
      rw [c5, ni_cl (a := t) (by omega), t1]
      exact rng_ok (by omega) hp (rng_ok (by omega) ht (rng_ok2 (n := 21) (by omega) hn ⟨hin, br_f (fun q => q rfl) hk⟩))
    · apply en_X10_wrongFits
      simp only [lgc_lt, lgc_gt, l64_0, l64_20, w64_lt]
      rw [hM 1 (by omega) (by omega), ni_cl (a := t) (by omega), ha 110 t (by omega), t2]
      exact rng_ok (by omega) hp (rng_ok (by omega) ht (rng_ok2 (n := 21) (by omega) hn ⟨hin, br_f (fun q => q rfl) hk⟩))
  obtain ⟨l1, l2, l3, l4, l5, l6, l7, l8⟩ := id hL
  by_cases e : 2 * n ≤ nn
  case neg =>
    refine ⟨3, by omega, fun E d K hk => ?_, fun E d K m1 hM ha hk => ?_, fun q => by omega⟩
    · apply en_X9_troubleWithSeen
      rw [c5, ni_cl (a := t) (by omega), l3, l4, ni_mul, ni_le (a := 2 * n) (b := nn) (by omega) (by omega)]
      exact rng_ok (by omega) hp (rng_ok (by omega) ht (rng_ok2 (n := 21) (by omega) hn ⟨hin, br_t (by decide) ⟨hin, br_f e hk⟩⟩))
    · apply en_X10_wrongFits
      simp only [lgc_lt, lgc_gt, l64_0, l64_20, w64_lt]
      rw [hM 1 (by omega) (by omega), ni_cl (a := t) (by omega), ha 110 t (by omega), l5, ni_nM (by omega), ni_mul, ni_le (a := 2 * n) (b := nn) (by omega) (by omega)]
      exact rng_ok (by omega) hp (rng_ok (by omega) ht (rng_ok2 (n := 21) (by omega) hn ⟨hin, br_t (fun q => q) ⟨hin, br_f e hk⟩⟩))
  obtain ⟨m, f1, f2, f3⟩ := first_bad (GD a t ml) n
  refine ⟨if m < n then 5 else 0, by split <;> omega, fun E d K hk => ?_, fun E d K m1 hM ha hk => ?_, fun q => ?_⟩
  · apply en_X9_troubleWithSeen
    rw [c5, ni_cl (a := t) (by omega), l3, l4, ni_mul, ni_le (a := 2 * n) (b := nn) (by omega) (by omega)]
    exact rng_ok (by omega) hp (rng_ok (by omega) ht (rng_ok2 (n := 21) (by omega) hn ⟨hin, br_t (by decide) ⟨hin, br_t e (seenC hC hW ht hL e f1 f2 f3 hk)⟩⟩))
  · apply en_X10_wrongFits
    simp only [lgc_lt, lgc_gt, l64_0, l64_20, w64_lt]
    rw [hM 1 (by omega) (by omega), ni_cl (a := t) (by omega), ha 110 t (by omega), l5, ni_nM (by omega), ni_mul, ni_le (a := 2 * n) (b := nn) (by omega) (by omega)]
    exact rng_ok (by omega) hp (rng_ok (by omega) ht (rng_ok2 (n := 21) (by omega) hn ⟨hin, br_t (fun q => q) ⟨hin, br_t e (seenM hM hW ht (by omega) f1 f2 f3 hk)⟩⟩))
  · have e2 : ¬ m < n := fun z => by rw [if_pos z] at q; omega
    have e3 : m = n := by omega
    subst e3
    exact ⟨p, t, m, nn, s, hp, ht, by omega, rfl, rfl, rfl, hL, e, f2⟩
/-! Which holds fit. -/
def lvN (x : Int64) : Nat := x.toInt.toNat
theorem lv_lN {n : Nat} (h : n < 2 ^ 63) : lvN (lN n) = n := by
  unfold lvN; rw [pk_lT h]; rfl
def allB (f : Nat → Bool) : Nat → Bool
  | 0 => true
  | n + 1 => allB f n && f n
theorem allB_f {f : Nat → Bool} {i : Nat} (h : f i = false) : ∀ {n}, i < n → allB f n = false
  | 0, q => absurd q (Nat.not_lt_zero _)
  | n + 1, q => by
    show (allB f n && f n) = false
    by_cases e : i = n
    · rw [← e, h, Bool.and_false]
    · rw [allB_f h (show i < n by omega), Bool.false_and]
def SO (t : Nat) (ml : Nat → Nat → Int64) (i : Nat) : Nat := lvN (ml 111 (60 * t + 2 * i))
def SP (t : Nat) (ml : Nat → Nat → Int64) (i : Nat) : Nat := lvN (ml 111 (60 * t + 2 * i + 1))
def fit1 (a : Nat → Nat) (p t : Nat) (ml : Nat → Nat → Int64) (h i : Nat) : Bool := decide (needF a h (a (16 + 4 * p + 2)) (SO t ml i) ≤ pc (seesA a p &&& SP t ml i)) == (SP t ml i).testBit p
def HS (a : Nat → Nat) (p t n : Nat) (ml : Nat → Nat → Int64) : Nat := bset (fun h => allB (fit1 a p t ml h) n) 10
theorem HS_lt (a : Nat → Nat) (p t n : Nat) (ml : Nat → Nat → Int64) : HS a p t n ml < 1024 := bset_lt _ 10
theorem GD_v {a : Nat → Nat} {t : Nat} {ml : Nat → Nat → Int64} {i : Nat} (hW : WA a) (h : GD a t ml i) : SO t ml i < 2 ^ a 0 ∧ SP t ml i < 2 ^ a 1 ∧ ml 111 (60 * t + 2 * i) = lN (SO t ml i) ∧ ml 111 (60 * t + 2 * i + 1) = lN (SP t ml i) := by
  have w := WA_p2 hW
  obtain ⟨⟨s1, g1, g2⟩, s3, g3, g4⟩ := h
  unfold SO SP
  rw [g2, g4, lv_lN (by omega), lv_lN (by omega)]
  exact ⟨g1, g3, rfl, rfl⟩
theorem s_fitting {E : am_E} {d : Nat} {K : am_K} {mi : Nat → Nat → Int32} {ml : Nat → Nat → Int64} {a : Nat → Nat} {p t n nn s : Nat} (hC : CB 12 a mi) (hW : WA a) (hp : p < a 1) (ht : t < 4) (hL : LT t nn s mi ml) (h2 : 2 * n ≤ nn) (hg : ∀ i, i < n → GD a t ml i) (hk : K (some (.int (nI (HS a p t n ml)))) (S0, mi, ml)) : cq E (d + 2) 164 [.ref 0, .int (nI p), .int (nI t), .int (nI n)] K mi ml := by
  have hn := hL.1
  have w0 := hW.1.1
  have w1 := hW.1.2.1
  have w := WA_p2 hW
  have l8 := hL.2.2.2.2.2.2.2
  have cs : mi 18 p = nI (seesA a p) := (hC.2.2 p hp).2.2.2
  have hsl := sees_lt hW p
  have key : ∀ h, h ≤ 10 → rn E (d + 1) 164 K 6 [.ref 0, .int (nI p), .int (nI t), .int (nI n), .int (nI (bset (fun h => allB (fit1 a p t ml h) n) h)), .int (nI h), am_mk, am_mk, am_mk, am_mk, am_mk, am_mk] [] mi ml := by
    refine dn_ind 10 (fun h hh ih => ?_)
    apply rg_X9_fittingHolds_6
    rw [ni_lt (by omega) (by omega)]
    refine ⟨fun q => ?_, fun q => ?_⟩
    · have : h = 10 := by omega
      subst this
      exact hk
    · have ih := ih (by omega)
      rw [bset_if] at ih
      have inner : ∀ i, i ≤ n → rn E (d + 1) 164 K 19 [.ref 0, .int (nI p), .int (nI t), .int (nI n), .int (nI (bset (fun h => allB (fit1 a p t ml h) n) h)), .int (nI h), .int (nI (b01 (allB (fit1 a p t ml h) i))), .int (nI i), am_mk, am_mk, am_mk, am_mk] [] mi ml := by
        refine dn_ind n (fun i hi ih2 => ?_)
        apply rg_X9_fittingHolds_19
        rw [ni_le (by omega) (by omega), ni_b0, ni_or, ni_shl (by omega), ni_or, nI_add, ni_mul]
        refine ⟨fun q2 => ?_, fun q2 => ?_⟩
        · have : i = n := by omega
          subst this
          refine ⟨fun q3 => ?_, fun q3 => ?_⟩
          · rw [if_neg (by rw [q3]; decide)] at ih; exact ih
          · rw [if_pos (by simpa using q3)] at ih; exact ih
        · have ih2 := ih2 (by omega)
          obtain ⟨g1, g2, g3, g4⟩ := GD_v hW (hg i (by omega))
          have v1 := l8 (2 * i) (by omega)
          have v2 := l8 (2 * i + 1) (by omega)
          rw [g3] at v1
          rw [← Nat.add_assoc, g4] at v2
          apply s_valueAt ht (by omega)
          apply rg_X9_fittingHolds_37
          rw [ni_mul, nI_add, v1, lN_i]
          apply s_valueAt ht (by omega)
          apply rg_X9_fittingHolds_54
          rw [v2, lN_i, ni_cl (by omega), cs, ni_and, bc_pc (Nat.lt_of_lt_of_le (and_lt hsl) (by omega))]
          refine ⟨by rw [ni_in (by omega)]; omega, ?_⟩
          apply s_needWith bt_12 hC hW (by omega) hp (by omega)
          apply rg_X9_fittingHolds_84
          have hnd := needF_le a (h := h) (a (16 + 4 * p + 2)) (SO t ml i) (by omega)
          have hpc := pc_le (seesA a p &&& SP t ml i)
          rw [ni_lt (by omega) (by omega), ni_bit (by omega) (by omega), ni_b0, ni_b0, nI_add]
          have e : allB (fit1 a p t ml h) (i + 1) = (allB (fit1 a p t ml h) i && (decide (needF a h (a (16 + 4 * p + 2)) (SO t ml i) ≤ pc (seesA a p &&& SP t ml i)) == (SP t ml i).testBit p)) := rfl
          rw [e] at ih2
          refine ⟨fun q3 => ?_, fun q3 => ?_⟩
          · rw [decide_eq_false (by omega)] at ih2
            refine ⟨fun q4 => ?_, fun q4 => ?_⟩
            · rw [q4, beq_self_eq_true, Bool.and_true] at ih2
              refine ⟨fun q6 => ?_, fun q6 => ?_⟩
              · rw [q6] at ih2; exact ih2
              · rw [show allB (fit1 a p t ml h) i = true by simpa using q6] at ih2; exact ih2
            · rw [show (SP t ml i).testBit p = true by simpa using q4, show (false == true) = false from rfl, Bool.and_false] at ih2
              exact ⟨fun _ => ih2, fun _ => ih2⟩
          · rw [decide_eq_true (by omega)] at ih2
            refine ⟨fun q4 => ?_, fun q4 => ?_⟩
            · rw [q4, show (true == false) = false from rfl, Bool.and_false] at ih2
              exact ⟨fun _ => ih2, fun _ => ih2⟩
            · rw [show (SP t ml i).testBit p = true by simpa using q4, beq_self_eq_true, Bool.and_true] at ih2
              refine ⟨fun q6 => ?_, fun q6 => ?_⟩
              · rw [q6] at ih2; exact ih2
              · rw [show allB (fit1 a p t ml h) i = true by simpa using q6] at ih2; exact ih2
      exact inner 0 (by omega)
  apply en_X9_fittingHolds
  exact key 0 (by omega)
theorem s_doesFit {E : am_E} {d : Nat} {K : am_K} {mi : Nat → Nat → Int32} {ml : Nat → Nat → Int64} {a : Nat → Nat} {p t n h : Nat} (hM : MA a mi) (hW : WA a) (hp : p < a 1) (ht : t < 4) (h2 : 2 * n ≤ 60) (hh : h ≤ 9) (hg : ∀ i, i < n → GD a t ml i) (hk : K (some (.int (nI (b01 (allB (fit1 a p t ml h) n))))) (S0, mi, ml)) : cq E (d + 4) 300 [.ref 106, .int (nI p), .int (nI h), .int (nI t), .int (nI n)] K mi ml := by
  have w0 := hW.1.1
  have w1 := hW.1.2.1
  have w := WA_p2 hW
  have hsl := sees_lt hW p
  have key : ∀ i, i ≤ n → allB (fit1 a p t ml h) i = true → rn E (d + 3) 300 K 3 [.ref 106, .int (nI p), .int (nI h), .int (nI t), .int (nI n), .int (nI i), am_mk, am_mk, am_mk] [] mi ml := by
    refine dn_ind n (fun i hi ih ha => ?_)
    apply rg_X10_doesFit_3
    rw [ni_le (by omega) (by omega), ni_mul, ni_mul, nI_add, nI_add, ni_cl (by omega), ni_cl (by omega)]
    refine ⟨fun q => ?_, fun q => ⟨by rw [ni_in (by omega)]; omega, by rw [ni_in (by omega)]; omega, ?_⟩⟩
    · have : i = n := by omega
      subst this
      rw [ha] at hk
      exact hk
    · obtain ⟨g1, g2, g3, g4⟩ := GD_v hW (hg i (by omega))
      rw [g3, g4, lN_i, lN_i]
      apply s_pullOn hM hW hp (by omega)
      apply rg_X10_doesFit_55
      have hl := pullS_le hW (a (16 + 4 * p + 2)) (SO t ml i) (Nat.le_refl (a 0))
      have e : (if nI 0 < nI h - nI (pullS a (a (16 + 4 * p + 2)) (SO t ml i) (a 0)) then nI h - nI (pullS a (a (16 + 4 * p + 2)) (SO t ml i) (a 0)) else nI 0) = nI (needF a h (a (16 + 4 * p + 2)) (SO t ml i)) := by
        unfold needF
        split
        · next q =>
          rw [ni_gt0 (by omega) (by omega)] at q
          rw [ni_sub (by omega)]
        · next q =>
          rw [ni_gt0 (by omega) (by omega)] at q
          rw [show h - pullS a (a (16 + 4 * p + 2)) (SO t ml i) (a 0) = 0 by omega]
      have hnd := needF_le a (h := h) (a (16 + 4 * p + 2)) (SO t ml i) (by omega)
      have hpc := pc_le (seesA a p &&& SP t ml i)
      have go : ∀ b, (SP t ml i).testBit p = b → cq E (d + 3) 246 [.ref 106, .int (nI p)] (kc E (d + 3) 300 K 73 [.ref 106, .int (nI p), .int (nI h), .int (nI t), .int (nI n), .int (nI i), am_mk, .int (nI (SP t ml i)), .int (nI (needF a h (a (16 + 4 * p + 2)) (SO t ml i)))] [.int (nI (b01 b))]) mi ml := by
        intro b hb
        apply s_seenByM hM hW hp
        apply rg_X10_doesFit_73
        rw [ni_and]
        apply s_bits (Nat.lt_of_lt_of_le (and_lt hsl) (by omega))
        apply rg_X10_doesFit_79
        rw [ni_lt (by omega) (by omega), nI_add, ni_b0, ni_b1]
        have ef : fit1 a p t ml h i = (decide (needF a h (a (16 + 4 * p + 2)) (SO t ml i) ≤ pc (seesA a p &&& SP t ml i)) == b) := by unfold fit1; rw [hb]
        have bad : fit1 a p t ml h i = false → K (some (.int (nI 0))) (S0, mi, ml) := fun z => by
          rw [allB_f z (show i < n by omega)] at hk; exact hk
        have ok : fit1 a p t ml h i = true → rn E (d + 3) 300 K 3 [.ref 106, .int (nI p), .int (nI h), .int (nI t), .int (nI n), .int (nI (i + 1)), am_mk, am_mk, am_mk] [] mi ml := fun z => ih (by omega) (by
          show (allB (fit1 a p t ml h) i && fit1 a p t ml h i) = true
          rw [ha, z]; rfl)
        refine ⟨fun q3 => ?_, fun q3 => ?_⟩
        · rw [decide_eq_false (by omega)] at ef
          cases b
          · exact br_t rfl (ok ef)
          · exact br_f (by decide) (bad ef)
        · rw [decide_eq_true (by omega)] at ef
          cases b
          · exact br_f (by decide) (bad ef)
          · exact br_t rfl (ok ef)
      rw [ni_bit (by omega) (by omega), ni_b1, e]
      cases hb : (SP t ml i).testBit p
      · exact br_t (by decide) (go _ hb)
      · exact br_f (fun q => q rfl) (go _ hb)
  apply en_X10_doesFit
  exact key 0 (by omega) rfl
theorem s_holdsOf {E : am_E} {d : Nat} {K : am_K} {mi : Nat → Nat → Int32} {ml : Nat → Nat → Int64} {a : Nat → Nat} {p t n : Nat} (hM : MA a mi) (hW : WA a) (hp : p < a 1) (ht : t < 4) (h2 : 2 * n ≤ 60) (hg : ∀ i, i < n → GD a t ml i) (hk : K (some (.int (nI (HS a p t n ml)))) (S0, mi, ml)) : cq E (d + 5) 301 [.ref 106, .int (nI p), .int (nI t), .int (nI n)] K mi ml := by
  have key : ∀ h, h ≤ 10 → rn E (d + 4) 301 K 6 [.ref 106, .int (nI p), .int (nI t), .int (nI n), .int (nI (bset (fun h => allB (fit1 a p t ml h) n) h)), .int (nI h)] [] mi ml := by
    refine dn_ind 10 (fun h hh ih => ?_)
    apply rg_X10_holdsOf_6
    rw [ni_lt (by omega) (by omega)]
    refine ⟨fun q => ?_, fun q => ?_⟩
    · have : h = 10 := by omega
      subst this
      exact hk
    · have ih := ih (by omega)
      rw [bset_if] at ih
      apply s_doesFit hM hW hp ht h2 (by omega) hg
      apply rg_X10_holdsOf_24
      rw [ni_b0, ni_or, ni_shl (by omega), ni_or, nI_add]
      refine ⟨fun q3 => ?_, fun q3 => ?_⟩
      · rw [if_neg (by rw [q3]; decide)] at ih; exact ih
      · rw [if_pos (by simpa using q3)] at ih; exact ih
  apply en_X10_holdsOf
  exact key 0 (by omega)
