/-! years: the reference's text, both side by side. -/
def yscr (k j : Nat) : Prop := (k = 106 ∧ (j = 2 ∨ 10 ≤ j ∧ j ≤ 20 ∨ j = 22 ∨ j = 23)) ∨ k = 113 ∨ k = 114 ∨ (k = 107 ∧ 1664 ≤ j)
def GEy (K : am_K) (mi : Nat → Nat → Int32) (ml : Nat → Nat → Int64) (x : YSt) : Prop := ∀ mi', (∀ k j, ¬ yscr k j → ¬ (k = 107 ∧ (j = 8 ∨ 48 ≤ j ∧ j < 408)) → mi' k j = mi k j) → mi' 107 8 = nI x.2.2.1 → (∀ k, k < x.2.2.1 → RKm 0 x.2.2.2.2.2 mi' k) → mi' 106 16 = nI 0 → mi' 106 17 = nM → mi' 106 2 = nI 0 → mi' 106 10 = nI 0 → K (some (.int (nI x.2.1))) (S0, mi', ml)
def BEy (K : am_K) (mi : Nat → Nat → Int32) (ml : Nat → Nat → Int64) (k s : Nat) : Prop := (1 ≤ k ∧ k ≤ 9) ∧ ∀ mi', (∀ k j, ¬ yscr k j → mi' k j = mi k j) → mi' 106 16 = nI k → mi' 106 17 = nI s → mi' 106 2 = nI 9 → mi' 106 10 = nI 0 → K (some (.int nM)) (S0, mi', ml)
section
variable {E : am_E} {d : Nat} {K : am_K} {mi : Nat → Nat → Int32} {ml : Nat → Nat → Int64} {c : Nat → Nat} {n : Nat} {on : Nat → Nat} {no : Nat} {pn : Nat → Nat} {np p : Nat} {m0 : Nat → Nat → Int32}
theorem s_yearsEnd {x : YSt} (hx : WFy no np x) (hd : x.2.2.2.1 = 0) (hC : CSn c n m0 x.2.1 x.2.2.1 x.2.2.1 x.2.2.2.1 x.2.2.2.2.1 x.2.2.2.2.2 x.1 mi) (h : GEy K mi ml x) (h10 : mi 106 10 = nI 0) : rn E (d + 12) 234 K 77 [.ref 106, am_mk, am_mk, am_mk] [] mi ml := by
  obtain ⟨-, ⟨c1, c2, c3, -⟩, ⟨d1, d2⟩, -, -, g3, g4⟩ := hC
  obtain ⟨x1, x2, x3, x4⟩ := hx
  have he : x.2.2.1 ≤ 60 := by omega
  have key : ∀ i, i ≤ 408 → 48 ≤ i → ∀ m, (∀ k j, ¬ (k = 107 ∧ (j = 8 ∨ 48 ≤ j ∧ j < 408)) → m k j = mi k j) → m 107 8 = nI x.2.2.1 → (∀ j, 48 ≤ j → j < i → m 107 j = mi 107 (1664 + j)) → rn E (d + 12) 234 K 102 [.ref 106, am_mk, am_mk, .int (nI i)] [] m ml := by
    refine dn_ind 408 (fun i hi ih h48 m f e8 hcp => ?_)
    apply rg_X10_years_102
    rw [ni_le (by omega) (by omega), nI_add, nI_add, ni_cl (by omega), ni_cl (by omega)]
    refine ⟨fun q => ?_, fun q => ⟨by rw [ni_in (by omega)]; omega, by rw [ni_in (by omega)]; omega, ih (by omega) (by omega) _ (fun k j z => by rw [si_f (by omega)]; exact f k j z) (by rw [si_f (by omega)]; exact e8) (fun j j1 j2 => ?_)⟩⟩
    · have ei : i = 408 := by omega
      subst ei
      have e18 : m 106 18 = nI 0 := by rw [f 106 18 (by omega)]; exact g3
      rw [show m 106 23 = nI x.2.1 by rw [f 106 23 (by omega)]; exact c3]
      apply en_X10_taken (d := d + 10)
      rw [si_f (f := m) (by omega), e18]
      refine br_t (by decide) ?_
      apply rg_X10_years_139
      refine h _ (fun k j z1 z2 => ?_) ?_ (fun k hk => ?_) ?_ ?_ ?_ ?_
      · unfold yscr at z1
        rw [si_f (by omega), si_f (by omega)]; exact f k j z2
      · rw [si_f (by omega), si_f (by omega)]; exact e8
      · have r1 := d1 k hk
        have r2 := d2 k hk
        have hn : ¬ opn x.2.2.2.1 x.2.2.2.2.1 k := fun z => by obtain ⟨i, hi, -⟩ := z; omega
        have F : ∀ j, 48 ≤ j → j < 408 → am_si (am_si m 106 16 (nI 0)) 106 2 (nI 0) 107 (0 + j) = mi 107 (1664 + j) := fun j j1 j2 => by
          rw [si_f (by omega), si_f (by omega), Nat.zero_add]; exact hcp j j1 j2
        unfold RKe at r1
        unfold RKm
        rw [F _ (by omega) (by omega), F _ (by omega) (by omega), F _ (by omega) (by omega), F _ (by omega) (by omega), F _ (by omega) (by omega)]
        exact ⟨r1.1, r1.2.1, r1.2.2.1, r1.2.2.2.1, r1.2.2.2.2, fun z => r2 z hn⟩
      · rw [si_f (by omega), si_t ⟨rfl, rfl⟩]
      · rw [si_f (by omega), si_f (by omega), f 106 17 (by omega)]; exact g4
      · rw [si_t ⟨rfl, rfl⟩]
      · rw [si_f (by omega), si_f (by omega), f 106 10 (by omega)]; exact h10
    · by_cases ej : j = i
      · rw [ej, si_t ⟨rfl, rfl⟩, f 107 _ (by omega)]
      · rw [si_f (by omega)]; exact hcp j j1 (by omega)
  apply rg_X10_years_77
  rw [c1]
  exact br_f (fun z => z g3) (key 48 (by omega) (by omega) _ (fun k j z => si_f (by omega)) (si_t ⟨rfl, rfl⟩) (fun j j1 j2 => by omega))
theorem s_yearsM {tl : Nat} (hE : EK E) (hN : NMr on no pn np mi ml) (htl : tl ≤ 900) (h10 : mi 106 10 = nI tl) (hc : ∀ i, i < tl → c i < 256 ∧ mi 112 i = byt (nI (c i))) (hn : n ≤ tl) (hn3 : n ≤ 300) (h : ytxW c n on no pn np (GEy K mi ml) (BEy K mi ml) (n + 1) y00) : cq E (d + 13) 234 [.ref 106, .int (nI n)] K mi ml := by
  have hk4 := fun p => tmK_eq (v := 0) (tkK_le c n p)
  apply en_X10_years
  apply s_begins (n := 0) (d := d + 9) htl (show 300 ≤ 900 by omega) h10 hc
  case h0 => exact fun z => absurd ⟨n, rfl, hn, hn3⟩ z
  intro n' en hn' _ m1 f1 hT1 hM1 h18 h17 h10'
  have en' : n' = n := ((ni_eq (by omega) (by omega)).mp en).symm
  subst en'
  apply rg_X10_years_8
  refine br_t n10 ?_
  have fb : ∀ m, frZ m1 m → (∀ k j, ¬ yscr k j → m k j = mi k j) := fun m f k j z => by
    unfold yscr at z
    rw [f k j (by omega) (by omega) (by omega), f1 k j (by omega) (by omega)]
  have f10 : ∀ m, frZ m1 m → m 106 10 = nI 0 := fun m f => by
    rw [f 106 10 (by omega) (by omega) (by omega)]; exact h10'
  have fin : ∀ k s m, BEy K mi ml k s → frZ m1 m → FLM k s m → rn E (d + 12) 234 K 77 [.ref 106, am_mk, am_mk, am_mk] [] m ml := fun k s m hb g1 hf => by
    obtain ⟨⟨k1, k9⟩, hb⟩ := hb
    apply rg_X10_years_77
    rw [hf.1, show (nI k = nI 0) ↔ k = 0 from ni_eq (by omega) (by omega)]
    refine br_t (by omega) ?_
    apply en_X10_taken (d := d + 10)
    rw [si_f (f := m) (by omega), hf.1, ni_le (by omega) (by omega)]
    refine br_f (by omega) ?_
    apply rg_X10_years_139
    refine hb _ (fun k j z => ?_) ?_ ?_ ?_ ?_
    · have z' := z
      unfold yscr at z'
      rw [si_f (by omega), si_f (by omega)]; exact fb m g1 k j z
    · rw [si_f (by omega), si_t ⟨rfl, rfl⟩]
    · rw [si_f (by omega), si_f (by omega)]; exact hf.2
    · rw [si_t ⟨rfl, rfl⟩]
    · rw [si_f (by omega), si_f (by omega)]; exact f10 m g1
  have hB : ∀ k s, BEy K mi ml k s → Bym (kc E (d + 12) 234 K 53 [.ref 106, am_mk, am_mk, am_mk] []) m1 ml k s := fun k s hb m g1 hf => by
    apply rg_X10_years_53
    apply rg_X10_years_38
    refine br_t rfl ?_
    apply rg_X10_years_57
    have hk := hb.1
    rw [hf.1, show (nI k = nI 0) ↔ k = 0 from ni_eq (by omega) (by omega)]
    refine br_t (by omega) ?_
    exact fin k s m hb g1 hf
  have hN1 : NMr on no pn np m1 ml := by
    obtain ⟨n1, n2, n3, n4, n5, n6⟩ := hN
    exact ⟨n1, n2, by rw [f1 107 0 (by omega) (by omega)]; exact n3, by rw [f1 107 1 (by omega) (by omega)]; exact n4, n5, n6⟩
  have key : ∀ f (x : YSt) m, WFy no np x → x.1 ≤ n' → n' + 1 ≤ x.1 + f → CSn c n' m1 x.2.1 x.2.2.1 x.2.2.1 x.2.2.2.1 x.2.2.2.2.1 x.2.2.2.2.2 x.1 m → ytxW c n' on no pn np (GEy K mi ml) (BEy K mi ml) f x → rn E (d + 12) 234 K 38 [.ref 106, am_mk, .int (nI 1), am_mk] [] m ml := by
    intro f
    induction f with
    | zero => intro x m _ h1 h2; omega
    | succ f ih =>
      intro x m hx hp hf hC h
      have hd3 := hx.2.2.1.1.1
      apply rg_X10_years_38
      refine br_f n10 ?_
      rw [hC.2.2.2.2.1.2.2.1, tm_eq (by omega), (hk4 _).1]
      refine ⟨fun q => ?_, fun q => ?_⟩
      · have h2 := h.1 q
        apply rg_X10_years_57
        rw [hC.2.1.2.1, ni_le (by omega) (by omega)]
        refine br_f (fun z => z hC.2.2.2.2.2.1) ⟨fun q2 => ?_, fun q2 => ?_⟩
        · refine s_yearsEnd hx (by omega) hC (fun m3 g1 => ?_) (f10 m hC.1)
          exact h2.1 (by omega) m3 (fun k j z1 z2 => by rw [g1 k j z1 z2]; exact fb m hC.1 k j z1)
        · have hb := h2.2 (by omega)
          apply s_fails (d := d + 11) hC.2.2.2.2.1 hC.2.2.2.2.2.1
          intro m3 g hf3
          apply rg_X10_years_76
          rw [badK_n (by omega)] at hf3
          exact fin _ _ m3 hb (fun k j z1 z2 z3 => by rw [g k j (by omega)]; exact hC.1 k j z1 z2 z3) hf3
      · apply s_yearStep hE hN1 hx hC hp
        refine yeaW_mono hx hp hB (fun y hy hg m3 hC3 => ?_) (h.2 q)
        apply rg_X10_years_53
        exact ih y m3 hy.2.2 hy.2.1 (by have := hy.1; omega) hC3 hg
  refine key (n' + 1) y00 _ (WFy_00 no np) (Nat.zero_le _) (by omega) ⟨fun k j z1 z2 z3 => by rw [si_f (by omega), si_f (by omega), si_f (by omega)], ⟨by rw [si_f (by omega), si_f (by omega), si_t ⟨rfl, rfl⟩]; rfl, by rw [si_f (by omega), si_t ⟨rfl, rfl⟩]; rfl, by rw [si_t ⟨rfl, rfl⟩]; rfl, fun i hi => absurd hi (Nat.not_lt_zero _)⟩, ⟨fun k hk => absurd hk (Nat.not_lt_zero _), fun k hk => absurd hk (Nat.not_lt_zero _)⟩, TXm_fr hT1 (fun k j z => by rw [si_f (by omega), si_f (by omega), si_f (by omega)]), TM_fr hM1 (fun j z z => by rw [si_f (by omega), si_f (by omega), si_f (by omega)]), ?_, ?_⟩ h
  · rw [si_f (by omega), si_f (by omega), si_f (by omega)]; exact h18
  · rw [si_f (by omega), si_f (by omega), si_f (by omega)]; exact h17
end
theorem pl_ROW {y off no np : Nat} {pl : Nat → Nat → Nat} {mi : Nat → Nat → Int32} {k : Nat} (h : PK no np pl k) (hc : RKc y pl mi k) (hm : RKm off pl mi k) : ROW y off no np (pl 0) (pl 5) mi k := by
  obtain ⟨c0, c3, c4, c1, c2, c5⟩ := hc
  obtain ⟨a0, a3, a4, a2, as, a5⟩ := hm
  refine ⟨c0, ?_⟩
  unfold wm at a0
  rcases h with z | z | ⟨z, t⟩ | ⟨z, t⟩ | ⟨z, t, v⟩ | ⟨z, v1, v2⟩ | z | ⟨z, z2⟩
  · rw [if_neg (by omega), if_neg (by omega), if_neg (by omega), if_neg (by omega)] at a0
    exact Or.inl ⟨z, a0⟩
  · rw [if_neg (by omega), if_neg (by omega), if_neg (by omega), if_pos z] at a0
    exact Or.inr (Or.inl ⟨z, a0⟩)
  · rw [if_neg (by omega), if_neg (by omega), if_neg (by omega), if_neg (by omega)] at a0
    exact Or.inr (Or.inr (Or.inl ⟨z, a0, pl 3 k, t, c3 (by omega), a3 (by omega)⟩))
  · rw [if_neg (by omega), if_neg (by omega), if_neg (by omega), if_neg (by omega)] at a0
    exact Or.inr (Or.inr (Or.inr (Or.inl ⟨z, by rw [a0, z], pl 3 k, t, c3 (by omega), a3 (by omega)⟩)))
  · rw [if_neg (by omega), if_neg (by omega), if_neg (by omega), if_neg (by omega)] at a0
    exact Or.inr (Or.inr (Or.inr (Or.inr (Or.inl ⟨z, by rw [a0, z], pl 3 k, pl 4 k, t, v, c3 (by omega), a3 (by omega), c4 (by omega), a2 (by omega)⟩))))
  · rw [if_neg (by omega), if_pos z] at a0
    exact Or.inr (Or.inr (Or.inr (Or.inr (Or.inr (Or.inl ⟨z, a0, c5 (by omega), a5 (by omega), pl 4 k, v1, v2, c4 (by omega), a4 z⟩)))))
  · rw [if_neg (by omega), if_neg (by omega), if_pos z] at a0
    exact Or.inr (Or.inr (Or.inr (Or.inr (Or.inr (Or.inr (Or.inl ⟨z, a0, c5 (by omega), a5 (by omega)⟩))))))
  · rw [if_pos z] at a0
    refine Or.inr (Or.inr (Or.inr (Or.inr (Or.inr (Or.inr (Or.inr ⟨z, c5 (by omega), a5 (by omega), pl 3 k, c3 (by omega), a3 (by omega), ?_⟩))))))
    have g1 := c1 z
    rcases z2 with ⟨u, t⟩ | ⟨u, t⟩ | ⟨u, t, sg, v⟩
    · rw [if_pos u] at a0
      rw [u] at g1
      exact Or.inl ⟨t, g1, a0⟩
    · rw [if_neg (by omega), if_pos u] at a0
      rw [u] at g1
      exact Or.inr (Or.inl ⟨t, g1, a0⟩)
    · rw [if_neg (by omega), if_neg (by omega)] at a0
      rw [u] at g1
      exact Or.inr (Or.inr ⟨t, g1, a0, pl 2 k, pl 4 k, sg, v, c2 ⟨z, u⟩, as ⟨z, u⟩, c4 (by omega), a2 (by omega)⟩)
theorem name_c {no : Nat} {x y : Nat → Int64} (h : ∀ o, o < no → NMOK (x o) (y o)) : ∃ on : Nat → Nat, ∀ o, o < no → on o < 32 ^ 8 ∧ x o = lN (on o) ∧ y o = lN (cvn 8 (on o)) := by
  refine ⟨fun i => if h2 : i < no then (h i h2).choose else 0, fun i hi => ?_⟩
  dsimp only
  rw [dif_pos hi]
  exact (h i hi).choose_spec
theorem op_years {E : am_E} {K : am_K} {mi : Nat → Nat → Int32} {ml : Nat → Nat → Int64} (hI : INV mi ml) (hE : EK E) {u : Int32} (hk : PR 234 [.ref 106, .int u] E K) : cq E 14 127 [.ref 0, .int u] K mi ml := by
  obtain ⟨i1, i2, i3, ⟨tl, t1, t2, t3, t4⟩, i5, ⟨a, hB⟩, i7, i8, i9⟩ := id hI
  obtain ⟨c, hc⟩ := tape_c t4
  have hW : WA a := hB.1.1
  have x0 : a 0 ≤ 6 := hW.1.1
  have x1 : a 1 ≤ 8 := hW.1.2.1
  obtain ⟨on, hon⟩ := name_c hB.2.2.2.1.1
  obtain ⟨pn, hpn⟩ := name_c hB.2.2.2.1.2
  apply en_X9_years (d := 6)
  rw [t2]
  by_cases hu : ∃ n, n < tl + 1 ∧ n ≤ 300 ∧ u = nI n
  case neg =>
    have rb : ∀ (A B : Prop), A → (u < nI 0 → A) ∧ (¬ u < nI 0 → ((nI tl < u → A) ∧ (¬ nI tl < u → ((u ≤ nI 300 → B) ∧ (¬ u ≤ nI 300 → A))))) := fun A B hA => by
      refine ⟨fun _ => hA, fun q => ⟨fun _ => hA, fun q2 => ⟨fun q3 => ?_, fun _ => hA⟩⟩⟩
      obtain ⟨j, hj, rfl⟩ := ni_pos0 q
      rw [ni_lt (by omega) hj] at q2
      rw [ni_le hj (by omega)] at q3
      exact absurd ⟨j, by omega, q3, rfl⟩ hu
    refine rb _ _ ?_
    refine hk _ _ _ (fun Km hm => ?_)
    apply en_X10_years (d := 1)
    apply s_begins (n := 0) (c := c) (d := 10) t1 (show 300 ≤ 900 by omega) (by rw [s106]; exact t3) (fun i hi => ⟨(hc i hi).1, by rw [si_f (by omega)]; exact (hc i hi).2.2⟩)
    case h1 => exact fun n en hn hn2 => absurd ⟨n, by omega, hn2, en⟩ hu
    intro _
    apply rg_X10_years_8
    exact br_f (fun z => z rfl) (hm _ _ (INV_cm hI fr0_rfl fr0_rfl))
  obtain ⟨n, hn, hn3, rfl⟩ := hu
  have hnt : n ≤ tl := by omega
  rw [ni_lt (by omega) (by omega), ni_lt (by omega) (by omega), ni_le (by omega) (by omega)]
  refine br_f (by omega) (br_f (by omega) (br_t hn3 ?_))
  have hNc : NMc on (a 0) pn (a 1) (am_si mi 46 2 (nI n)) ml := ⟨x0, x1, by rw [si_f (by omega)]; exact hB.2.1.1.2.2.2.2.1, by rw [si_f (by omega)]; exact hB.2.1.1.2.2.2.2.2.1, fun k hk => ⟨(hon k hk).1, (hon k hk).2.1⟩, fun k hk => ⟨(hpn k hk).1, (hpn k hk).2.1⟩⟩
  have hMM := MS_0.mp hB.2.2.1
  have hNr : ∀ m, (∀ j, j < 2 → m 107 j = mi 107 j) → NMr on (a 0) pn (a 1) m ml := fun m hf => ⟨x0, x1, by rw [hf 0 (by omega)]; exact hMM 0 (by omega) (by omega), by rw [hf 1 (by omega)]; exact hMM 1 (by omega) (by omega), fun k hk => ⟨(hon k hk).1, (hon k hk).2.2⟩, fun k hk => ⟨(hpn k hk).1, (hpn k hk).2.2⟩⟩
  obtain ⟨o, hpos, ho⟩ := dq_ytx c n on (a 0) pn (a 1) (n + 1) y00
  match o, hpos, ho with
  | .inl (k, s), hpos, ho =>
    have kp := hpos k s rfl
    apply s_readTextY (d := 6) (c := c) (by omega) (fun i hi => ⟨(hc i (by omega)).1, (hc i (by omega)).2.1⟩) i9 hNc
    refine ho _ _ (fun x z => by (cases z)) (fun k' s' z => ?_)
    obtain ⟨rfl, rfl⟩ : k = k' ∧ s = s' := by (cases z; exact ⟨rfl, rfl⟩)
    intro m1 l1 f1 f2 hf
    apply rg_X9_years_33 (d := 6)
    refine br_f (fun z => z rfl) ?_
    refine hk _ _ _ (fun Km hm => ?_)
    have e1 : ∀ k j, k ≠ 0 → ¬ (37 ≤ k ∧ k ≤ 43) → ¬ (k = 46 ∧ 2 ≤ j) → ¬ (k = 49 ∧ j = 4) → k ≠ 50 → am_si (am_si m1 0 1 (nI 0)) 0 0 (nI 9) k j = mi k j := fun k j z0 z1 z2 z3 z4 => by
      rw [si_f (by omega), si_f (by omega), f1 k j z1 (by omega) z3 z4, si_f (by omega)]
    have hNl : ∀ m, (∀ j, j < 2 → m 107 j = mi 107 j) → NMr on (a 0) pn (a 1) m l1 := fun m hf => by
      obtain ⟨g1, g2, g3, g4, g5, g6⟩ := hNr m hf
      exact ⟨g1, g2, g3, g4, fun k hk => ⟨(g5 k hk).1, by rw [f2 108 _ (by omega)]; exact (g5 k hk).2⟩, fun k hk => ⟨(g6 k hk).1, by rw [f2 108 _ (by omega)]; exact (g6 k hk).2⟩⟩
    apply s_yearsM (d := 1) (c := c) (tl := tl) hE (hNl _ (fun j hj => e1 107 j (by omega) (by omega) (by omega) (by omega) (by omega))) t1 (by rw [e1 106 10 (by omega) (by omega) (by omega) (by omega) (by omega)]; exact t3) (fun i hi => ⟨(hc i hi).1, by rw [e1 112 i (by omega) (by omega) (by omega) (by omega) (by omega)]; exact (hc i hi).2.2⟩) hnt hn3
    refine ho _ _ (fun x z => by (cases z)) (fun k' s' z => ?_)
    obtain ⟨rfl, rfl⟩ : k = k' ∧ s = s' := by (cases z; exact ⟨rfl, rfl⟩)
    refine ⟨kp, fun m2 g1 q1 q2 q3 q4 => hm _ _ (INV_txt hI (fun k j z1 z2 z3 z4 => ?_) (fun k j z => ?_) ?_ ?_ ?_ ?_ q4)⟩
    · unfold scr at z1
      rw [g1 k j (by unfold yscr; omega)]
      by_cases e0 : k = 0
      · rw [si_f (by omega), si_f (by omega), f1 k j (by omega) (by omega) (by omega) (by omega), si_f (by omega)]
      · exact e1 k j e0 (by omega) (by omega) (by omega) (by omega)
    · unfold scl at z
      rw [f2 k j (by omega)]
    · rw [q3, g1 0 0 (by unfold yscr; omega), si_t ⟨rfl, rfl⟩]
    · rw [q1, g1 46 9 (by unfold yscr; omega), si_f (by omega), si_f (by omega)]; exact hf.1
    · rw [q2, g1 46 10 (by unfold yscr; omega), si_f (by omega), si_f (by omega)]; exact hf.2
    · rw [g1 0 1 (by unfold yscr; omega), si_f (by omega), si_t ⟨rfl, rfl⟩]
  | .inr x, hpos, ho =>
    apply s_readTextY (d := 6) (c := c) (by omega) (fun i hi => ⟨(hc i (by omega)).1, (hc i (by omega)).2.1⟩) i9 hNc
    refine ytxW_wf _ _ (WFy_00 _ _) (Nat.zero_le _) (ho _ _ (fun y z => ?_) (fun k s z => by (cases z)))
    obtain rfl : x = y := by (cases z; rfl)
    intro hx hd m1 l1 hC
    obtain ⟨⟨f1, f2⟩, ⟨b1, b2, b3, b4, -⟩, ⟨d1, d2⟩, -, nf1, nf2⟩ := hC
    obtain ⟨y1, y2, y3, y4⟩ := id hx
    have he60 : x.2.2.1 ≤ 60 := by omega
    rw [hd] at y3
    have hno : ∀ k, ¬ opn x.2.2.2.1 x.2.2.2.2.1 k := fun k z => by obtain ⟨i, hi, -⟩ := z; omega
    apply rg_X9_years_33 (d := 6)
    refine br_t n10 ?_
    apply s_copyYears (d := 12) yr_21 yr_37 (by omega) (n := x.2.2.1) (Or.inr (by rw [si_f (by omega)]; exact b1)) (by rw [si_f (by omega)]; exact b3) he60
    intro m2 c1
    apply rg_X9_years_61 (d := 6)
    have eY : ∀ i j, TY x.2.2.1 i j → am_si m2 0 0 (nI 0) (21 + i) j = m1 (37 + i) j := fun i j t => by
      have t' := t
      unfold TY at t'
      rw [si_f (by omega), CPF_t c1 t, si_f (by omega)]
    have e211 : m2 21 1 = nI x.2.1 := by
      have := CPF_t (i := 0) (j := 1) c1 (by unfold TY; omega)
      rw [show (21 : Nat) = 21 + 0 from rfl, this, si_f (by omega)]
      exact b2
    rw [e211]
    refine hk _ _ _ (fun Km hm => ?_)
    have e1 : ∀ k j, k ≠ 0 → ¬ (21 ≤ k ∧ k ≤ 27) → ¬ (37 ≤ k ∧ k ≤ 43) → ¬ (k = 46 ∧ 2 ≤ j) → ¬ (k = 49 ∧ j = 4) → k ≠ 50 → am_si m2 0 0 (nI 0) k j = mi k j := fun k j z0 z5 z1 z2 z3 z4 => by
      rw [si_f (by omega), CPF_fY c1 (by omega), si_f (by omega), f1 k j z1 (by omega) z3 z4, si_f (by omega)]
    have e46 : ∀ j, am_si m2 0 0 (nI 0) 46 j = m1 46 j := fun j => by
      rw [si_f (by omega), CPF_fY c1 (by omega), si_f (by omega)]
    have e01 : am_si m2 0 0 (nI 0) 0 1 = nI 0 := by
      rw [si_f (by omega), CPF_fY c1 (by omega), si_t ⟨rfl, rfl⟩]
    have e02 : am_si m2 0 0 (nI 0) 0 2 = mi 0 2 := by
      rw [si_f (by omega), CPF_fY c1 (by omega), si_f (by omega), f1 0 2 (by omega) (by omega) (by omega) (by omega), si_f (by omega)]
    have e00 : am_si m2 0 0 (nI 0) 0 0 = nI 0 := si_t ⟨rfl, rfl⟩
    generalize am_si m2 0 0 (nI 0) = m3 at *
    have hNl : ∀ m, (∀ j, j < 2 → m 107 j = mi 107 j) → NMr on (a 0) pn (a 1) m l1 := fun m hf => by
      obtain ⟨g1, g2, g3, g4, g5, g6⟩ := hNr m hf
      exact ⟨g1, g2, g3, g4, fun k hk => ⟨(g5 k hk).1, by rw [f2 108 _ (by omega)]; exact (g5 k hk).2⟩, fun k hk => ⟨(g6 k hk).1, by rw [f2 108 _ (by omega)]; exact (g6 k hk).2⟩⟩
    apply s_yearsM (d := 1) (c := c) (tl := tl) hE (hNl _ (fun j hj => e1 107 j (by omega) (by omega) (by omega) (by omega) (by omega) (by omega))) t1 (by rw [e1 106 10 (by omega) (by omega) (by omega) (by omega) (by omega) (by omega)]; exact t3) (fun i hi => ⟨(hc i hi).1, by rw [e1 112 i (by omega) (by omega) (by omega) (by omega) (by omega) (by omega)]; exact (hc i hi).2.2⟩) hnt hn3
    refine ho _ _ (fun y z => ?_) (fun k s z => by (cases z))
    obtain rfl : x = y := by (cases z; rfl)
    intro m4 g1 h8 hR q16 q17 q2 q10
    have F : ∀ k j, ¬ yscr k j → ¬ (k = 107 ∧ (j = 8 ∨ 48 ≤ j ∧ j < 408)) → k ≠ 0 → ¬ (21 ≤ k ∧ k ≤ 27) → ¬ (37 ≤ k ∧ k ≤ 43) → ¬ (k = 46 ∧ 2 ≤ j) → ¬ (k = 49 ∧ j = 4) → k ≠ 50 → m4 k j = mi k j := fun k j z1 z2 z3 z4 z5 z6 z7 z8 => by
      rw [g1 k j z1 z2]; exact e1 k j z3 z4 z5 z6 z7 z8
    have G : ∀ k j, ¬ (k = 46 ∧ j = 7) → l1 k j = ml k j := fun k j z => f2 k j z
    refine hm _ _ ⟨?_, ?_, ?_, ⟨0, by omega, ?_, q10, fun i hi => absurd hi (Nat.not_lt_zero _)⟩, R_tr_fr i5 (fun k j z => F k j (by unfold yscr; omega) (by omega) (by omega) (by omega) (by omega) (by omega) (by omega) (by omega)) (fun k j z => G k j (by omega)), ⟨a, hB.1, CB_frb hB.2.1 (fun k j z => F k j (by unfold yscr; omega) (by omega) (by omega) (by omega) (by omega) (by omega) (by omega) (by omega)), fun k h1 h2 => ?_, ⟨fun o ho => ?_, fun p hp => ?_⟩, Or.inr ⟨?_, x.2.2.1, x.2.2.2.2.2 0, x.2.2.2.2.2 5, he60, ?_, ?_, BN_end y3, fun k hk => pl_ROW (y4 k hk) ?_ (hR k hk)⟩⟩, R_kept_fr i7 (fun k j z => ?_) (fun k j z => G k j (by omega)), R_life_fr i8 (fun k j z => F k j (by unfold yscr; omega) (by omega) (by omega) (by omega) (by omega) (by omega) (by omega) (by omega)), R_cst_fr i9 (fun k j z => G k j (by omega))⟩
    · rw [q2, g1 0 0 (by unfold yscr; omega) (by omega)]; exact e00
    · rw [G 11 0 (by omega), G 106 3 (by omega), G 11 1 (by omega), G 106 4 (by omega)]; exact i2
    · rw [q16, q17, g1 46 9 (by unfold yscr; omega) (by omega), g1 46 10 (by unfold yscr; omega) (by omega), e46, e46]; exact ⟨nf1, nf2⟩
    · rw [g1 0 1 (by unfold yscr; omega) (by omega)]; exact e01
    · rw [F 107 (0 + k) (by unfold yscr; omega) (by omega) (by omega) (by omega) (by omega) (by omega) (by omega) (by omega)]; exact hB.2.2.1 k h1 h2
    · rw [G _ _ (by omega), G _ _ (by omega)]; exact hB.2.2.2.1.1 o ho
    · rw [G _ _ (by omega), G _ _ (by omega)]; exact hB.2.2.2.1.2 p hp
    · rw [g1 21 0 (by unfold yscr; omega) (by omega), show (21 : Nat) = 21 + 0 from rfl, eY 0 0 (by unfold TY; omega)]; exact b1
    · rw [g1 21 2 (by unfold yscr; omega) (by omega), show (21 : Nat) = 21 + 0 from rfl, eY 0 2 (by unfold TY; omega)]; exact b3
    · rw [Nat.zero_add]; exact h8
    · have r1 := d1 k hk
      have r2 := d2 k hk
      have H : ∀ i, 1 ≤ i → i ≤ 6 → m4 (21 + i) k = m1 (37 + i) k := fun i j1 j2 => by
        rw [g1 _ _ (by unfold yscr; omega) (by omega), eY i k (by unfold TY; omega)]
      unfold RKd at r1
      unfold RKc
      rw [H 1 (by omega) (by omega), H 2 (by omega) (by omega), H 3 (by omega) (by omega), H 4 (by omega) (by omega), H 5 (by omega) (by omega), H 6 (by omega) (by omega)]
      exact ⟨r1.1, r1.2.1, r1.2.2.1, r1.2.2.2.1, r1.2.2.2.2, fun z => r2 z (hno k)⟩
    · by_cases e0 : k = 0
      · have : j = 2 := by omega
        subst e0 this
        rw [g1 0 2 (by unfold yscr; omega) (by omega)]; exact e02
      · exact F k j (by unfold yscr; omega) (by omega) e0 (by omega) (by omega) (by omega) (by omega) (by omega)
