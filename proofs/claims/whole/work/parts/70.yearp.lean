/-! The years' text, step by step: what it comes to. -/
/-- place, steps, entries, depth, open ones, rows -/
abbrev YSt := Nat × Nat × Nat × Nat × (Nat → Nat) × (Nat → Nat → Nat)
def rw5 (w t sg th v : Nat) (i : Nat) : Nat := if i = 0 then w else if i = 1 then t else if i = 2 then sg else if i = 3 then th else if i = 4 then v else 0
def rowP (pl : Nat → Nat → Nat) (e w t sg th v : Nat) (i k : Nat) : Nat := if k = e then rw5 w t sg th v i else pl i k
def yclP (pl : Nat → Nat → Nat) (e o : Nat) (i k : Nat) : Nat := if k = e then (if i = 0 then 20 else if i = 5 then o else 0) else if k = o ∧ i = 5 then e else pl i k
theorem rowP_t {pl : Nat → Nat → Nat} {e w t sg th v i : Nat} : rowP pl e w t sg th v i e = rw5 w t sg th v i := if_pos rfl
theorem rowP_f {pl : Nat → Nat → Nat} {e w t sg th v i k : Nat} (h : k ≠ e) : rowP pl e w t sg th v i k = pl i k := if_neg h
theorem yclP_0 {pl : Nat → Nat → Nat} {e o k : Nat} (h : k ≠ e) : yclP pl e o 0 k = pl 0 k := by unfold yclP; rw [if_neg h, if_neg (fun z => by omega)]
theorem yclP_i {pl : Nat → Nat → Nat} {e o i k : Nat} (h : k ≠ e) (hi : i ≠ 5) : yclP pl e o i k = pl i k := by unfold yclP; rw [if_neg h, if_neg (fun z => hi z.2)]
theorem yclP_5 {pl : Nat → Nat → Nat} {e o k : Nat} (h : k ≠ e) (ho : k ≠ o) : yclP pl e o 5 k = pl 5 k := by unfold yclP; rw [if_neg h, if_neg (fun z => ho z.1)]
theorem yclP_o {pl : Nat → Nat → Nat} {e o : Nat} (h : o ≠ e) : yclP pl e o 5 o = e := by unfold yclP; rw [if_neg h, if_pos ⟨rfl, rfl⟩]
theorem yclP_e0 {pl : Nat → Nat → Nat} {e o : Nat} : yclP pl e o 0 e = 20 := by unfold yclP; rw [if_pos rfl, if_pos rfl]
theorem yclP_e5 {pl : Nat → Nat → Nat} {e o : Nat} : yclP pl e o 5 e = o := by unfold yclP; rw [if_pos rfl, if_neg (by omega), if_pos rfl]
def opn (dep : Nat) (op : Nat → Nat) (k : Nat) : Prop := ∃ i, i < dep ∧ op i = k
def BN (e dep : Nat) (op : Nat → Nat) (pl : Nat → Nat → Nat) : Prop :=
  (dep ≤ 3 ∧ (∀ i, i < dep → op i < e ∧ (pl 0 (op i) = 17 ∨ pl 0 (op i) = 19)) ∧ ∀ i j, i < j → j < dep → op i < op j) ∧
  (∀ k, k < e → (pl 0 k = 17 ∨ pl 0 k = 19) → ¬ opn dep op k → k < pl 5 k ∧ pl 5 k < e ∧ pl 0 (pl 5 k) = 20 ∧ pl 5 (pl 5 k) = k ∧ ∀ j, k < j → j < pl 5 k → ((pl 0 j = 17 ∨ pl 0 j = 19) → ¬ opn dep op j ∧ pl 5 j < pl 5 k) ∧ (pl 0 j = 20 → k < pl 5 j)) ∧
  (∀ k, k < e → pl 0 k = 20 → pl 5 k < k ∧ (pl 0 (pl 5 k) = 17 ∨ pl 0 (pl 5 k) = 19) ∧ pl 5 (pl 5 k) = k ∧ ¬ opn dep op (pl 5 k))
theorem BN_0 {op : Nat → Nat} {pl : Nat → Nat → Nat} : BN 0 0 op pl := ⟨⟨by omega, fun i h => absurd h (Nat.not_lt_zero _), fun i j _ h => absurd h (Nat.not_lt_zero _)⟩, fun k h => absurd h (Nat.not_lt_zero _), fun k h => absurd h (Nat.not_lt_zero _)⟩
theorem BN_row {e dep w t sg th v : Nat} {op : Nat → Nat} {pl : Nat → Nat → Nat} (h : BN e dep op pl) (hw : w ≠ 17) (hw2 : w ≠ 19) (hw3 : w ≠ 20) : BN (e + 1) dep op (rowP pl e w t sg th v) := by
  obtain ⟨⟨a1, a2, a3⟩, b, c⟩ := h
  have e0 : rowP pl e w t sg th v 0 e = w := rowP_t
  refine ⟨⟨a1, fun i hi => ?_, a3⟩, fun k hk hb ho => ?_, fun k hk h20 => ?_⟩
  · have := a2 i hi
    rw [rowP_f (by omega)]
    exact ⟨by omega, this.2⟩
  · by_cases ek : k = e
    · subst ek; rw [e0] at hb; omega
    · rw [rowP_f ek] at hb
      obtain ⟨b1, b2, b3, b4, b5⟩ := b k (by omega) hb ho
      rw [rowP_f ek, rowP_f (by omega), rowP_f (by omega)]
      refine ⟨b1, by omega, b3, b4, fun j j1 j2 => ?_⟩
      rw [rowP_f (by omega), rowP_f (by omega)]
      exact b5 j j1 j2
  · by_cases ek : k = e
    · subst ek; rw [e0] at h20; omega
    · rw [rowP_f ek] at h20
      obtain ⟨c1, c2, c3, c4⟩ := c k (by omega) h20
      rw [rowP_f ek, rowP_f (by omega), rowP_f (by omega)]
      exact ⟨c1, c2, c3, c4⟩
theorem opn_up {dep e k : Nat} {op : Nat → Nat} (hk : k ≠ e) : opn (dep + 1) (up1 op dep e) k ↔ opn dep op k := by
  constructor
  · rintro ⟨i, hi, h⟩
    by_cases ei : i = dep
    · subst ei; rw [up1_at] at h; exact absurd h.symm hk
    · rw [up1_f ei] at h; exact ⟨i, by omega, h⟩
  · rintro ⟨i, hi, h⟩
    exact ⟨i, by omega, by rw [up1_f (by omega)]; exact h⟩
theorem BN_open {e dep w t sg th v : Nat} {op : Nat → Nat} {pl : Nat → Nat → Nat} (h : BN e dep op pl) (hw : w = 17 ∨ w = 19) (hd : dep < 3) : BN (e + 1) (dep + 1) (up1 op dep e) (rowP pl e w t sg th v) := by
  obtain ⟨⟨a1, a2, a3⟩, b, c⟩ := h
  have e0 : rowP pl e w t sg th v 0 e = w := rowP_t
  refine ⟨⟨by omega, fun i hi => ?_, fun i j hij hj => ?_⟩, fun k hk hb ho => ?_, fun k hk h20 => ?_⟩
  · by_cases ei : i = dep
    · subst ei; rw [up1_at, e0]; exact ⟨by omega, hw⟩
    · rw [up1_f ei]
      have := a2 i (by omega)
      rw [rowP_f (by omega)]
      exact ⟨by omega, this.2⟩
  · rw [up1_f (show i ≠ dep by omega)]
    by_cases ej : j = dep
    · subst ej; rw [up1_at]; exact (a2 i (by omega)).1
    · rw [up1_f ej]; exact a3 i j hij (by omega)
  · by_cases ek : k = e
    · subst ek; exact absurd ⟨dep, by omega, up1_at⟩ ho
    · rw [rowP_f ek] at hb
      rw [opn_up ek] at ho
      obtain ⟨b1, b2, b3, b4, b5⟩ := b k (by omega) hb ho
      rw [rowP_f ek, rowP_f (by omega), rowP_f (by omega)]
      refine ⟨b1, by omega, b3, b4, fun j j1 j2 => ?_⟩
      rw [rowP_f (by omega), rowP_f (by omega), opn_up (by omega)]
      exact b5 j j1 j2
  · by_cases ek : k = e
    · subst ek; rw [e0] at h20; omega
    · rw [rowP_f ek] at h20
      obtain ⟨c1, c2, c3, c4⟩ := c k (by omega) h20
      rw [rowP_f ek, rowP_f (by omega), rowP_f (by omega), opn_up (by omega)]
      exact ⟨c1, c2, c3, c4⟩
theorem BN_close {e dep : Nat} {op : Nat → Nat} {pl : Nat → Nat → Nat} (h : BN e (dep + 1) op pl) : BN (e + 1) dep op (yclP pl e (op dep)) := by
  obtain ⟨⟨a1, a2, a3⟩, b, c⟩ := h
  obtain ⟨ho1, ho2⟩ := a2 dep (by omega)
  have hop : opn (dep + 1) op (op dep) := ⟨dep, by omega, rfl⟩
  have up : ∀ k, k ≠ op dep → ¬ opn dep op k → ¬ opn (dep + 1) op k := fun k hk hn z => by
    obtain ⟨i, hi, z⟩ := z
    by_cases ei : i = dep
    · subst ei; exact hk z.symm
    · exact hn ⟨i, by omega, z⟩
  have dn : ∀ k, ¬ opn (dep + 1) op k → ¬ opn dep op k := fun k hn z => by
    obtain ⟨i, hi, z⟩ := z
    exact hn ⟨i, by omega, z⟩
  have no : ¬ opn dep op (op dep) := fun z => by
    obtain ⟨i, hi, z⟩ := z
    have := a3 i dep hi (by omega)
    omega
  have ene : op dep ≠ e := by omega
  refine ⟨⟨by omega, fun i hi => ?_, fun i j hij hj => a3 i j hij (by omega)⟩, fun k hk hb hn => ?_, fun k hk h20 => ?_⟩
  · have := a2 i (by omega)
    rw [yclP_0 (by omega)]
    exact ⟨by omega, this.2⟩
  · by_cases ek : k = e
    · subst ek; rw [yclP_e0] at hb; omega
    · rw [yclP_0 ek] at hb
      by_cases eo : k = op dep
      · subst eo
        rw [yclP_o ene, yclP_e0, yclP_e5]
        refine ⟨by omega, by omega, rfl, rfl, fun j j1 j2 => ?_⟩
        rw [yclP_0 (by omega), yclP_5 (by omega) (by omega)]
        refine ⟨fun hj => ?_, fun hj => ?_⟩
        · have hjn : ¬ opn (dep + 1) op j := fun z => by
            obtain ⟨i, hi, z⟩ := z
            by_cases ei : i = dep
            · subst ei; omega
            · have := a3 i dep (by omega) (by omega); omega
          exact ⟨dn j hjn, (b j (by omega) hj hjn).2.1⟩
        · obtain ⟨c1, c2, c3, c4⟩ := c j (by omega) hj
          rcases Nat.lt_trichotomy (pl 5 j) (op dep) with z | z | z
          · obtain ⟨b1, b2, b3, b4, b5⟩ := b (pl 5 j) (by omega) c2 c4
            rw [c3] at b5
            exact absurd hop ((b5 (op dep) z j1).1 ho2).1
          · rw [z] at c4; exact absurd hop c4
          · exact z
      · have hn' := up k eo hn
        obtain ⟨b1, b2, b3, b4, b5⟩ := b k (by omega) hb hn'
        have hpk : pl 5 k ≠ op dep := fun z => by rw [z] at b3; omega
        rw [yclP_5 ek eo, yclP_0 (by omega), yclP_5 (by omega) hpk]
        refine ⟨b1, by omega, b3, b4, fun j j1 j2 => ?_⟩
        obtain ⟨d1, d2⟩ := b5 j j1 j2
        rw [yclP_0 (by omega)]
        refine ⟨fun hj => ?_, fun hj => ?_⟩
        · obtain ⟨q1, q2⟩ := d1 hj
          have : j ≠ op dep := fun z => by rw [z] at q1; exact q1 hop
          rw [yclP_5 (by omega) this]
          exact ⟨dn j q1, q2⟩
        · have : j ≠ op dep := fun z => by rw [z] at hj; omega
          rw [yclP_5 (by omega) this]
          exact d2 hj
  · by_cases ek : k = e
    · subst ek
      rw [yclP_e5, yclP_0 ene, yclP_o ene]
      exact ⟨ho1, ho2, rfl, no⟩
    · rw [yclP_0 ek] at h20
      have : k ≠ op dep := fun z => by rw [z] at h20; omega
      obtain ⟨c1, c2, c3, c4⟩ := c k (by omega) h20
      have h5 : pl 5 k ≠ op dep := fun z => by rw [z] at c4; exact c4 hop
      rw [yclP_5 ek this, yclP_0 (by omega), yclP_5 (by omega) h5]
      exact ⟨c1, c2, c3, dn _ c4⟩
theorem BN_end {e : Nat} {op : Nat → Nat} {pl : Nat → Nat → Nat} (h : BN e 0 op pl) : NST e pl := by
  obtain ⟨-, b, c⟩ := h
  have no : ∀ k, ¬ opn 0 op k := fun k z => by obtain ⟨i, hi, -⟩ := z; omega
  refine fun k hk => ⟨fun hb => ?_, fun h20 => ?_⟩
  · obtain ⟨b1, b2, b3, b4, b5⟩ := b k hk hb (no k)
    exact ⟨b1, b2, b3, b4, fun j j1 j2 => ⟨fun hj => ((b5 j j1 j2).1 hj).2, (b5 j j1 j2).2⟩⟩
  · obtain ⟨c1, c2, c3, c4⟩ := c k hk h20
    exact ⟨c1, c2, c3⟩
/-! what is wanted, in turn -/
def omW (c : Nat → Nat) (n : Nat) (N : Nat → Nat) (m p : Nat) (C : Nat → Prop) (B : Nat → Nat → Prop) : Prop := nmW c n p ((fnd N (tkC c n p) m = 0 → B 3 (tkS c n p)) ∧ (¬ fnd N (tkC c n p) m = 0 → C (fnd N (tkC c n p) m - 1))) B
def cmpP (c : Nat → Nat) (n p : Nat) : Prop := tkK c n p = 2 ∧ ¬ c (tkS c n p) = 59
def cmW (c : Nat → Nat) (n p : Nat) (A : Prop) (B : Nat → Nat → Prop) : Prop := (cmpP c n p → A) ∧ (¬ cmpP c n p → B (badK c n p 2) (tkS c n p))
def tstW (c : Nat → Nat) (n : Nat) (on : Nat → Nat) (no : Nat) (pn : Nat → Nat) (np p : Nat) (C : Nat → Nat → Nat → Nat → Nat → Prop) (B : Nat → Nat → Prop) : Prop :=
  (tkW c n p = 8 + 1 → omW c n pn np (tkE c n p) (fun t => C (tkE c n (tkE c n p)) 8 0 t 0) B) ∧ (¬ tkW c n p = 8 + 1 → (tkW c n p = 18 + 1 → omW c n on no (tkE c n p) (fun t => C (tkE c n (tkE c n p)) 18 0 t 0) B) ∧ (¬ tkW c n p = 18 + 1 →
    (tkW c n p = 7 + 1 → omW c n pn np (tkE c n p) (fun t => cmW c n (tkE c n (tkE c n p)) (numW c n (tkE c n (tkE c n (tkE c n p))) 0 9 (C (tkE c n (tkE c n (tkE c n (tkE c n p)))) 7 (c (tkS c n (tkE c n (tkE c n p)))) t (tkV c n (tkE c n (tkE c n (tkE c n p))))) B) B) B) ∧ (¬ tkW c n p = 7 + 1 → B (badK c n p 2) (tkS c n p))))
def detW (c : Nat → Nat) (n : Nat) (on : Nat → Nat) (no : Nat) (pn : Nat → Nat) (np w p : Nat) (C : Nat → Nat → Nat → Nat → Nat → Prop) (B : Nat → Nat → Prop) : Prop :=
  (w = 12 ∨ w = 13 → omW c n on no p (fun t => C (tkE c n p) 0 0 t 0) B) ∧ (¬ (w = 12 ∨ w = 13) → (w = 14 → omW c n pn np p (fun t => C (tkE c n p) 0 0 t 0) B) ∧ (¬ w = 14 →
    (w = 15 → omW c n pn np p (fun t => numW c n (tkE c n p) 0 9 (C (tkE c n (tkE c n p)) 0 0 t (tkV c n (tkE c n p))) B) B) ∧ (¬ w = 15 → (w = 19 → numW c n p 1 99 (C (tkE c n p) 0 0 0 (tkV c n p)) B) ∧ (¬ w = 19 →
      (w = 17 → tstW c n on no pn np p C B) ∧ (¬ w = 17 → C p 0 0 0 0)))))
def depN (w dep : Nat) : Nat := if w = 17 ∨ w = 19 then dep + 1 else dep
def opN (w dep e : Nat) (op : Nat → Nat) : Nat → Nat := if w = 17 ∨ w = 19 then up1 op dep e else op
def isSp (w : Nat) : Prop := 11 ≤ w ∧ w ≤ 21 ∧ w ≠ 18 ∧ w ≠ 20
def ystW (c : Nat → Nat) (n : Nat) (on : Nat → Nat) (no : Nat) (pn : Nat → Nat) (np w : Nat) (x : YSt) (G : YSt → Prop) (B : Nat → Nat → Prop) : Prop :=
  (x.2.1 = 30 → B 6 (tkS c n x.1)) ∧ (¬ x.2.1 = 30 → ((w = 17 ∨ w = 19) ∧ x.2.2.2.1 = 3 → B 7 (tkS c n x.1)) ∧ (¬ ((w = 17 ∨ w = 19) ∧ x.2.2.2.1 = 3) →
    detW c n on no pn np w (tkE c n x.1) (fun p t sg th v => stopW c n p (G (tkE c n p, x.2.1 + 1, x.2.2.1 + 1, depN w x.2.2.2.1, opN w x.2.2.2.1 x.2.2.1 x.2.2.2.2.1, rowP x.2.2.2.2.2 x.2.2.1 w t sg th v)) B) B))
def yeaW (c : Nat → Nat) (n : Nat) (on : Nat → Nat) (no : Nat) (pn : Nat → Nat) (np : Nat) (x : YSt) (G : YSt → Prop) (B : Nat → Nat → Prop) : Prop :=
  (tkW c n x.1 = 20 + 1 → (x.2.2.2.1 = 0 → B 2 (tkS c n x.1)) ∧ (¬ x.2.2.2.1 = 0 → stopW c n (tkE c n x.1) (G (tkE c n (tkE c n x.1), x.2.1, x.2.2.1 + 1, x.2.2.2.1 - 1, x.2.2.2.2.1, yclP x.2.2.2.2.2 x.2.2.1 (x.2.2.2.2.1 (x.2.2.2.1 - 1)))) B)) ∧ (¬ tkW c n x.1 = 20 + 1 →
    (isSp (tkW c n x.1 - 1) → ystW c n on no pn np (tkW c n x.1 - 1) x G B) ∧ (¬ isSp (tkW c n x.1 - 1) → B (badK c n x.1 2) (tkS c n x.1)))
def ytxW (c : Nat → Nat) (n : Nat) (on : Nat → Nat) (no : Nat) (pn : Nat → Nat) (np : Nat) (G : YSt → Prop) (B : Nat → Nat → Prop) : Nat → YSt → Prop
  | 0, _ => True
  | f + 1, x => (tkK c n x.1 = 3 → (x.2.2.2.1 = 0 → G x) ∧ (¬ x.2.2.2.1 = 0 → B 2 (tkS c n x.1))) ∧ (¬ tkK c n x.1 = 3 → yeaW c n on no pn np x (fun y => ytxW c n on no pn np G B f y) B)
/-! one outcome -/
theorem dq_om {S : Type} {c : Nat → Nat} {n : Nat} {N : Nat → Nat} {m p : Nat} {C : Nat → (S → Prop) → (Nat → Nat → Prop) → Prop} (h : ∀ t, DetP (C t)) : DetP (fun G B => omW c n N m p (fun t => C t G B) B) := dp_nm (dp_if (dp_b (by omega)) (h _))
theorem dq_tst {S : Type} {c : Nat → Nat} {n : Nat} {on : Nat → Nat} {no : Nat} {pn : Nat → Nat} {np p : Nat} {C : Nat → Nat → Nat → Nat → Nat → (S → Prop) → (Nat → Nat → Prop) → Prop} (h : ∀ p t sg th v, DetP (C p t sg th v)) : DetP (fun G B => tstW c n on no pn np p (fun p t sg th v => C p t sg th v G B) B) :=
  dp_if (dq_om (C := fun th G B => C (tkE c n (tkE c n p)) 8 0 th 0 G B) (fun _ => h _ _ _ _ _)) (dp_if (dq_om (C := fun th G B => C (tkE c n (tkE c n p)) 18 0 th 0 G B) (fun _ => h _ _ _ _ _)) (dp_if (dq_om (C := fun th G B => cmW c n (tkE c n (tkE c n p)) (numW c n (tkE c n (tkE c n (tkE c n p))) 0 9 (C (tkE c n (tkE c n (tkE c n (tkE c n p)))) 7 (c (tkS c n (tkE c n (tkE c n p)))) th (tkV c n (tkE c n (tkE c n (tkE c n p)))) G B) B) B) (fun _ => dp_if (dp_num (h _ _ _ _ _)) (dp_b (bk2 _ _ _)))) (dp_b (bk2 _ _ _))))
theorem dq_det {S : Type} {c : Nat → Nat} {n : Nat} {on : Nat → Nat} {no : Nat} {pn : Nat → Nat} {np w p : Nat} {C : Nat → Nat → Nat → Nat → Nat → (S → Prop) → (Nat → Nat → Prop) → Prop} (h : ∀ p t sg th v, DetP (C p t sg th v)) : DetP (fun G B => detW c n on no pn np w p (fun p t sg th v => C p t sg th v G B) B) :=
  dp_if (dq_om (C := fun th G B => C (tkE c n p) 0 0 th 0 G B) (fun _ => h _ _ _ _ _)) (dp_if (dq_om (C := fun th G B => C (tkE c n p) 0 0 th 0 G B) (fun _ => h _ _ _ _ _)) (dp_if (dq_om (C := fun th G B => numW c n (tkE c n p) 0 9 (C (tkE c n (tkE c n p)) 0 0 th (tkV c n (tkE c n p)) G B) B) (fun _ => dp_num (h _ _ _ _ _))) (dp_if (dp_num (h _ _ _ _ _)) (dp_if (dq_tst h) (h _ _ _ _ _)))))
theorem dq_yea (c : Nat → Nat) (n : Nat) (on : Nat → Nat) (no : Nat) (pn : Nat → Nat) (np : Nat) (x : YSt) : DetP (yeaW c n on no pn np x) :=
  dp_if (dp_if (dp_b (by omega)) (dp_stop (dp_g _))) (dp_if (dp_if (dp_b (by omega)) (dp_if (dp_b (by omega)) (dq_det (C := fun p t sg th v G B => stopW c n p (G (tkE c n p, x.2.1 + 1, x.2.2.1 + 1, depN (tkW c n x.1 - 1) x.2.2.2.1, opN (tkW c n x.1 - 1) x.2.2.2.1 x.2.2.1 x.2.2.2.2.1, rowP x.2.2.2.2.2 x.2.2.1 (tkW c n x.1 - 1) t sg th v)) B) (fun _ _ _ _ _ => dp_stop (dp_g _))))) (dp_b (bk2 _ _ _)))
theorem dq_ytx (c : Nat → Nat) (n : Nat) (on : Nat → Nat) (no : Nat) (pn : Nat → Nat) (np : Nat) : ∀ f x, DetP (fun G B => ytxW c n on no pn np G B f x)
  | 0, _ => dp_t
  | f + 1, x => dp_if (dp_if (dp_g _) (dp_b (by omega))) (dp_bind (V := fun y G B => ytxW c n on no pn np G B f y) (dq_yea c n on no pn np x) (fun y => dq_ytx c n on no pn np f y))
/-! what is read is well formed -/
def PKr (no np w t sg th v : Nat) : Prop := PK no np (fun i _ => rw5 w t sg th v i) 0
def WFy (no np : Nat) (x : YSt) : Prop := x.2.1 ≤ 30 ∧ x.2.2.1 + x.2.2.2.1 ≤ 2 * x.2.1 ∧ BN x.2.2.1 x.2.2.2.1 x.2.2.2.2.1 x.2.2.2.2.2 ∧ ∀ k, k < x.2.2.1 → PK no np x.2.2.2.2.2 k
def GDy (n no np : Nat) (x y : YSt) : Prop := x.1 < y.1 ∧ y.1 ≤ n ∧ WFy no np y
theorem omW_mono {c : Nat → Nat} {n : Nat} {N : Nat → Nat} {m p : Nat} {C C' : Nat → Prop} {B B' : Nat → Nat → Prop} (hB : ∀ k s, B k s → B' k s) (hC : ∀ t, t < m → C t → C' t) (h : omW c n N m p C B) : omW c n N m p C' B' :=
  nmW_mono (fun q h2 => ⟨fun q2 => hB _ _ (h2.1 q2), fun q2 => hC _ (by have := fnd_le N (tkC c n p) m; omega) (h2.2 q2)⟩) hB h
theorem cmW_mono {c : Nat → Nat} {n p : Nat} {A A' : Prop} {B B' : Nat → Nat → Prop} (hA : cmpP c n p → A → A') (hB : ∀ k s, B k s → B' k s) (h : cmW c n p A B) : cmW c n p A' B' := ⟨fun q => hA q (h.1 q), fun q => hB _ _ (h.2 q)⟩
theorem cmp_c {c : Nat → Nat} {n p : Nat} (h : cmpP c n p) : c (tkS c n p) = 60 ∨ c (tkS c n p) = 61 ∨ c (tkS c n p) = 62 := by
  obtain ⟨h1, h2⟩ := h
  unfold tkK kN at h1
  split at h1
  · omega
  · split at h1
    · omega
    · split at h1
      · split at h1 <;> omega
      · split at h1
        · next z => omega
        · omega
theorem tstW_mono {c : Nat → Nat} {n : Nat} {on : Nat → Nat} {no : Nat} {pn : Nat → Nat} {np p : Nat} {C C' : Nat → Nat → Nat → Nat → Nat → Prop} {B B' : Nat → Nat → Prop} (hp : p ≤ n) (hB : ∀ k s, B k s → B' k s) (hC : ∀ p' t sg th v, p ≤ p' → p' ≤ n → PKr no np 17 t sg th v → C p' t sg th v → C' p' t sg th v) (h : tstW c n on no pn np p C B) : tstW c n on no pn np p C' B' := by
  have e1 := tkE_ge (c := c) hp
  have e2 := tkE_ge (c := c) e1.2
  have e3 := tkE_ge (c := c) e2.2
  have e4 := tkE_ge (c := c) e3.2
  refine ⟨fun q => omW_mono hB (fun t ht => hC _ _ _ _ _ (by omega) e2.2 ?_) (h.1 q), fun q => ⟨fun q2 => omW_mono hB (fun t ht => hC _ _ _ _ _ (by omega) e2.2 ?_) ((h.2 q).1 q2), fun q2 => ⟨fun q3 => omW_mono hB (fun t ht => cmW_mono (fun q4 => numW_mono (fun q5 => hC _ _ _ _ _ (by omega) e4.2 ?_) hB) hB) (((h.2 q).2 q2).1 q3), fun q3 => hB _ _ (((h.2 q).2 q2).2 q3)⟩⟩⟩
  · exact Or.inr (Or.inr (Or.inr (Or.inr (Or.inr (Or.inr (Or.inr ⟨rfl, Or.inl ⟨rfl, ht⟩⟩))))))
  · exact Or.inr (Or.inr (Or.inr (Or.inr (Or.inr (Or.inr (Or.inr ⟨rfl, Or.inr (Or.inl ⟨rfl, ht⟩)⟩))))))
  · exact Or.inr (Or.inr (Or.inr (Or.inr (Or.inr (Or.inr (Or.inr ⟨rfl, Or.inr (Or.inr ⟨rfl, ht, cmp_c q4, q5.2.2⟩)⟩))))))
theorem detW_mono {c : Nat → Nat} {n : Nat} {on : Nat → Nat} {no : Nat} {pn : Nat → Nat} {np w p : Nat} {C C' : Nat → Nat → Nat → Nat → Nat → Prop} {B B' : Nat → Nat → Prop} (hw : isSp w) (hp : p ≤ n) (hB : ∀ k s, B k s → B' k s) (hC : ∀ p' t sg th v, p ≤ p' → p' ≤ n → PKr no np w t sg th v → C p' t sg th v → C' p' t sg th v) (h : detW c n on no pn np w p C B) : detW c n on no pn np w p C' B' := by
  have e1 := tkE_ge (c := c) hp
  have e2 := tkE_ge (c := c) e1.2
  obtain ⟨w1, w2, w3, w4⟩ := hw
  refine ⟨fun q => omW_mono hB (fun t ht => hC _ _ _ _ _ (by omega) e1.2 ?_) (h.1 q), fun q => ⟨fun q2 => omW_mono hB (fun t ht => hC _ _ _ _ _ (by omega) e1.2 ?_) ((h.2 q).1 q2), fun q2 => ⟨fun q3 => omW_mono hB (fun t ht => numW_mono (fun q5 => hC _ _ _ _ _ (by omega) e2.2 ?_) hB) (((h.2 q).2 q2).1 q3), fun q3 => ⟨fun q4 => numW_mono (fun q5 => hC _ _ _ _ _ (by omega) e1.2 ?_) hB ((((h.2 q).2 q2).2 q3).1 q4), fun q4 => ⟨fun q5 => ?_, fun q5 => hC _ _ _ _ _ (by omega) hp ?_ (((((h.2 q).2 q2).2 q3).2 q4).2 q5)⟩⟩⟩⟩⟩
  · exact Or.inr (Or.inr (Or.inl ⟨q, ht⟩))
  · exact Or.inr (Or.inr (Or.inr (Or.inl ⟨q2, ht⟩)))
  · exact Or.inr (Or.inr (Or.inr (Or.inr (Or.inl ⟨q3, ht, q5.2.2⟩))))
  · exact Or.inr (Or.inr (Or.inr (Or.inr (Or.inr (Or.inl ⟨q4, q5.2.1, q5.2.2⟩)))))
  · subst q5
    exact tstW_mono hp hB hC (((((h.2 q).2 q2).2 q3).2 q4).1 rfl)
  · have : (w = 11 ∨ w = 16) ∨ w = 21 := by omega
    rcases this with z | z
    · exact Or.inl z
    · exact Or.inr (Or.inl z)
theorem PK_row {no np e w t sg th v : Nat} {pl : Nat → Nat → Nat} (h : PKr no np w t sg th v) : PK no np (rowP pl e w t sg th v) e := by
  unfold PKr PK at h
  unfold PK
  rw [rowP_t, rowP_t, rowP_t, rowP_t, rowP_t]
  exact h
theorem PK_old {no np e k w t sg th v : Nat} {pl : Nat → Nat → Nat} (h : PK no np pl k) (hk : k ≠ e) : PK no np (rowP pl e w t sg th v) k := by
  unfold PK at *
  rw [rowP_f hk, rowP_f hk, rowP_f hk, rowP_f hk, rowP_f hk]
  exact h
theorem PK_cl {no np e k o : Nat} {pl : Nat → Nat → Nat} (h : PK no np pl k) (hk : k ≠ e) : PK no np (yclP pl e o) k := by
  unfold PK at *
  rw [yclP_i hk (by omega), yclP_i hk (by omega), yclP_i hk (by omega), yclP_i hk (by omega), yclP_i hk (by omega)]
  exact h
theorem yeaW_mono {c : Nat → Nat} {n : Nat} {on : Nat → Nat} {no : Nat} {pn : Nat → Nat} {np : Nat} {x : YSt} {G G' : YSt → Prop} {B B' : Nat → Nat → Prop} (hx : WFy no np x) (hp : x.1 ≤ n) (hB : ∀ k s, B k s → B' k s) (hG : ∀ y, GDy n no np x y → G y → G' y) (h : yeaW c n on no pn np x G B) : yeaW c n on no pn np x G' B' := by
  have e1 := tkE_ge (c := c) hp
  have e2 := tkE_ge (c := c) e1.2
  obtain ⟨x1, x2, x3, x4⟩ := hx
  refine ⟨fun q => ⟨fun q2 => hB _ _ ((h.1 q).1 q2), fun q2 => stopW_mono (fun q3 => hG _ ⟨?_, e2.2, ?_, ?_, ?_, ?_⟩) hB ((h.1 q).2 q2)⟩, fun q => ⟨fun q2 => ⟨fun q3 => hB _ _ (((h.2 q).1 q2).1 q3), fun q3 => ⟨fun q4 => hB _ _ ((((h.2 q).1 q2).2 q3).1 q4), fun q4 => detW_mono q2 e1.2 hB (fun p' t sg th v p1 p2 hP => stopW_mono (fun q5 => hG _ ⟨?_, (tkE_ge p2).2, ?_, ?_, ?_, fun k hk => ?_⟩) hB) ((((h.2 q).1 q2).2 q3).2 q4)⟩⟩, fun q2 => hB _ _ ((h.2 q).2 q2)⟩⟩
  · have := st_gt e1.2 q3
    dsimp only; omega
  · exact x1
  · dsimp only; omega
  · obtain ⟨dd, hd⟩ : ∃ dd, x.2.2.2.1 = dd + 1 := ⟨x.2.2.2.1 - 1, by omega⟩
    dsimp only
    rw [hd] at x3 ⊢
    exact BN_close x3
  · intro k hk
    dsimp only at hk ⊢
    by_cases ek : k = x.2.2.1
    · subst ek
      exact Or.inr (Or.inr (Or.inr (Or.inr (Or.inr (Or.inr (Or.inl yclP_e0))))))
    · exact PK_cl (x4 k (by omega)) ek
  · have := st_gt p2 q5
    dsimp only; omega
  · dsimp only; omega
  · dsimp only
    unfold depN
    split <;> omega
  · dsimp only
    unfold depN opN
    obtain ⟨w1, w2, w3, w4⟩ := q2
    have x31 := x3.1.1
    by_cases hw : tkW c n x.1 - 1 = 17 ∨ tkW c n x.1 - 1 = 19
    · rw [if_pos hw, if_pos hw]
      exact BN_open x3 hw (by omega)
    · rw [if_neg hw, if_neg hw]
      exact BN_row x3 (by omega) (by omega) (by omega)
  · dsimp only at hk ⊢
    by_cases ek : k = x.2.2.1
    · subst ek; exact PK_row hP
    · exact PK_old (x4 k (by omega)) ek
theorem ytxW_wf {c : Nat → Nat} {n : Nat} {on : Nat → Nat} {no : Nat} {pn : Nat → Nat} {np : Nat} {G : YSt → Prop} {B : Nat → Nat → Prop} : ∀ f x, WFy no np x → x.1 ≤ n → ytxW c n on no pn np (fun y => WFy no np y → y.2.2.2.1 = 0 → G y) B f x → ytxW c n on no pn np G B f x
  | 0, _, _, _, _ => trivial
  | f + 1, x, hx, hp, h => ⟨fun q => ⟨fun q2 => (h.1 q).1 q2 hx q2, (h.1 q).2⟩, fun q => yeaW_mono hx hp (fun _ _ hb => hb) (fun y hy hg => ytxW_wf f y hy.2.2 hy.2.1 hg) (h.2 q)⟩
def y00 : YSt := (0, 0, 0, 0, fun _ => 0, fun _ _ => 0)
theorem WFy_00 (no np : Nat) : WFy no np y00 := ⟨by decide, by decide, BN_0, fun k hk => absurd hk (Nat.not_lt_zero _)⟩
