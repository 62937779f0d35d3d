/-! Trays and tape. -/
theorem tr_t {t : Nat} (h : t < 4) : tr (4 + t) ∧ S0.2 3 t = some (4 + t) := by
  have : t = 0 ∨ t = 1 ∨ t = 2 ∨ t = 3 := by omega
  rcases this with rfl | rfl | rfl | rfl <;> exact ⟨by unfold tr; omega, rfl⟩
/-- a call that changes trays alone -/
theorem INV_t {mi mi' : Nat → Nat → Int32} {ml ml' : Nat → Nat → Int64} (h : INV mi ml) (hf : ∀ k j, ¬ (scr k j ∨ (8 ≤ k ∧ k ≤ 10) ∨ k = 109 ∨ k = 110) → mi' k j = mi k j) (hl : ∀ k j, ¬ (scl k j ∨ (4 ≤ k ∧ k ≤ 7) ∨ k = 111) → ml' k j = ml k j) (hs : mi' 0 0 = mi' 106 2) (hR : R_tr mi' ml') : INV mi' ml' := by
  obtain ⟨h1, h2, h3, h4, h5, ⟨a, h6⟩, h7, h8, h9⟩ := h
  unfold scr at hf
  unfold scl at hl
  refine ⟨hs, ?_, ?_, R_tape_fr h4 (fun k j z => hf k j (by omega)), hR, ⟨a, BY_fr h6 (fun k j z => hf k j (by unfold BYc at z; omega)) (fun k j z => hl k j (by omega))⟩, R_kept_fr h7 (fun k j z => hf k j (by omega)) (fun k j z => hl k j (by omega)), R_life_fr h8 (fun k j z => hf k j (by omega)), R_cst_fr h9 (fun k j z => hl k j (by omega))⟩
  · rw [hl 11 0 (by omega), hl 106 3 (by omega), hl 11 1 (by omega), hl 106 4 (by omega)]; exact h2
  · rw [hf 46 9 (by omega), hf 106 16 (by omega), hf 46 10 (by omega), hf 106 17 (by omega)]; exact h3
/-- a row of longs set to 0 -/
def zL (c off n : Nat) (f g : Nat → Nat → Int64) : Prop := (∀ k j, ¬ (k = c ∧ off ≤ j ∧ j < off + n) → g k j = f k j) ∧ (∀ i, i < n → g c (off + i) = 0)
theorem zL_0 {c off : Nat} {f : Nat → Nat → Int64} : zL c off 0 f f := ⟨fun _ _ _ => rfl, fun _ h => absurd h (Nat.not_lt_zero _)⟩
theorem zL_s {c off n : Nat} {f g : Nat → Nat → Int64} (h : zL c off n f g) : zL c off (n + 1) f (am_sj g c (off + n) 0) := by
  refine ⟨fun k j q => ?_, fun i hi => ?_⟩
  · rw [sj_f (by omega)]; exact h.1 k j (by omega)
  · by_cases q : i = n
    · rw [sj_t ⟨rfl, by omega⟩]
    · rw [sj_f (by omega)]; exact h.2 i (by omega)
theorem vn_b1 : vp_nar .boolean (nI 1) = nI 1 := by decide
theorem s_lay {E : am_E} {d : Nat} {K : am_K} {mi : Nat → Nat → Int32} {ml : Nat → Nat → Int64} {t s n : Nat} (ht : t < 4) (hn : n ≤ 60) (hk : ∀ ml', zL (4 + t) 0 n ml ml' → K none (S0, am_si (am_si (am_si mi 10 t (nI 1)) 8 t (nI s)) 9 t (nI n), ml')) : cq E (d + 1) 91 [.ref 2, .int (nI t), .int (nI s), .int (nI n)] K mi ml := by
  obtain ⟨t1, t2⟩ := tr_t ht
  have hin : vp_in (nI t) 4 := by rw [ni_in (by omega)]; exact ht
  have key : ∀ i, i ≤ n → ∀ mi ml', (∀ l', zL (4 + t) 0 n ml l' → K none (S0, mi, l')) → zL (4 + t) 0 i ml ml' → rn E d 91 K 24 [.ref 2, .int (nI t), am_mk, .int (nI n), .int (nI i)] [] mi ml' := dn_ind n (by
    intro i hi ih mi ml' hk hz
    apply rg_X6_lay_24
    rw [ni_le (by omega) (by omega), ni_cl (by omega), ni_cl (by omega), nI_add]
    refine ⟨fun q => ?_, fun q => ⟨_, t1, hin, t2, by rw [ni_in (by omega)]; omega, ?_⟩⟩
    · have : i = n := by omega
      subst this
      exact hk _ hz
    · have := zL_s hz
      rw [Nat.zero_add] at this
      exact ih (by omega) _ _ hk this)
  apply en_X6_lay
  rw [ni_cl (by omega), vn_b1]
  exact ⟨hin, hin, hin, key 0 (by omega) _ _ hk zL_0⟩
theorem op_tray {E : am_E} {K : am_K} {mi : Nat → Nat → Int32} {ml : Nat → Nat → Int64} (hI : INV mi ml) {u v w9 : Int32} (hk : PR 194 [.ref 106, .int u, .int v, .int w9] E K) : cq E 14 120 [.ref 0, .int u, .int v, .int w9] K mi ml := by
  have hI2 := hI
  obtain ⟨i1, i2, i3, i4, i5, i6, i7, i8, i9⟩ := hI2
  apply en_X9_tray (d := 12)
  by_cases hu : ∃ t, t < 4 ∧ u = nI t
  · obtain ⟨t, ht, rfl⟩ := hu
    refine rng_ok (by omega) ht ?_
    by_cases hv : ∃ s, s < 4 ∧ v = nI s
    · obtain ⟨s, hs, rfl⟩ := hv
      refine rng_ok2 (n := 4) (by omega) hs ?_
      by_cases hw : ∃ n, n < 61 ∧ w9 = nI n
      · obtain ⟨n, hn, rfl⟩ := hw
        refine rng_ok2 (n := 61) (by omega) hn ?_
        apply s_lay ht (by omega)
        intro l1 z1
        apply rg_X9_tray_46
        refine hk _ _ _ (fun Km hm => ?_)
        have hin : vp_in (nI t) 4 := by rw [ni_in (by omega)]; exact ht
        have key : ∀ i, i ≤ n → ∀ mi ml', (∀ l', zL 111 (60 * t) n l1 l' → Km (some (.int (nI 1))) (S0, am_si mi 106 2 (nI 0), l')) → zL 111 (60 * t) i l1 ml' → rn E 13 194 Km 49 [.ref 106, .int (nI t), am_mk, .int (nI n), .int (nI i)] [] mi ml' := dn_ind n (by
          intro i hi ih mi ml' hk hz
          apply rg_X10_tray_49 (d := 12)
          rw [ni_le (by omega) (by omega), ni_mul, nI_add, nI_add, ni_cl (by omega)]
          refine ⟨fun q => ?_, fun q => ⟨by rw [ni_in (by omega)]; omega, ih (by omega) _ _ hk (zL_s hz)⟩⟩
          have : i = n := by omega
          subst this
          exact hk _ hz)
        apply en_X10_tray (d := 12)
        refine rng_ok (by omega) ht (rng_ok2 (n := 4) (by omega) hs (rn8_ok (n := 60) (by omega) hn ⟨hin, hin, ?_⟩))
        rw [ni_cl (by omega)]
        refine key 0 (by omega) _ _ (fun l2 z2 => hm _ _ (INV_t hI (fun k j q => ?_) (fun k j q => ?_) ?_ ?_)) zL_0
        · unfold scr at q
          rw [si_f (by omega), si_f (by omega), si_f (by omega), si_f (by omega), si_f (by omega), si_f (by omega), si_f (by omega)]
        · rw [z2.1 k j (by omega), z1.1 k j (by omega)]
        · rw [si_f (by omega), si_f (by omega), si_f (by omega), si_t ⟨rfl, rfl⟩, si_t ⟨rfl, rfl⟩]
        · intro t' ht'
          by_cases e : t' = t
          · subst e
            refine Or.inr ⟨n, s, by omega, hs, ?_, ?_, ?_, ?_, ?_, fun i hi => ?_⟩
            · rw [si_f (by omega), si_f (by omega), si_f (by omega), si_f (by omega), si_f (by omega), si_f (by omega), si_t ⟨rfl, rfl⟩]
            · rw [si_f (by omega), si_f (by omega), si_f (by omega), si_f (by omega), si_t ⟨rfl, rfl⟩]
            · rw [si_f (by omega), si_t ⟨rfl, rfl⟩]
            · rw [si_f (by omega), si_f (by omega), si_f (by omega), si_f (by omega), si_f (by omega), si_t ⟨rfl, rfl⟩]
            · rw [si_f (by omega), si_f (by omega), si_t ⟨rfl, rfl⟩]
            · have e1 := z1.2 i hi
              rw [Nat.zero_add] at e1
              rw [z2.2 i hi, z2.1 _ _ (by omega), e1]
          · have old := i5 t' ht'
            rw [si_f (by omega), si_f (by omega), si_f (by omega), si_f (by omega), si_f (by omega), si_f (by omega), si_f (by omega)]
            rw [si_f (by omega), si_f (by omega), si_f (by omega), si_f (by omega), si_f (by omega), si_f (by omega), si_f (by omega)]
            rw [si_f (by omega), si_f (by omega), si_f (by omega), si_f (by omega), si_f (by omega), si_f (by omega), si_f (by omega)]
            rw [si_f (by omega), si_f (by omega), si_f (by omega), si_f (by omega), si_f (by omega), si_f (by omega), si_f (by omega)]
            rw [si_f (by omega), si_f (by omega), si_f (by omega), si_f (by omega), si_f (by omega), si_f (by omega), si_f (by omega)]
            rcases old with old | ⟨n', s', o1, o2, o3, o4, o5, o6, o7, o8⟩
            · exact Or.inl old
            · refine Or.inr ⟨n', s', o1, o2, o3, o4, o5, o6, o7, fun i hi => ?_⟩
              rw [z2.1 _ _ (by omega), z2.1 _ _ (by omega), z1.1 _ _ (by omega), z1.1 _ _ (by omega)]
              exact o8 i hi
      · refine rng_bd2 (n := 61) (by omega) (by omega) hw ?_
        refine hk _ _ _ (fun Km hm => ?_)
        apply en_X10_tray (d := 12)
        exact rng_ok (by omega) ht (rng_ok2 (n := 4) (by omega) hs (rn8 (n := 60) (by omega) hw (hm _ _ (INV_cm hI fr0_rfl fr0_rfl))))
    · refine rng_bd2 (n := 4) (by omega) (by omega) hv ?_
      refine hk _ _ _ (fun Km hm => ?_)
      apply en_X10_tray (d := 12)
      exact rng_ok (by omega) ht (rng_bd2 (n := 4) (by omega) (by omega) hv (hm _ _ (INV_cm hI fr0_rfl fr0_rfl)))
  · refine rng_bad (by omega) hu ?_
    refine hk _ _ _ (fun Km hm => ?_)
    apply en_X10_tray (d := 12)
    exact rng_bad (by omega) hu (hm _ _ (INV_cm hI fr0_rfl fr0_rfl))
/-- a laid tray -/
def LT (t n s : Nat) (mi : Nat → Nat → Int32) (ml : Nat → Nat → Int64) : Prop := n ≤ 60 ∧ s < 4 ∧ mi 10 t = nI 1 ∧ mi 9 t = nI n ∧ mi 110 t = nI n ∧ mi 8 t = nI s ∧ mi 109 t = nI s ∧ ∀ i, i < n → ml (4 + t) i = ml 111 (60 * t + i)
theorem tr_cs {mi : Nat → Nat → Int32} {ml : Nat → Nat → Int64} (h : R_tr mi ml) {t : Nat} (ht : t < 4) : (mi 10 t = nI 0 ∧ mi 110 t = nM) ∨ ∃ n s, LT t n s mi ml := h t ht
def agT (m1 mi : Nat → Nat → Int32) : Prop := ∀ k j, k = 109 ∨ k = 110 → m1 k j = mi k j
theorem place_why {mi : Nat → Nat → Int32} {ml : Nat → Nat → Int64} (hR : R_tr mi ml) (u v : Int32) : ∃ r, r ≤ 3 ∧ (r = 0 → ∃ t p n s, t < 4 ∧ u = nI t ∧ v = nI p ∧ p < n ∧ LT t n s mi ml) ∧ (∀ (E : am_E) (d : Nat) (K : am_K) (ml : Nat → Nat → Int64), K (some (.int (nI r))) (S0, mi, ml) → cq E (d + 2) 92 [.ref 2, .int u, .int v] K mi ml) ∧ (∀ (E : am_E) (d : Nat) (K : am_K) (m1 : Nat → Nat → Int32) (ml : Nat → Nat → Int64), agT m1 mi → K (some (.int (nI r))) (S0, m1, ml) → cq E (d + 2) 195 [.ref 106, .int u, .int v] K m1 ml) := by
  by_cases hu : ∃ t, t < 4 ∧ u = nI t
  · obtain ⟨t, ht, rfl⟩ := hu
    have hin : vp_in (nI t) 4 := by rw [ni_in (by omega)]; exact ht
    rcases tr_cs hR ht with ⟨h1, h2⟩ | ⟨n, s, hL⟩
    · refine ⟨2, by omega, fun q => by omega, fun E d K ml hk => ?_, fun E d K m1 ml ha hk => ?_⟩
      · apply en_X6_troubleAt
        rw [ni_cl (by omega), h1]
        exact rng_ok (by omega) ht ⟨hin, br_f (fun q => q rfl) hk⟩
      · apply en_X10_wrongPlace
        rw [ni_cl (by omega), ha 110 t (by omega), h2]
        exact rng_ok (by omega) ht ⟨hin, br_f (fun q => q rfl) hk⟩
    · obtain ⟨l1, l2, l3, l4, l5, l6, l7, l8⟩ := id hL
      by_cases hv : ∃ p, p < n ∧ v = nI p
      · obtain ⟨p, hp, rfl⟩ := hv
        refine ⟨0, by omega, fun _ => ⟨t, p, n, s, ht, rfl, rfl, hp, hL⟩, fun E d K ml hk => ?_, fun E d K m1 ml ha hk => ?_⟩
        · apply en_X6_troubleAt
          rw [ni_cl (by omega), l3, l4]
          refine rng_ok (by omega) ht ⟨hin, br_t (by decide) ?_⟩
          rw [ni_lt (by omega) (by omega), ni_le (by omega) (by omega)]
          exact br_f (by omega) ⟨hin, br_f (by omega) hk⟩
        · apply en_X10_wrongPlace
          rw [ni_cl (by omega), ha 110 t (by omega), l5, ni_nM (by omega)]
          refine rng_ok (by omega) ht ⟨hin, br_t (fun q => q) ?_⟩
          rw [ni_lt (by omega) (by omega), ni_lt (by omega) (by omega)]
          exact br_f (by omega) ⟨hin, br_t (by omega) hk⟩
      · refine ⟨3, by omega, fun q => by omega, fun E d K ml hk => ?_, fun E d K m1 ml ha hk => ?_⟩
        · apply en_X6_troubleAt
          rw [ni_cl (by omega), l3, l4]
          refine rng_ok (by omega) ht ⟨hin, br_t (by decide) ?_⟩
          refine ⟨fun _ => hk, fun q => ⟨hin, fun _ => hk, fun q2 => ?_⟩⟩
          obtain ⟨j, hj, rfl⟩ := ni_pos0 q
          rw [ni_le (by omega) hj] at q2
          exact absurd ⟨j, by omega, rfl⟩ hv
        · apply en_X10_wrongPlace
          rw [ni_cl (by omega), ha 110 t (by omega), l5, ni_nM (by omega)]
          refine rng_ok (by omega) ht ⟨hin, br_t (fun q => q) ?_⟩
          refine ⟨fun _ => hk, fun q => ⟨hin, fun q2 => ?_, fun _ => hk⟩⟩
          obtain ⟨j, hj, rfl⟩ := ni_pos0 q
          rw [ni_lt hj (by omega)] at q2
          exact absurd ⟨j, by omega, rfl⟩ hv
  · refine ⟨1, by omega, fun q => by omega, fun E d K ml hk => ?_, fun E d K m1 ml ha hk => ?_⟩
    · apply en_X6_troubleAt
      exact rng_bad (by omega) hu hk
    · apply en_X10_wrongPlace
      exact rng_bad (by omega) hu hk
def cutS (s : Nat) (v : Int64) : Int64 := if s = 0 then Int32.toInt64 (Int8.toInt32 (Int32.toInt8 (Int64.toInt32 v))) else if s = 1 then Int32.toInt64 (Int16.toInt32 (Int32.toInt16 (Int64.toInt32 v))) else if s = 2 then Int32.toInt64 (Int64.toInt32 v) else v
theorem s_put {E : am_E} {d : Nat} {K : am_K} {mi : Nat → Nat → Int32} {ml : Nat → Nat → Int64} {t p s : Nat} {v : Int64} (ht : t < 4) (hp : p < 60) (hs : s < 4) (h8 : mi 8 t = nI s) (hk : K none (S0, mi, am_sj ml (4 + t) p (cutS s v))) : cq E (d + 2) 93 [.ref 2, .int (nI t), .int (nI p), .long v] K mi ml := by
  obtain ⟨t1, t2⟩ := tr_t ht
  have hin : vp_in (nI t) 4 := by rw [ni_in (by omega)]; exact ht
  have hip : vp_in (nI p) 60 := by rw [ni_in (by omega)]; exact hp
  apply en_X6_put
  rw [ni_cl (by omega), ni_cl (by omega), h8]
  refine ⟨_, t1, hin, t2, hin, ?_⟩
  have : s = 0 ∨ s = 1 ∨ s = 2 ∨ s = 3 := by omega
  rcases this with rfl | rfl | rfl | rfl
  · exact ⟨fun _ => ⟨hip, hk⟩, fun q => absurd q (by decide), fun q => absurd q (by decide), fun q => absurd rfl q⟩
  · exact ⟨fun q => absurd q (by decide), fun _ => ⟨hip, hk⟩, fun q => absurd q (by decide), fun _ q => absurd rfl q⟩
  · exact ⟨fun q => absurd q (by decide), fun q => absurd q (by decide), fun _ => ⟨hip, hk⟩, fun _ _ q => absurd rfl q⟩
  · exact ⟨fun q => absurd q (by decide), fun q => absurd q (by decide), fun q => absurd q (by decide), fun _ _ _ => ⟨hip, hk⟩⟩
theorem s_cutM {E : am_E} {d : Nat} {K : am_K} {mi : Nat → Nat → Int32} {ml : Nat → Nat → Int64} {s : Nat} {v : Int64} (hs : s < 4) (hk : K (some (.long (cutS s v))) (S0, mi, ml)) : cq E (d + 1) 193 [.long v, .int (nI s)] K mi ml := by
  apply en_X10_cut
  have : s = 0 ∨ s = 1 ∨ s = 2 ∨ s = 3 := by omega
  rcases this with rfl | rfl | rfl | rfl
  · exact br_f (fun q => q rfl) hk
  · exact br_t (by decide) (br_f (fun q => q rfl) hk)
  · exact br_t (by decide) (br_t (by decide) (br_f (fun q => q rfl) hk))
  · exact br_t (by decide) (br_t (by decide) (br_t (by decide) hk))
/-- a laid tray, its longs changed -/
theorem R_tr_l {mi mi' : Nat → Nat → Int32} {ml ml' : Nat → Nat → Int64} (h : R_tr mi ml) (hf : ∀ k j, (8 ≤ k ∧ k ≤ 10) ∨ k = 109 ∨ k = 110 → mi' k j = mi k j) {t : Nat} (ho : ∀ t' i, t' < 4 → t' ≠ t → i < 60 → ml' (4 + t') i = ml (4 + t') i ∧ ml' 111 (60 * t' + i) = ml 111 (60 * t' + i)) (ht : ∀ n s, LT t n s mi ml → ∀ i, i < n → ml' (4 + t) i = ml' 111 (60 * t + i)) : R_tr mi' ml' := by
  intro t' ht'
  have old := h t' ht'
  rw [hf 10 t' (by omega), hf 9 t' (by omega), hf 8 t' (by omega), hf 110 t' (by omega), hf 109 t' (by omega)]
  rcases old with old | ⟨n', s', o1, o2, o3, o4, o5, o6, o7, o8⟩
  · exact Or.inl old
  · refine Or.inr ⟨n', s', o1, o2, o3, o4, o5, o6, o7, fun i hi => ?_⟩
    by_cases e : t' = t
    · subst e
      exact ht n' s' ⟨o1, o2, o3, o4, o5, o6, o7, o8⟩ i hi
    · rw [(ho t' i ht' e (by omega)).1, (ho t' i ht' e (by omega)).2]; exact o8 i hi
theorem LT_n {t n n' s s' : Nat} {mi : Nat → Nat → Int32} {ml : Nat → Nat → Int64} (h : LT t n s mi ml) (h' : LT t n' s' mi ml) : n = n' ∧ s = s' := by
  have e1 := h.2.2.2.1
  have e2 := h.2.2.2.2.2.1
  rw [h'.2.2.2.1, ni_eq (by have := h'.1; omega) (by have := h.1; omega)] at e1
  rw [h'.2.2.2.2.2.1, ni_eq (by have := h'.2.1; omega) (by have := h.2.1; omega)] at e2
  exact ⟨e1.symm, e2.symm⟩
theorem op_write {E : am_E} {K : am_K} {mi : Nat → Nat → Int32} {ml : Nat → Nat → Int64} (hI : INV mi ml) {u v : Int32} {x : Int64} (hk : PR 196 [.ref 106, .int u, .int v, .long x] E K) : cq E 14 121 [.ref 0, .int u, .int v, .long x] K mi ml := by
  have hI2 := hI
  obtain ⟨i1, i2, i3, i4, i5, i6, i7, i8, i9⟩ := hI2
  obtain ⟨r, hr, hz, hA, hB⟩ := place_why i5 u v
  apply en_X9_write (d := 11)
  apply hA
  apply rg_X9_write_9 (d := 11)
  rw [ni_eq (by omega) (by omega)]
  refine ⟨fun q => ⟨fun _ => ?_, fun q2 => absurd q q2⟩, fun q => ?_⟩
  · refine hk _ _ _ (fun Km hm => ?_)
    apply en_X10_write (d := 11)
    apply hB E 11 _ _ _ (fun k j z => by rw [si_f (by omega)])
    apply rg_X10_write_6 (d := 11)
    rw [ni_eq (by omega) (by omega)]
    exact br_t q (br_t q (hm _ _ (INV_cm hI fr0_rfl fr0_rfl)))
  · have r0 : r = 0 := by omega
    subst r0
    obtain ⟨t, p, n, s, ht, rfl, rfl, hp, hL⟩ := hz rfl
    obtain ⟨l1, l2, l3, l4, l5, l6, l7, l8⟩ := id hL
    apply s_put ht (by omega) l2 l6
    apply rg_X9_write_26 (d := 11)
    refine br_f (fun q => q rfl) ?_
    refine hk _ _ _ (fun Km hm => ?_)
    apply en_X10_write (d := 11)
    apply hB E 11 _ _ _ (fun k j z => by rw [si_f (by omega)])
    apply rg_X10_write_6 (d := 11)
    rw [s109, ni_cl (by omega), l7, ni_mul, nI_add]
    refine br_f (fun q => q rfl) ⟨by rw [ni_in (by omega)]; omega, ?_⟩
    apply s_cutM l2
    apply rg_X10_write_33 (d := 11)
    rw [ni_cl (by omega)]
    refine ⟨by rw [ni_in (by omega)]; omega, br_f (fun q => q rfl) (hm _ _ (INV_t hI (fun k j q => ?_) (fun k j q => ?_) ?_ (R_tr_l i5 (t := t) (fun k j q => ?_) (fun t' i ht' hne hi => ?_) (fun n' s' hL' i hi => ?_))))⟩
    · unfold scr at q
      rw [si_f (by omega), si_f (by omega)]
    · rw [sj_f (by omega), sj_f (by omega)]
    · rw [si_f (by omega), si_t ⟨rfl, rfl⟩, si_t ⟨rfl, rfl⟩]
    · rw [si_f (by omega), si_f (by omega)]
    · rw [sj_f (by omega), sj_f (by omega), sj_f (by omega), sj_f (by omega)]
      exact ⟨rfl, rfl⟩
    · obtain ⟨rfl, rfl⟩ := LT_n hL hL'
      by_cases e : i = p
      · rw [sj_f (by omega), sj_t ⟨rfl, e⟩, sj_t ⟨rfl, by omega⟩]
      · rw [sj_f (by omega), sj_f (by omega), sj_f (by omega), sj_f (by omega)]
        exact l8 i hi
theorem op_read {E : am_E} {K : am_K} {mi : Nat → Nat → Int32} {ml : Nat → Nat → Int64} (hI : INV mi ml) {u v : Int32} (hk : PR 197 [.ref 106, .int u, .int v] E K) : cq E 14 122 [.ref 0, .int u, .int v] K mi ml := by
  have hI2 := hI
  obtain ⟨i1, i2, i3, i4, i5, i6, i7, i8, i9⟩ := hI2
  obtain ⟨r, hr, hz, hA, hB⟩ := place_why i5 u v
  apply en_X9_read (d := 11)
  apply hA
  apply rg_X9_read_9 (d := 11)
  rw [ni_eq (by omega) (by omega)]
  refine ⟨fun q => ?_, fun q => ?_⟩
  · refine hk _ _ _ (fun Km hm => ?_)
    apply en_X10_read (d := 11)
    apply hB E 11 _ _ _ (fun k j z => by rw [si_f (by omega)])
    apply rg_X10_read_7 (d := 11)
    rw [si_t ⟨rfl, rfl⟩, ni_le (by omega) (by omega)]
    exact br_f (by omega) (hm _ _ (INV_cm hI fr0_rfl fr0_rfl))
  · have r0 : r = 0 := by omega
    subst r0
    obtain ⟨t, p, n, s, ht, rfl, rfl, hp, hL⟩ := hz rfl
    obtain ⟨l1, l2, l3, l4, l5, l6, l7, l8⟩ := id hL
    obtain ⟨t1, t2⟩ := tr_t ht
    apply en_X6_valueAt
    rw [ni_cl (by omega), ni_cl (by omega)]
    refine ⟨_, t1, by rw [ni_in (by omega)]; exact ht, t2, by rw [ni_in (by omega)]; omega, ?_⟩
    apply rg_X9_read_28 (d := 11)
    refine hk _ _ _ (fun Km hm => ?_)
    apply en_X10_read (d := 11)
    apply hB E 11 _ _ _ (fun k j z => by rw [si_f (by omega)])
    apply rg_X10_read_7 (d := 11)
    rw [si_t ⟨rfl, rfl⟩, ni_le (by omega) (by omega), ni_mul, nI_add, ni_cl (by omega), ← l8 p hp]
    exact br_t (by omega) ⟨by rw [ni_in (by omega)]; omega, hm _ _ (INV_cm hI fr0_rfl fr0_rfl)⟩
theorem ni_subT {h s : Nat} (hh : h < 2147483648) (hs : s < 2147483648) : (nI h - nI s).toInt = (h : Int) - s := by
  rcases Nat.lt_or_ge h s with z | z
  · have : nI h - nI s = - nI (s - h) := by
      rw [← ni_sub (Nat.le_of_lt z), Int32.neg_sub]
    rw [this, Int32.toInt_neg, nI_toInt (by omega)]
    rw [Int.bmod_eq_of_le (by omega) (by omega)]
    omega
  · rw [ni_sub z, nI_toInt (by omega)]
    omega
theorem sub_lt {n p m : Nat} (hn : n < 2147483648) (hp : p < 2147483648) (hm : m < 2147483648) : (nI n - nI p < nI m) ↔ n < p + m := by
  rw [Int32.lt_iff_toInt_lt, ni_subT hn hp, nI_toInt hm]; omega
theorem le_sub {n p m : Nat} (hn : n < 2147483648) (hp : p < 2147483648) (hm : m < 2147483648) : (nI m ≤ nI n - nI p) ↔ p + m ≤ n := by
  rw [Int32.le_iff_toInt_le, ni_subT hn hp, nI_toInt hm]; omega
theorem w64_sum {n p m : Nat} (hn : n < 2147483648) (hp : p < 2147483648) (hm : m < 2147483648) : (Int32.toInt64 (nI n) < Int32.toInt64 (nI p) + Int32.toInt64 (nI m)) ↔ n < p + m := by
  rw [nI_l hn, nI_l hp, nI_l hm, lN_add, pk_lLT (by omega) (by omega)]
theorem pour_why {mi : Nat → Nat → Int32} {ml : Nat → Nat → Int64} (hR : R_tr mi ml) (u1 u2 u3 u4 u5 : Int32) : ∃ r, r ≤ 8 ∧ (∀ (E : am_E) (d : Nat) (K : am_K) (ml : Nat → Nat → Int64), K (some (.int (nI r))) (S0, mi, ml) → cq E (d + 2) 95 [.ref 2, .int u1, .int u2, .int u3, .int u4, .int u5] K mi ml) ∧ (r ≠ 0 → ∀ (E : am_E) (d : Nat) (K : am_K) (m1 : Nat → Nat → Int32) (ml : Nat → Nat → Int64), agT m1 mi → K (some (.int (nI 0))) (S0, am_si m1 106 2 (nI r), ml) → cq E (d + 2) 198 [.ref 106, .int u1, .int u2, .int u3, .int u4, .int u5] K m1 ml) ∧ (r = 0 → ∃ f p t q m nf nt s, f < 4 ∧ t < 4 ∧ u1 = nI f ∧ u2 = nI p ∧ u3 = nI t ∧ u4 = nI q ∧ u5 = nI m ∧ p + m ≤ nf ∧ q + m ≤ nt ∧ LT f nf s mi ml ∧ LT t nt s mi ml ∧ ∀ (E : am_E) (d : Nat) (K : am_K) (m1 : Nat → Nat → Int32) (ml : Nat → Nat → Int64), agT m1 mi → rn E (d + 1) 198 K 118 [.ref 106, .int u1, .int u2, .int u3, .int u4, .int u5, .int (nI 0), am_mk] [] m1 ml → cq E (d + 2) 198 [.ref 106, .int u1, .int u2, .int u3, .int u4, .int u5] K m1 ml) := by
  by_cases hu : ∃ t, t < 4 ∧ u1 = nI t
  case neg =>
    refine ⟨1, by omega, fun E d K ml hk => ?_, fun _ E d K m1 ml ha hk => ?_, fun q => by omega⟩
    · apply en_X6_troubleToMove
      exact rng_bad (by omega) hu hk
    · apply en_X10_pour
      exact rng_bad (by omega) hu hk
  obtain ⟨f, hf, rfl⟩ := hu
  by_cases hv : ∃ t, t < 4 ∧ u3 = nI t
  case neg =>
    refine ⟨1, by omega, fun E d K ml hk => ?_, fun _ E d K m1 ml ha hk => ?_, fun q => by omega⟩
    · apply en_X6_troubleToMove
      exact rng_ok (by omega) hf (rng_bad (by omega) hv hk)
    · apply en_X10_pour
      exact rng_ok (by omega) hf (rng_bad (by omega) hv hk)
  obtain ⟨t, ht, rfl⟩ := hv
  by_cases h2 : u2 < nI 0
  · refine ⟨1, by omega, fun E d K ml hk => ?_, fun _ E d K m1 ml ha hk => ?_, fun q => by omega⟩
    · apply en_X6_troubleToMove
      exact rng_ok (by omega) hf (rng_ok (by omega) ht (br_t h2 hk))
    · apply en_X10_pour
      exact rng_ok (by omega) hf (rng_ok (by omega) ht (br_t h2 hk))
  by_cases h4 : u4 < nI 0
  · refine ⟨1, by omega, fun E d K ml hk => ?_, fun _ E d K m1 ml ha hk => ?_, fun q => by omega⟩
    · apply en_X6_troubleToMove
      exact rng_ok (by omega) hf (rng_ok (by omega) ht (br_f h2 (br_t h4 hk)))
    · apply en_X10_pour
      exact rng_ok (by omega) hf (rng_ok (by omega) ht (br_f h2 (br_t h4 hk)))
  by_cases h5 : nI 0 ≤ u5
  case neg =>
    refine ⟨1, by omega, fun E d K ml hk => ?_, fun _ E d K m1 ml ha hk => ?_, fun q => by omega⟩
    · apply en_X6_troubleToMove
      exact rng_ok (by omega) hf (rng_ok (by omega) ht (br_f h2 (br_f h4 (br_f h5 hk))))
    · apply en_X10_pour
      exact rng_ok (by omega) hf (rng_ok (by omega) ht (br_f h2 (br_f h4 (br_f h5 hk))))
  have h5' : ¬ u5 < nI 0 := by
    rw [Int32.lt_iff_toInt_lt]; rw [Int32.le_iff_toInt_le] at h5; omega
  obtain ⟨p, hp, rfl⟩ := ni_pos0 h2
  obtain ⟨q, hq, rfl⟩ := ni_pos0 h4
  obtain ⟨m, hm, rfl⟩ := ni_pos0 h5'
  have hif : vp_in (nI f) 4 := by rw [ni_in (by omega)]; exact hf
  have hit : vp_in (nI t) 4 := by rw [ni_in (by omega)]; exact ht
  rcases tr_cs hR hf with ⟨f1, f2⟩ | ⟨nf, sf, hLf⟩
  · refine ⟨2, by omega, fun E d K ml hk => ?_, fun _ E d K m1 ml ha hk => ?_, fun q => by omega⟩
    · apply en_X6_troubleToMove
      rw [ni_cl (a := f) (by omega), f1]
      exact rng_ok (by omega) hf (rng_ok (by omega) ht (br_f h2 (br_f h4 (br_t h5 ⟨hif, br_f (fun q => q rfl) hk⟩))))
    · apply en_X10_pour
      rw [ni_cl (a := f) (by omega), ha 110 f (by omega), f2]
      exact rng_ok (by omega) hf (rng_ok (by omega) ht (br_f h2 (br_f h4 (br_t h5 ⟨hif, br_t rfl hk⟩))))
  obtain ⟨l1, l2, l3, l4, l5, l6, l7, l8⟩ := id hLf
  rcases tr_cs hR ht with ⟨f1, f2⟩ | ⟨nt, st, hLt⟩
  · refine ⟨2, by omega, fun E d K ml hk => ?_, fun _ E d K m1 ml ha hk => ?_, fun q => by omega⟩
    · apply en_X6_troubleToMove
      rw [ni_cl (a := f) (by omega), ni_cl (a := t) (by omega), l3, f1]
      exact rng_ok (by omega) hf (rng_ok (by omega) ht (br_f h2 (br_f h4 (br_t h5 ⟨hif, br_t (by decide) ⟨hit, br_f (fun q => q rfl) hk⟩⟩))))
    · apply en_X10_pour
      rw [ni_cl (a := f) (by omega), ni_cl (a := t) (by omega), ha 110 f (by omega), ha 110 t (by omega), l5, f2, ni_nM (by omega)]
      exact rng_ok (by omega) hf (rng_ok (by omega) ht (br_f h2 (br_f h4 (br_t h5 ⟨hif, br_f (fun q => q) ⟨hit, br_f (fun q => q rfl) hk⟩⟩))))
  obtain ⟨k1, k2, k3, k4, k5, k6, k7, k8⟩ := id hLt
  by_cases es : sf = st
  case neg =>
    refine ⟨8, by omega, fun E d K ml hk => ?_, fun _ E d K m1 ml ha hk => ?_, fun q => by omega⟩
    · apply en_X6_troubleToMove
      rw [ni_cl (a := f) (by omega), ni_cl (a := t) (by omega), l3, k3, l6, k6, ni_eq (a := sf) (b := st) (by omega) (by omega)]
      exact rng_ok (by omega) hf (rng_ok (by omega) ht (br_f h2 (br_f h4 (br_t h5 ⟨hif, br_t (by decide) ⟨hit, br_t (by decide) ⟨hif, hit, br_f es hk⟩⟩⟩))))
    · apply en_X10_pour
      rw [ni_cl (a := f) (by omega), ni_cl (a := t) (by omega), ha 110 f (by omega), ha 110 t (by omega), ha 109 f (by omega), ha 109 t (by omega), l5, k5, l7, k7, ni_nM (by omega), ni_nM (by omega), ni_eq (a := sf) (b := st) (by omega) (by omega)]
      exact rng_ok (by omega) hf (rng_ok (by omega) ht (br_f h2 (br_f h4 (br_t h5 ⟨hif, br_f (fun q => q) ⟨hit, br_t (fun q => q) ⟨hif, hit, br_f es hk⟩⟩⟩))))
  subst es
  by_cases e1 : nf < p + m
  · refine ⟨3, by omega, fun E d K ml hk => ?_, fun _ E d K m1 ml ha hk => ?_, fun q => by omega⟩
    · apply en_X6_troubleToMove
      rw [ni_cl (a := f) (by omega), ni_cl (a := t) (by omega), l3, k3, l6, k6, l4, k4, lgc_gt, w64_sum (by omega) hp hm]
      exact rng_ok (by omega) hf (rng_ok (by omega) ht (br_f h2 (br_f h4 (br_t h5 ⟨hif, br_t (by decide) ⟨hit, br_t (by decide) ⟨hif, hit, br_t rfl ⟨hif, br_t e1 hk⟩⟩⟩⟩))))
    · apply en_X10_pour
      rw [ni_cl (a := f) (by omega), ni_cl (a := t) (by omega), ha 110 f (by omega), ha 110 t (by omega), ha 109 f (by omega), ha 109 t (by omega), l5, k5, l7, k7, ni_nM (by omega), ni_nM (by omega), sub_lt (by omega) hp hm]
      exact rng_ok (by omega) hf (rng_ok (by omega) ht (br_f h2 (br_f h4 (br_t h5 ⟨hif, br_f (fun q => q) ⟨hit, br_t (fun q => q) ⟨hif, hit, br_t rfl ⟨hif, br_t e1 hk⟩⟩⟩⟩))))
  by_cases e2 : nt < q + m
  · refine ⟨3, by omega, fun E d K ml hk => ?_, fun _ E d K m1 ml ha hk => ?_, fun q => by omega⟩
    · apply en_X6_troubleToMove
      rw [ni_cl (a := f) (by omega), ni_cl (a := t) (by omega), l3, k3, l6, k6, l4, k4, lgc_gt, lgc_gt, w64_sum (by omega) hp hm, w64_sum (by omega) hq hm]
      exact rng_ok (by omega) hf (rng_ok (by omega) ht (br_f h2 (br_f h4 (br_t h5 ⟨hif, br_t (by decide) ⟨hit, br_t (by decide) ⟨hif, hit, br_t rfl ⟨hif, br_f e1 ⟨hit, br_t e2 hk⟩⟩⟩⟩⟩))))
    · apply en_X10_pour
      rw [ni_cl (a := f) (by omega), ni_cl (a := t) (by omega), ha 110 f (by omega), ha 110 t (by omega), ha 109 f (by omega), ha 109 t (by omega), l5, k5, l7, k7, ni_nM (by omega), ni_nM (by omega), sub_lt (by omega) hp hm, le_sub (by omega) hq hm]
      exact rng_ok (by omega) hf (rng_ok (by omega) ht (br_f h2 (br_f h4 (br_t h5 ⟨hif, br_f (fun q => q) ⟨hit, br_t (fun q => q) ⟨hif, hit, br_t rfl ⟨hif, br_f e1 ⟨hit, br_f (by omega) hk⟩⟩⟩⟩⟩))))
  refine ⟨0, by omega, fun E d K ml hk => ?_, fun q => absurd rfl q, fun _ => ⟨f, p, t, q, m, nf, nt, sf, hf, ht, rfl, rfl, rfl, rfl, rfl, by omega, by omega, hLf, hLt, fun E d K m1 ml ha hk => ?_⟩⟩
  · apply en_X6_troubleToMove
    rw [ni_cl (a := f) (by omega), ni_cl (a := t) (by omega), l3, k3, l6, k6, l4, k4, lgc_gt, lgc_gt, w64_sum (by omega) hp hm, w64_sum (by omega) hq hm]
    exact rng_ok (by omega) hf (rng_ok (by omega) ht (br_f h2 (br_f h4 (br_t h5 ⟨hif, br_t (by decide) ⟨hit, br_t (by decide) ⟨hif, hit, br_t rfl ⟨hif, br_f e1 ⟨hit, br_f e2 hk⟩⟩⟩⟩⟩))))
  · apply en_X10_pour
    rw [ni_cl (a := f) (by omega), ni_cl (a := t) (by omega), ha 110 f (by omega), ha 110 t (by omega), ha 109 f (by omega), ha 109 t (by omega), l5, k5, l7, k7, ni_nM (by omega), ni_nM (by omega), sub_lt (by omega) hp hm, le_sub (by omega) hq hm]
    exact rng_ok (by omega) hf (rng_ok (by omega) ht (br_f h2 (br_f h4 (br_t h5 ⟨hif, br_f (fun q => q) ⟨hit, br_t (fun q => q) ⟨hif, hit, br_t rfl ⟨hif, br_f e1 ⟨hit, br_t (by omega) hk⟩⟩⟩⟩⟩))))
/-- numbers of the reference's trays moved all at once -/
def mvL (dst src m : Nat) (f g : Nat → Nat → Int64) : Prop := (∀ k j, ¬ (k = 111 ∧ dst ≤ j ∧ j < dst + m) → g k j = f k j) ∧ (∀ i, i < m → g 111 (dst + i) = f 111 (src + i))
theorem s_pourM {E : am_E} {d : Nat} {K : am_K} {mi : Nat → Nat → Int32} {ml : Nat → Nat → Int64} {f p t q m : Nat} (hf : f < 4) (ht : t < 4) (hp : p + m ≤ 60) (hq : q + m ≤ 60) (hk : ∀ ml', mvL (60 * t + q) (60 * f + p) m ml ml' → K (some (.int (nI 1))) (S0, am_si mi 106 2 (nI 0), ml')) : rn E (d + 1) 198 K 118 [.ref 106, .int (nI f), .int (nI p), .int (nI t), .int (nI q), .int (nI m), .int (nI 0), am_mk] [] mi ml := by
  by_cases hpq : q ≤ p
  · have key : ∀ i, i ≤ m → ∀ ml', mvL (60 * t + q) (60 * f + p) i ml ml' → rn E (d + 1) 198 K 118 [.ref 106, .int (nI f), .int (nI p), .int (nI t), .int (nI q), .int (nI m), .int (nI i), am_mk] [] mi ml' := dn_ind m (by
      intro i hi ih ml' hc
      apply rg_X10_pour_118
      rw [ni_le (by omega) (by omega), ni_le (by omega) (by omega), ni_mul, ni_mul, nI_add, nI_add, nI_add, nI_add, nI_add, ni_cl (by omega), ni_cl (by omega)]
      refine ⟨fun z => ?_, fun z => br_t hpq ⟨by rw [ni_in (by omega)]; omega, by rw [ni_in (by omega)]; omega, ih (by omega) _ ?_⟩⟩
      · have : i = m := by omega
        subst this
        exact hk _ hc
      · have e : ml' 111 (60 * f + p + i) = ml 111 (60 * f + p + i) := hc.1 _ _ (by
          by_cases e : f = t
          · subst e; omega
          · omega)
        refine ⟨fun k j z => ?_, fun i' hi' => ?_⟩
        · rw [sj_f (by omega)]; exact hc.1 k j (by omega)
        · by_cases e2 : i' = i
          · rw [sj_t ⟨rfl, by omega⟩, e, e2]
          · rw [sj_f (by omega)]; exact hc.2 i' (by omega))
    exact key 0 (by omega) ml ⟨fun _ _ _ => rfl, fun _ h => absurd h (Nat.not_lt_zero _)⟩
  · have key : ∀ i, i ≤ m → ∀ ml', mvL (60 * t + (q + (m - i))) (60 * f + (p + (m - i))) i ml ml' → rn E (d + 1) 198 K 118 [.ref 106, .int (nI f), .int (nI p), .int (nI t), .int (nI q), .int (nI m), .int (nI i), am_mk] [] mi ml' := dn_ind m (by
      intro i hi ih ml' hc
      apply rg_X10_pour_118
      rw [ni_le (by omega) (by omega), ni_le (by omega) (by omega)]
      refine ⟨fun z => ?_, fun z => br_f hpq ?_⟩
      · have : i = m := by omega
        subst this
        rw [Nat.sub_self, Nat.add_zero, Nat.add_zero] at hc
        exact hk _ hc
      · have e0 : nI m - nI 1 - nI i = nI (m - 1 - i) := by rw [ni_sub (by omega), ni_sub (by omega)]
        rw [e0, ni_mul, ni_mul, nI_add, nI_add, nI_add, nI_add, nI_add, ni_cl (by omega), ni_cl (by omega)]
        refine ⟨by rw [ni_in (by omega)]; omega, by rw [ni_in (by omega)]; omega, ih (by omega) _ ?_⟩
        have e : ml' 111 (60 * f + p + (m - 1 - i)) = ml 111 (60 * f + p + (m - 1 - i)) := hc.1 _ _ (by
          by_cases e : f = t
          · subst e; omega
          · omega)
        refine ⟨fun k j z => ?_, fun i' hi' => ?_⟩
        · rw [sj_f (by omega)]; exact hc.1 k j (by omega)
        · by_cases e2 : i' = 0
          · rw [sj_t ⟨rfl, by omega⟩, e]
            exact congrArg _ (by omega)
          · rw [sj_f (by omega)]
            have e3 := hc.2 (i' - 1) (by omega)
            rw [show 60 * t + (q + (m - (i + 1))) + i' = 60 * t + (q + (m - i)) + (i' - 1) by omega, e3]
            exact congrArg _ (by omega))
    exact key 0 (by omega) ml ⟨fun _ _ _ => rfl, fun _ h => absurd h (Nat.not_lt_zero _)⟩
theorem op_pour {E : am_E} {K : am_K} {mi : Nat → Nat → Int32} {ml : Nat → Nat → Int64} (hI : INV mi ml) {u1 u2 u3 u4 u5 : Int32} (hk : PR 198 [.ref 106, .int u1, .int u2, .int u3, .int u4, .int u5] E K) : cq E 14 123 [.ref 0, .int u1, .int u2, .int u3, .int u4, .int u5] K mi ml := by
  have hI2 := hI
  obtain ⟨i1, i2, i3, i4, i5, i6, i7, i8, i9⟩ := hI2
  obtain ⟨r, hr, hA, hB, hz⟩ := pour_why i5 u1 u2 u3 u4 u5
  apply en_X9_pour (d := 11)
  apply hA
  apply rg_X9_pour_14 (d := 11)
  rw [ni_eq (by omega) (by omega)]
  refine ⟨fun q => ⟨fun _ => ?_, fun q2 => absurd q q2⟩, fun q => ?_⟩
  · refine hk _ _ _ (fun Km hm => ?_)
    apply hB q E 12 _ _ _ (fun k j z => by rw [si_f (by omega)])
    exact hm _ _ (INV_cm hI fr0_rfl fr0_rfl)
  · have r0 : r = 0 := by omega
    subst r0
    obtain ⟨f, p, t, q, m, nf, nt, s, hf, ht, rfl, rfl, rfl, rfl, rfl, hpm, hqm, hLf, hLt, hC⟩ := hz rfl
    have hnf := hLf.1
    have hnt := hLt.1
    obtain ⟨f1, f2⟩ := tr_t hf
    obtain ⟨t1, t2⟩ := tr_t ht
    have lt0 : ∀ k, k < 2147483648 → ¬ nI k < (0 : Int32) := fun k hk z => (ni_lt0 hk).mp z
    apply en_X6_move
    rw [ni_cl (a := f) (by omega), ni_cl (a := t) (by omega), ni_cl (a := p) (by omega), ni_cl (a := q) (by omega), ni_cl (a := m) (by omega)]
    refine ⟨_, f1, by rw [ni_in (by omega)]; exact hf, f2, _, t1, by rw [ni_in (by omega)]; exact ht, t2, ⟨⟨lt0 p (by omega), lt0 q (by omega), lt0 m (by omega)⟩, by omega, by omega⟩, ?_⟩
    apply rg_X9_pour_35 (d := 11)
    refine br_f (fun q => q rfl) ?_
    refine hk _ _ _ (fun Km hm => ?_)
    apply hC E 12 _ _ _ (fun k j z => by rw [si_f (by omega)])
    apply s_pourM hf ht (by omega) (by omega)
    intro l2 z2
    refine hm _ _ (INV_t hI (fun k j q => ?_) (fun k j q => ?_) ?_ (R_tr_l i5 (t := t) (fun k j q => ?_) (fun t' i ht' hne hi => ?_) (fun n' s' hL' i hi => ?_)))
    · unfold scr at q
      rw [si_f (by omega), si_f (by omega)]
    · rw [z2.1 k j (by omega), sc_f (by omega)]
    · rw [si_f (by omega), si_t ⟨rfl, rfl⟩, si_t ⟨rfl, rfl⟩]
    · rw [si_f (by omega), si_f (by omega)]
    · rw [z2.1 _ _ (by omega), z2.1 _ _ (by omega), sc_f (by omega), sc_f (by omega)]
      exact ⟨rfl, rfl⟩
    · obtain ⟨rfl, rfl⟩ := LT_n hLt hL'
      rw [z2.1 (4 + t) i (by omega), sc_t rfl]
      unfold va_cpy
      by_cases e : q ≤ i ∧ i < q + m
      · rw [if_pos e]
        have e3 := z2.2 (i - q) (by omega)
        rw [show 60 * t + q + (i - q) = 60 * t + i by omega, sc_f (by omega)] at e3
        rw [e3, hLf.2.2.2.2.2.2.2 (p + (i - q)) (by omega)]
        exact congrArg _ (by omega)
      · rw [if_neg e, z2.1 _ _ (by omega), sc_f (by omega)]
        exact hLt.2.2.2.2.2.2.2 i hi
/-! feed -/
def bU (x : Int32) (s : Nat) : Int32 := (x.toUInt32 >>> ((nI s).toUInt32 &&& Int32.toUInt32 31)).toInt32 &&& nI 255
def bS (x : Int32) (s : Nat) : Int32 := Int8.toInt32 (Int32.toInt8 (x >>> ms (nI s)))
theorem nI_bv (y : Int32) : nI y.toBitVec.toNat = y := by
  apply Int32.toBitVec_inj.1
  show BitVec.ofNat 32 y.toBitVec.toNat = y.toBitVec
  rw [BitVec.ofNat_toNat, BitVec.setWidth_eq]
theorem bU_bit (x : Int32) {s i : Nat} (hs : s = 24 ∨ s = 16 ∨ s = 8 ∨ s = 0) (hi : i < 8) : (bU x s).toBitVec.getLsbD i = x.toBitVec.getLsbD (s + i) := by
  have k1 : ((nI s).toUInt32 &&& Int32.toUInt32 31).toBitVec % 32 = BitVec.ofNat 32 s := by
    rcases hs with rfl | rfl | rfl | rfl <;> decide
  have k2 : (nI 255).toBitVec.getLsbD i = true := (show ∀ i, i < 8 → (nI 255).toBitVec.getLsbD i = true by decide) i hi
  have k3 : (BitVec.ofNat 32 s).toNat = s := by
    rcases hs with rfl | rfl | rfl | rfl <;> rfl
  unfold bU
  show ((x.toUInt32 >>> ((nI s).toUInt32 &&& Int32.toUInt32 31)).toBitVec &&& (nI 255).toBitVec).getLsbD i = _
  rw [BitVec.getLsbD_and, k2, Bool.and_true, UInt32.toBitVec_shiftRight, k1, BitVec.ushiftRight_eq', BitVec.getLsbD_ushiftRight, k3]
  rfl
theorem bS_bit (x : Int32) {s i : Nat} (hs : s = 24 ∨ s = 16 ∨ s = 8 ∨ s = 0) (hi : i < 8) : (x >>> ms (nI s)).toBitVec.getLsbD i = x.toBitVec.getLsbD (s + i) := by
  have hs32 : s < 32 := by omega
  unfold ms
  rw [Int32.toBitVec_shiftRight]
  show (x.toBitVec.sshiftRight' ((nI s &&& nI 31).toBitVec.smod 32)).getLsbD i = _
  rw [BitVec.sshiftRight_eq', ni_sh31 hs32, BitVec.getLsbD_sshiftRight]
  have h1 : ¬ 32 ≤ i := by omega
  have h2 : s + i < 32 := by omega
  simp [h1, h2]
theorem byte_of (x : Int32) {s : Nat} (hs : s = 24 ∨ s = 16 ∨ s = 8 ∨ s = 0) : ∃ c, c < 256 ∧ bU x s = nI c ∧ bS x s = byt (nI c) := by
  refine ⟨(bU x s).toBitVec.toNat, ?_, (nI_bv _).symm, ?_⟩
  · unfold bU
    show ((x.toUInt32 >>> ((nI s).toUInt32 &&& Int32.toUInt32 31)).toBitVec &&& (nI 255).toBitVec).toNat < 256
    rw [BitVec.toNat_and]
    exact Nat.lt_of_le_of_lt Nat.and_le_right (by decide)
  · rw [nI_bv]
    unfold bS byt
    congr 1
    apply Int8.toBitVec_inj.1
    show BitVec.signExtend 8 (x >>> ms (nI s)).toBitVec = BitVec.signExtend 8 (bU x s).toBitVec
    apply BitVec.eq_of_getLsbD_eq
    intro i hi
    have h32 : i < 32 := by omega
    rw [BitVec.getLsbD_signExtend, BitVec.getLsbD_signExtend]
    simp only [hi, h32, decide_true, Bool.true_and, if_true]
    rw [bU_bit x hs hi, bS_bit x hs hi]
/-- four bytes more on a tape -/
def tp (c0 j0 c1 : Nat) (B : Int32 → Nat → Int32) (n : Nat) (x : Int32) (f g : Nat → Nat → Int32) : Prop := (∀ k j, ¬ (k = c0 ∧ j = j0) → ¬ (k = c1 ∧ n ≤ j ∧ j < n + 4) → g k j = f k j) ∧ g c0 j0 = nI (n + 4) ∧ ∀ i, i < 4 → g c1 (n + i) = B x (24 - 8 * i)
def tpi (c0 j0 c1 : Nat) (B : Int32 → Nat → Int32) (n : Nat) (x : Int32) (m : Nat) (f g : Nat → Nat → Int32) : Prop := (∀ k j, ¬ (k = c0 ∧ j = j0) → ¬ (k = c1 ∧ n ≤ j ∧ j < n + m) → g k j = f k j) ∧ g c0 j0 = nI (n + m) ∧ ∀ i, i < m → g c1 (n + i) = B x (24 - 8 * i)
theorem tpi_s {c0 j0 c1 : Nat} {B : Int32 → Nat → Int32} {n m : Nat} {x : Int32} {f g : Nat → Nat → Int32} (hc : c0 ≠ c1) (h : tpi c0 j0 c1 B n x m f g) : tpi c0 j0 c1 B n x (m + 1) f (am_si (am_si g c1 (n + m) (B x (24 - 8 * m))) c0 j0 (nI (n + (m + 1)))) := by
  refine ⟨fun k j q1 q2 => ?_, si_t ⟨rfl, rfl⟩, fun i hi => ?_⟩
  · rw [si_f q1, si_f (by omega)]; exact h.1 k j q1 (by omega)
  · rw [si_f (by omega)]
    by_cases e : i = m
    · rw [si_t ⟨rfl, by omega⟩, e]
    · rw [si_f (by omega)]; exact h.2.2 i (by omega)
theorem s_feedFour {E : am_E} {d : Nat} {K : am_K} {mi : Nat → Nat → Int32} {ml : Nat → Nat → Int64} {n : Nat} {x : Int32} (hn : n + 4 ≤ 900) (h0 : mi 0 1 = nI n) (hk : ∀ mi', tpi 0 1 1 bU n x 4 mi mi' → K none (S0, mi', ml)) : cq E (d + 1) 125 [.ref 0, .int x] K mi ml := by
  have step : ∀ i, i < 4 → ∀ mi', tpi 0 1 1 bU n x i mi mi' → (∀ mi'', tpi 0 1 1 bU n x (i + 1) mi mi'' → rn E d 125 K 3 [.ref 0, .int x, .int (nI (24 - 8 * i) + (-8))] [] mi'' ml) → rn E d 125 K 3 [.ref 0, .int x, .int (nI (24 - 8 * i))] [] mi' ml := by
    intro i hi mi' ht hh
    apply rg_X9_feedFour_3
    have e1 : mi' 0 1 = nI (n + i) := ht.2.1
    rw [si_f (by omega), e1, ni_cl (by omega), nI_add, ni_lt (by omega) (by omega)]
    exact br_f (by omega) ⟨by rw [ni_in (by omega)]; omega, hh _ (tpi_s (by omega) ht)⟩
  apply en_X9_feedFour
  refine step 0 (by omega) mi ⟨fun _ _ _ _ => rfl, h0, fun _ h => absurd h (Nat.not_lt_zero _)⟩ (fun m1 t1 => ?_)
  rw [show nI (24 - 8 * 0) + (-8) = nI (24 - 8 * 1) by decide]
  refine step 1 (by omega) m1 t1 (fun m2 t2 => ?_)
  rw [show nI (24 - 8 * 1) + (-8) = nI (24 - 8 * 2) by decide]
  refine step 2 (by omega) m2 t2 (fun m3 t3 => ?_)
  rw [show nI (24 - 8 * 2) + (-8) = nI (24 - 8 * 3) by decide]
  refine step 3 (by omega) m3 t3 (fun m4 t4 => ?_)
  apply rg_X9_feedFour_3
  exact br_t (by decide) (hk _ t4)
theorem s_fourM {E : am_E} {d : Nat} {K : am_K} {mi : Nat → Nat → Int32} {ml : Nat → Nat → Int64} {n : Nat} {x : Int32} (hn : n + 4 ≤ 900) (h0 : mi 106 10 = nI n) (hk : ∀ mi', tpi 106 10 112 bS n x 4 mi mi' → K none (S0, mi', ml)) : cq E (d + 1) 201 [.ref 106, .int x] K mi ml := by
  have step : ∀ i, i < 4 → ∀ mi', tpi 106 10 112 bS n x i mi mi' → (∀ mi'', tpi 106 10 112 bS n x (i + 1) mi mi'' → rn E d 201 K 3 [.ref 106, .int x, .int (nI (24 - 8 * i) + (-8))] [] mi'' ml) → rn E d 201 K 3 [.ref 106, .int x, .int (nI (24 - 8 * i))] [] mi' ml := by
    intro i hi mi' ht hh
    apply rg_X10_four_3
    have e1 : mi' 106 10 = nI (n + i) := ht.2.1
    rw [si_f (by omega), e1, ni_cl (by omega), nI_add, ni_lt (by omega) (by omega), pk_vb]
    exact br_f (by omega) ⟨by rw [ni_in (by omega)]; omega, hh _ (tpi_s (by omega) ht)⟩
  apply en_X10_four
  refine step 0 (by omega) mi ⟨fun _ _ _ _ => rfl, h0, fun _ h => absurd h (Nat.not_lt_zero _)⟩ (fun m1 t1 => ?_)
  rw [show nI (24 - 8 * 0) + (-8) = nI (24 - 8 * 1) by decide]
  refine step 1 (by omega) m1 t1 (fun m2 t2 => ?_)
  rw [show nI (24 - 8 * 1) + (-8) = nI (24 - 8 * 2) by decide]
  refine step 2 (by omega) m2 t2 (fun m3 t3 => ?_)
  rw [show nI (24 - 8 * 2) + (-8) = nI (24 - 8 * 3) by decide]
  refine step 3 (by omega) m3 t3 (fun m4 t4 => ?_)
  apply rg_X10_four_3
  exact br_t (by decide) (hk _ t4)
def fX (a b c d e : Int32) (q : Nat) : Int32 := if q = 0 then a else if q = 1 then b else if q = 2 then c else if q = 3 then d else e
theorem tp5 {c0 j0 c1 : Nat} {B : Int32 → Nat → Int32} {n : Nat} {a b c d e : Int32} {f g1 g2 g3 g4 g5 : Nat → Nat → Int32} (hc : c0 ≠ c1) (h1 : tpi c0 j0 c1 B n a 4 f g1) (h2 : tpi c0 j0 c1 B (n + 4) b 4 g1 g2) (h3 : tpi c0 j0 c1 B (n + 8) c 4 g2 g3) (h4 : tpi c0 j0 c1 B (n + 12) d 4 g3 g4) (h5 : tpi c0 j0 c1 B (n + 16) e 4 g4 g5) : (∀ k j, ¬ (k = c0 ∧ j = j0) → ¬ (k = c1 ∧ n ≤ j ∧ j < n + 20) → g5 k j = f k j) ∧ g5 c0 j0 = nI (n + 20) ∧ ∀ q i, q < 5 → i < 4 → g5 c1 (n + 4 * q + i) = B (fX a b c d e q) (24 - 8 * i) := by
  refine ⟨fun k j q1 q2 => ?_, h5.2.1, fun q i hq hi => ?_⟩
  · rw [h5.1 k j q1 (by omega), h4.1 k j q1 (by omega), h3.1 k j q1 (by omega), h2.1 k j q1 (by omega), h1.1 k j q1 (by omega)]
  · have : q = 0 ∨ q = 1 ∨ q = 2 ∨ q = 3 ∨ q = 4 := by omega
    rcases this with rfl | rfl | rfl | rfl | rfl
    · rw [h5.1 _ _ (by omega) (by omega), h4.1 _ _ (by omega) (by omega), h3.1 _ _ (by omega) (by omega), h2.1 _ _ (by omega) (by omega)]
      exact h1.2.2 i hi
    · rw [h5.1 _ _ (by omega) (by omega), h4.1 _ _ (by omega) (by omega), h3.1 _ _ (by omega) (by omega)]
      exact h2.2.2 i hi
    · rw [h5.1 _ _ (by omega) (by omega), h4.1 _ _ (by omega) (by omega)]
      exact h3.2.2 i hi
    · rw [h5.1 _ _ (by omega) (by omega)]
      exact h4.2.2 i hi
    · exact h5.2.2 i hi
theorem op_feed {E : am_E} {K : am_K} {mi : Nat → Nat → Int32} {ml : Nat → Nat → Int64} (hI : INV mi ml) {u1 u2 u3 u4 u5 : Int32} (hk : PR 200 [.ref 106, .int u1, .int u2, .int u3, .int u4, .int u5] E K) : cq E 14 124 [.ref 0, .int u1, .int u2, .int u3, .int u4, .int u5] K mi ml := by
  obtain ⟨i1, i2, i3, ⟨n, t1, t2, t3, t4⟩, i5, ⟨a, i6⟩, i7, i8, i9⟩ := id hI
  apply en_X9_feed (d := 12)
  rw [t2, nI_add, ni_le (by omega) (by omega)]
  refine ⟨fun q => ?_, fun q => ?_⟩
  · apply s_feedFour (by omega) t2
    intro g1 h1
    apply rg_X9_feed_20 (d := 12)
    apply s_feedFour (n := n + 4) (by omega) h1.2.1
    intro g2 h2
    apply rg_X9_feed_25 (d := 12)
    apply s_feedFour (n := n + 8) (by omega) h2.2.1
    intro g3 h3
    apply rg_X9_feed_30 (d := 12)
    apply s_feedFour (n := n + 12) (by omega) h3.2.1
    intro g4 h4
    apply rg_X9_feed_36 (d := 12)
    apply s_feedFour (n := n + 16) (by omega) h4.2.1
    intro g5 h5
    apply rg_X9_feed_42 (d := 12)
    obtain ⟨F, F0, F1⟩ := tp5 (by omega) h1 h2 h3 h4 h5
    clear h1 h2 h3 h4 h5
    rw [F0]
    refine hk _ _ _ (fun Km hm => ?_)
    apply en_X10_feed (d := 12)
    have e10 : g5 106 10 = nI n := by rw [F 106 10 (by omega) (by omega), t3]
    rw [e10, nI_add, ni_le (by omega) (by omega)]
    refine br_t q ?_
    apply s_fourM (by omega) e10
    intro r1 h1
    apply rg_X10_feed_20 (d := 12)
    apply s_fourM (n := n + 4) (by omega) h1.2.1
    intro r2 h2
    apply rg_X10_feed_25 (d := 12)
    apply s_fourM (n := n + 8) (by omega) h2.2.1
    intro r3 h3
    apply rg_X10_feed_30 (d := 12)
    apply s_fourM (n := n + 12) (by omega) h3.2.1
    intro r4 h4
    apply rg_X10_feed_36 (d := 12)
    apply s_fourM (n := n + 16) (by omega) h4.2.1
    intro r5 h5
    apply rg_X10_feed_42 (d := 12)
    obtain ⟨G, G0, G1⟩ := tp5 (by omega) h1 h2 h3 h4 h5
    clear h1 h2 h3 h4 h5
    rw [G0]
    have H : ∀ k j, ¬ ((k = 0 ∧ j = 1) ∨ (k = 106 ∧ j = 10) ∨ k = 1 ∨ k = 112) → r5 k j = mi k j := fun k j z => by
      rw [G k j (by omega) (by omega), F k j (by omega) (by omega)]
    refine hm _ _ ⟨by rw [H 0 0 (by omega), H 106 2 (by omega)]; exact i1, i2, ?_, ⟨n + 20, by omega, by rw [G 0 1 (by omega) (by omega), F0], G0, fun i hi => ?_⟩, R_tr_fr i5 (fun k j z => H k j (by omega)) (fun _ _ _ => rfl), ⟨a, BY_fr i6 (fun k j z => H k j (by unfold BYc at z; omega)) (fun _ _ _ => rfl)⟩, R_kept_fr i7 (fun k j z => H k j (by omega)) (fun _ _ _ => rfl), R_life_fr i8 (fun k j z => H k j (by omega)), i9⟩
    · rw [H 46 9 (by omega), H 106 16 (by omega), H 46 10 (by omega), H 106 17 (by omega)]; exact i3
    · by_cases e : i < n
      · rw [G 1 i (by omega) (by omega), G 112 i (by omega) (by omega), F 1 i (by omega) (by omega), F 112 i (by omega) (by omega)]
        exact t4 i e
      · have f1 := F1 ((i - n) / 4) ((i - n) % 4) (by omega) (by omega)
        have f2 := G1 ((i - n) / 4) ((i - n) % 4) (by omega) (by omega)
        rw [show n + 4 * ((i - n) / 4) + (i - n) % 4 = i by omega] at f1 f2
        obtain ⟨c, c1, c2, c3⟩ := byte_of (fX u1 u2 u3 u4 u5 ((i - n) / 4)) (s := 24 - 8 * ((i - n) % 4)) (by omega)
        exact ⟨c, c1, by rw [G 1 i (by omega) (by omega), f1, c2], by rw [f2, c3]⟩
  · refine hk _ _ _ (fun Km hm => ?_)
    apply en_X10_feed (d := 12)
    rw [t3, nI_add, ni_le (by omega) (by omega)]
    exact br_f q (hm _ _ hI)
