/-! The law's walk out of its meaning in the small machine. -/
def lw_id : Nat := 340
def am_M0 : am_M := (([], fun _ _ => none), fun _ _ => 0, fun _ _ => 0)
/-- what is left to show: the law's meaning from its entry, for every script -/
def lw_goal : Prop := ∀ (L : Nat) (xs : Nat → Int32), L ≤ 3072 → am_wp PP (lw_xE L xs) lw_id (600000, 7302250) (am_call PP (lw_xE L xs) 14) (fun r _ => r = some (.int 1)) 0 [.retAddr 0, am_mk, am_mk, am_mk] [] am_M0
set_option maxHeartbeats 4000000 in
theorem lw_start (hg : lw_goal) (hMul : ∀ (X : am_X) (l : Launch), am_Xok X TT → (∃ cA, xA X (.array .long) = some cA) → am_mul X TT l) {p : Program} {e : Env} {s : State} {m : MethodId} {below : List Frame} {meth : Method} {c : Code} (l : Launch) {b L : Nat} {xs : Nat → Int32} (hL : L ≤ 3072) (C0 : lw_At p s m meth c b L xs) : W p l e room_1 s m #[Value.ref b] below meth c s.heap [] 0 0 (lw_Z below #[Value.ref b] s) (entryFrame m ([Value.ref b] : List Value).toArray 4) := by
  obtain ⟨X, eB, eE, eb, hXok, hWd, cA, -, -, hcA, -⟩ := lw_world C0
  obtain ⟨hx, hb, hr, hml, hown, hts, hX, hbl, hlocks, hgv⟩ := C0
  have hcx : am_Cx X TT p s m #[Value.ref b] meth c lw_id := ⟨hx, hb, hown, fun w h => hts w (List.mem_filter.mp h).1, hlocks, (fun h => absurd (show (0 : Nat) = 2 from h) (by decide)), hWd, hr⟩
  have hw := hg L xs hL
  rw [← eE] at hw
  have hv0 : xcv X (.retAddr 0) = .ref b := by show xV X 0 = _; rw [hXok.2.1, eb]
  have hLH := am_LH.ent (base := xB X) (tv := xV X) (as := [.retAddr 0]) (n := 4) hXok.1 rfl (by decide)
  have e1 : ([.retAddr 0] : List Value).map (am_cv (xB X) (xV X)) = [.ref b] := by show [xcv X (.retAddr 0)] = _; rw [hv0]
  rw [e1] at hLH
  rw [lg_entry_eq]
  refine am_sound (X := X) (T := TT) (y := lw_id) (n0 := 0) (z0 := 0) (lim := (600000, 7302250)) (C := am_call PP (xE X) 14) (K := fun r _ => r = some (.int 1)) (R := room_1) (d := 14) tb_h01 tb_G hXok hcx (Nat.le_refl _) (Nat.le_refl _) tb_no tb_hna (by decide) (by decide) (fun y as M K hm hc => am_sound_call tb_h01 tb_G hXok tb_no tb_hna (hMul X l hXok ⟨cA, hcA⟩) 14 y as M K hm hc) (fun i hi => ?_) (fun k j => hMul X l hXok ⟨cA, hcA⟩ _ _ _ _ _ _ _ _ _ _ _ _ _ _ _ _ _ _ hcx (Nat.le_refl _) (Nat.le_refl _)) hw s.heap _ [] 0 0 ?_ va_S.rf hLH ?_ rfl rfl (by decide) (by decide)
  · intro pc L' st M n t hc h H ls locs cells slots hR hS hL' hN h1 h2 h3 h4
    obtain ⟨hd, -⟩ := tb_G.1 lw_id pc i n t hc
    cases i <;> first | exact absurd (show false = true from hi) (by decide) | skip
    · unfold am_step at h
      dsimp only at h
      rw [show iRet (pInf (tP TT) lw_id) = some FieldType.boolean from rfl] at h
      split at h
      · next ty x =>
        obtain ⟨-, h5⟩ := h
        cases h5
        refine va_forget (fun q hq => by have := hS.2.2 q hq; rw [← eB]; exact this) ?_
        refine W.widen (k := 600000) (n := 7302250) (by simp at h3; omega) (by simp at h4; omega) ?_
        exact lw_ret hx hb hr hlocks hd
      · exact h.elim
    · unfold am_step at h
      dsimp only at h
      rw [show iRet (pInf (tP TT) lw_id) = some FieldType.boolean from rfl] at h
      split at h
      · next e9 => cases e9
      · exact h.elim
    · unfold am_step at h
      dsimp only at h
      rw [show iRet (pInf (tP TT) lw_id) = some FieldType.boolean from rfl] at h
      split at h
      · next e9 => cases e9
      · exact h.elim
  · refine ⟨by rw [eB]; rfl, (fun k q hk => by cases hk), fun k _ j => ⟨rfl, rfl, rfl⟩⟩
  · rw [hml]; rfl
