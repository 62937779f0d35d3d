/-! All steps; all methods. -/
def am_retI (i : Instr) : Bool := match i with
  | .ireturn | .lreturn | .return_ => true
  | _ => false
section
variable {p : Program} {l : Launch} {e : Env} {R : Room} {s : State} {m : MethodId} {args : Array Value} {below : List Frame} {meth : Method} {c : Code} {Q : State → Prop}
variable {X : am_X} {T : am_T} {y n0 z0 : Nat} {lim : Nat × Nat} {C : am_C} {K : am_K}
/-- a step that we take as sound -/
def am_ok1 (X : am_X) (T : am_T) (p : Program) (l : Launch) (e : Env) (R : Room) (s : State) (m : MethodId) (args : Array Value) (below : List Frame) (meth : Method) (c : Code) (Q : State → Prop) (y n0 z0 : Nat) (lim : Nat × Nat) (C : am_C) (K : am_K) (i : Instr) : Prop :=
  ∀ (pc : Nat) (L st : List Value) (M : am_M) (n t : Nat), pCode (tP T) y pc = some (i, n, t) → am_step (tP T) (xE X) (iOwn (pInf (tP T) y)) (iKnd (pInf (tP T) y)) (iRet (pInf (tP T) y)) lim C K (am_WW X T p l e R s m args below meth c n0 z0 lim Q) i t pc L st M → am_WW X T p l e R s m args below meth c n0 z0 lim Q pc L st M
theorem am_inv_2 {P : am_P} {E : am_E} {R' : am_R} {kn pc : Nat} {L st : List Value} {M : am_M} (h0 : ∀ y, y < 4 → iKnd (pInf P y) = 3) (hk : kn < 3) (h : am_inv P E lim C R' y kn pc L st M) : 4 ≤ y := by
  unfold am_inv at h
  split at h
  · next b1 b2 b3 =>
    have b3 : kn = iKnd (pInf P y) := Nat.eq_of_beq_eq_true b3
    rcases Nat.lt_or_ge y 4 with z | z
    · have := h0 y z
      omega
    · exact z
  · exact h.elim
set_option maxHeartbeats 4000000 in
theorem am_sound (h01 : ∀ y, y < 4 → iKnd (pInf (tP T) y) = 3) (hG : am_G T) (hX : am_Xok X T) (hcx : am_Cx X T p s m args meth c y) (hl1 : lim.1 ≤ n0 + R.cells) (hl2 : lim.2 ≤ z0 + R.slots) (hno : ∀ ci j, am_kd (pTy (tP T) ci j) ≠ 3) (hna : ∀ y pc a n t, pCode (tP T) y pc = some (.newarray a, n, t) → am_kd (newarray.typeOf a) ≠ 3) {d : Nat} (hfr : d + 1 ≤ R.frames) (hlo : 32 * d + 32 ≤ R.locals) (hC : ∀ y as M K, am_mok T y → C y as M K → as.length = iArg (pInf (tP T) y) ∧ am_Met X T l d y as M K)
    (hRet : ∀ i, am_retI i = true → am_ok1 X T p l e R s m args below meth c Q y n0 z0 lim C K i) (hMul : ∀ k j, am_ok1 X T p l e R s m args below meth c Q y n0 z0 lim C K (.multianewarray k j))
    {pc : Nat} {L st : List Value} {M : am_M} (h : am_wp (tP T) (xE X) y lim C K pc L st M) : am_WW X T p l e R s m args below meth c n0 z0 lim Q pc L st M := by
  refine h _ fun pc L st M i n t hc hs => ?_
  cases i
  all_goals first
    | exact am_sound1 hG hX hcx hc rfl hs
    | exact am_sound_arr hG hX hcx hc rfl hs
    | exact am_sound_new hG hX hcx hl1 hl2 hno hna hc rfl hs
    | exact am_sound_fld hG hX hcx hc hs
    | exact am_sound_put hG hX hcx hc hs
    | exact hRet _ rfl _ _ _ _ _ _ hc hs
    | exact hMul _ _ _ _ _ _ _ _ hc hs
    | exact (show False from hs).elim
    | skip
  case invokestatic k =>
    unfold am_step at hs
    dsimp only at hs
    split at hs
    · next hm => exact am_sound_cpy hG hX hcx (by omega) (by omega) hm hc hs
    · next hm => exact am_sound_mm hG hX hcx hl1 hl2 (by omega) (by omega) hc (Or.inl ⟨hm, hs⟩)
    · next hm => exact am_sound_mm hG hX hcx hl1 hl2 (by omega) (by omega) hc (Or.inr ⟨hm, hs⟩)
    · next y' _ _ _ hm => exact am_sound_inv hG hX hcx hl1 hl2 hfr hlo hC (Or.inl ⟨rfl, rfl⟩) hm (am_inv_2 h01 (by omega) hs) hc hs
    · exact hs.elim
  case invokevirtual k =>
    unfold am_step at hs
    dsimp only at hs
    split at hs
    · next y' hm =>
      exact am_sound_inv hG hX hcx hl1 hl2 hfr hlo hC (Or.inr (Or.inl ⟨rfl, rfl⟩)) hm (am_inv_2 h01 (by omega) hs) hc hs
    · exact hs.elim
  case invokespecial k =>
    unfold am_step at hs
    dsimp only at hs
    split at hs
    · next hm => exact am_sound_obj hG hX hcx (by omega) (by omega) hm hc hs
    · next y' hne hm => exact am_sound_inv hG hX hcx hl1 hl2 hfr hlo hC (Or.inr (Or.inr ⟨rfl, rfl⟩)) hm (am_inv_2 h01 (by omega) hs) hc hs
    · exact hs.elim
/-- the return of a method, as its contract has it -/
theorem am_ret {M0 : am_M} {K0 : am_K} (hG : am_G T) (hcx : am_Cx X T p s m args meth c y)
    (hK : K = fun r M' => M'.1.1.length = M0.1.1.length + iCel (pInf (tP T) y) ∧ am_sz (tP T) M' = am_sz (tP T) M0 + iSlt (pInf (tP T) y) ∧ K0 r M') (i : Instr) (hi : am_retI i = true) :
    am_ok1 X T p l e R s m args below meth c (MQ below (am_Qc X T y M0 K0) args s (iCel (pInf (tP T) y)) (iSlt (pInf (tP T) y)) (xNew X)) y M0.1.1.length (am_sz (tP T) M0) lim C K i := by
  intro pc L st M n t hc h H ls locs cells slots hR hS hL hN h1 h2 h3 h4
  obtain ⟨hx, hb, hown, hts, hlk, hin, hw, hret⟩ := hcx
  obtain ⟨hd, -⟩ := hG.1 y pc i n t hc
  have fin : ∀ (r : Option Value) (v : Option Value), K r M → v = r.map (xcv X) → cells = iCel (pInf (tP T) y) ∧ slots = iSlt (pInf (tP T) y) ∧ ∀ t : State, t.heap = H → s.WarmedH t.vm → am_Qc X T y M0 K0 args s (.returned v) t := by
    intro r v hk hv
    rw [hK] at hk
    obtain ⟨k1, k2, k3⟩ := hk
    refine ⟨by omega, by omega, fun t ht _ => ⟨⟨r, M, by rw [hv], k3, k1, k2, by rw [ht]; exact hR⟩, hS.F ht⟩⟩
  cases i <;> first | cases hi | skip
  all_goals (unfold am_step at h; dsimp only at h)
  case ireturn =>
    split at h
    · next ty x hr =>
      obtain ⟨hf, hk⟩ := h
      obtain ⟨rfl, rfl, hq⟩ := fin (some (.int x)) (some (.int x)) hk rfl
      exact W.zret hx hb (hret.trans hr) (am_fit_ok hf).1 hq hS.2.2 hd hlk
    · exact h.elim
  case lreturn =>
    split at h
    · next x hr =>
      obtain ⟨rfl, rfl, hq⟩ := fin (some (.long x)) (some (.long x)) h rfl
      exact W.lret hx hb (hret.trans hr) hq hS.2.2 hd hlk
    · exact h.elim
  case return_ =>
    split at h
    · next hr =>
      obtain ⟨rfl, rfl, hq⟩ := fin none none h rfl
      exact W.vret hx hb (hret.trans hr) hq hS.2.2 hd hlk
    · exact h.elim
end
/-- what is still wanted of 'new T[n][m]' -/
def am_mul (X : am_X) (T : am_T) (l : Launch) : Prop := ∀ (p : Program) (e : Env) (R : Room) (s : State) (m : MethodId) (args : Array Value) (below : List Frame) (meth : Method) (c : Code) (Q : State → Prop) (y n0 z0 : Nat) (lim : Nat × Nat) (C : am_C) (K : am_K) (k j : Nat),
  am_Cx X T p s m args meth c y → lim.1 ≤ n0 + R.cells → lim.2 ≤ z0 + R.slots → am_ok1 X T p l e R s m args below meth c Q y n0 z0 lim C K (.multianewarray k j)
set_option maxHeartbeats 4000000 in
/-- every method meets what its meaning says -/
theorem am_sound_call {X : am_X} {T : am_T} {l : Launch} (h01 : ∀ y, y < 4 → iKnd (pInf (tP T) y) = 3) (hG : am_G T) (hX : am_Xok X T) (hno : ∀ ci j, am_kd (pTy (tP T) ci j) ≠ 3) (hna : ∀ y pc a n t, pCode (tP T) y pc = some (.newarray a, n, t) → am_kd (newarray.typeOf a) ≠ 3) (hMul : am_mul X T l) :
    ∀ (d y : Nat) (as : List Value) (M : am_M) (K : am_K), am_mok T y → am_call (tP T) (xE X) d y as M K → as.length = iArg (pInf (tP T) y) ∧ am_Met X T l d y as M K
  | 0, _, _, _, _, _, h => h.elim
  | d + 1, y, as, M, K, hmok, h => by
    obtain ⟨c1, c2, c3, h⟩ := h
    refine ⟨c2, ?_⟩
    obtain ⟨m1, m2, m3, m4, m5, -, m9⟩ := hmok
    refine Met.ofW (cc := tB T y) (maxL := iMax (pInf (tP T) y)) (ret := iRet (pInf (tP T) y)) m5 rfl ?_
    intro p e s m args below meth c s₁ B hml hv
    obtain ⟨rfl, hrep, hwd⟩ := hv
    have hts := atoms_spec (ws := am_ws T y) B.pre
    have hcx : am_Cx X T p s m (as.map (xcv X)).toArray meth c y := by
      refine ⟨B.exec, B.bytes, ?_, fun w hw => hts w (List.mem_cons_of_mem _ hw), B.notSynchronized, fun hk => ?_, hwd, B.returns⟩
      · rw [← m3]; exact findClass_of_methodNamed B.named
      · rw [hk] at m9
        rw [(name_of_methodNamed B.named B.method).1]
        exact m9.2.2.1
    rw [lg_entry_eq]
    have hLH := am_LH.ent (base := xB X) (n := iMax (pInf (tP T) y)) hX.1 c3 c1
    have hlen : (am_ent (iMax (pInf (tP T) y)) as).length = c.maxLocals := by
      rw [hml]; unfold am_ent; simp; omega
    refine am_sound (R := (headSpec (am_ws T y) (am_rm (d + 1) (pInf (tP T) y))).room) (d := d) h01 hG hX hcx (Nat.le_refl _) (Nat.le_refl _) hno hna (Nat.le_refl _) (by show 32 * d + 32 ≤ 32 * (d + 1); omega) (fun y as M K hm hc => am_sound_call h01 hG hX hno hna hMul d y as M K hm hc) (fun i hi => ?_) (fun k j => hMul _ _ _ _ _ _ _ _ _ _ _ _ _ _ _ _ _ _ hcx (Nat.le_refl _) (Nat.le_refl _)) h s.heap _ [] 0 0 hrep va_S.rf hLH hlen (by omega) (by omega) (by omega) (by omega)
    exact am_ret hG hcx rfl i hi
