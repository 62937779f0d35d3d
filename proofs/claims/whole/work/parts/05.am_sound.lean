/-! Each step of the small machine is a step of the machine. -/
theorem am_ldI_inv {L : List Value} {k : Nat} {F : Value → Prop} (h : am_ldI L k F) : ∃ x, L[k]? = some (.int x) ∧ F (.int x) := by
  unfold am_ldI at h; split at h
  · next x hx => exact ⟨x, hx, h⟩
  · exact h.elim
theorem am_ldL_inv {L : List Value} {k : Nat} {F : Value → Prop} (h : am_ldL L k F) : ∃ x, L[k]? = some (.long x) ∧ F (.long x) := by
  unfold am_ldL at h; split at h
  · next x hx => exact ⟨x, hx, h⟩
  · exact h.elim
theorem am_ldA_inv {L : List Value} {k : Nat} {F : Value → Prop} (h : am_ldA L k F) : (∃ x, L[k]? = some (.ref x) ∧ F (.ref x)) ∨ ∃ x, L[k]? = some (.retAddr x) ∧ F (.retAddr x) := by
  unfold am_ldA at h; split at h
  · next x hx => exact Or.inl ⟨x, hx, h⟩
  · next x hx => exact Or.inr ⟨x, hx, h⟩
  · exact h.elim
theorem am_stI_inv {L st : List Value} {k : Nat} {F : List Value → List Value → Prop} (h : am_stI L k st F) : ∃ x st', k < L.length ∧ st = .int x :: st' ∧ F (am_set L k (.int x)) st' := by
  unfold am_stI at h; split at h
  · next x st' hb => exact ⟨x, st', by simpa [Nat.blt_eq] using hb, rfl, h⟩
  · exact h.elim
theorem am_stL_inv {L st : List Value} {k : Nat} {F : List Value → List Value → Prop} (h : am_stL L k st F) : ∃ x st', k + 1 < L.length ∧ st = .long x :: st' ∧ F (am_set2 L k (.long x)) st' := by
  unfold am_stL at h; split at h
  · next x st' hb => exact ⟨x, st', by simpa [Nat.blt_eq] using hb, rfl, h⟩
  · exact h.elim
theorem am_stA_inv {L st : List Value} {k : Nat} {F : List Value → List Value → Prop} (h : am_stA L k st F) : ∃ v st', k < L.length ∧ st = v :: st' ∧ ((∃ x, v = .ref x) ∨ ∃ x, v = .retAddr x) ∧ F (am_set L k v) st' := by
  unfold am_stA at h; split at h
  · next x st' hb => exact ⟨_, st', by simpa [Nat.blt_eq] using hb, rfl, Or.inl ⟨x, rfl⟩, h⟩
  · next x st' hb => exact ⟨_, st', by simpa [Nat.blt_eq] using hb, rfl, Or.inr ⟨x, rfl⟩, h⟩
  · exact h.elim
theorem am_i1_inv {st : List Value} {F : Int32 → List Value → Prop} (h : am_i1 st F) : ∃ x st', st = .int x :: st' ∧ F x st' := by
  unfold am_i1 at h; split at h
  · exact ⟨_, _, rfl, h⟩
  · exact h.elim
theorem am_i2_inv {st : List Value} {F : Int32 → Int32 → List Value → Prop} (h : am_i2 st F) : ∃ x y st', st = .int y :: .int x :: st' ∧ F x y st' := by
  unfold am_i2 at h; split at h
  · exact ⟨_, _, _, rfl, h⟩
  · exact h.elim
theorem am_l1_inv {st : List Value} {F : Int64 → List Value → Prop} (h : am_l1 st F) : ∃ x st', st = .long x :: st' ∧ F x st' := by
  unfold am_l1 at h; split at h
  · exact ⟨_, _, rfl, h⟩
  · exact h.elim
theorem am_l2_inv {st : List Value} {F : Int64 → Int64 → List Value → Prop} (h : am_l2 st F) : ∃ x y st', st = .long y :: .long x :: st' ∧ F x y st' := by
  unfold am_l2 at h; split at h
  · exact ⟨_, _, _, rfl, h⟩
  · exact h.elim
theorem am_li_inv {st : List Value} {F : Int64 → Int32 → List Value → Prop} (h : am_li st F) : ∃ x y st', st = .int y :: .long x :: st' ∧ F x y st' := by
  unfold am_li at h; split at h
  · exact ⟨_, _, _, rfl, h⟩
  · exact h.elim
section
variable {p : Program} {l : Launch} {e : Env} {R : Room} {s : State} {m : MethodId} {args : Array Value} {below : List Frame} {meth : Method} {c : Code} {Q : State → Prop}
/-- the machine goes on from here, whatever heap holds the memory -/
def am_WW (X : am_X) (T : am_T) (p : Program) (l : Launch) (e : Env) (R : Room) (s : State) (m : MethodId) (args : Array Value) (below : List Frame) (meth : Method) (c : Code) (n0 z0 : Nat) (lim : Nat × Nat) (Q : State → Prop) : am_R := fun pc L st M =>
  ∀ (H : Heap) (ls : Array Slot) (locs : List Loc) (cells slots : Nat), xRep X T M H → va_S (xNew X) s.heap H locs → am_LH (xB X) (xV X) ls L → L.length = c.maxLocals → n0 + cells = M.1.1.length → z0 + slots = am_sz (tP T) M → M.1.1.length ≤ lim.1 → am_sz (tP T) M ≤ lim.2 →
    W p l e R s m args below meth c H locs cells slots Q (F0 m pc ls (st.map (xcv X)))
/-- where a body runs -/
def am_Cx (X : am_X) (T : am_T) (p : Program) (s : State) (m : MethodId) (args : Array Value) (meth : Method) (c : Code) (y : Nat) : Prop :=
  p.tables.exec = Jvm.exec ∧ c.code = tB T y ∧ s.vm.findClass (pNm (tP T) (iOwn (pInf (tP T) y))) = some m.cls ∧ (∀ w ∈ tW T, w.before args s = true) ∧ meth.locks = false ∧ (iKnd (pInf (tP T) y) = 2 → meth.name = "<init>") ∧ am_Wd X T s s.heap ∧ meth.sig.returnType = iRet (pInf (tP T) y)
def am_prim (i : Instr) : Bool := match i with
  | .iconst _ | .bipush _ | .sipush _ | .lconst _ | .iload_n _ | .iload _ | .lload_n _ | .lload _ | .aload_n _ | .aload _ | .istore_n _ | .istore _ | .lstore_n _ | .lstore _ | .astore_n _ | .astore _ | .iinc _ _ => true
  | .iadd | .isub | .imul | .iand | .ior | .ixor | .ishl | .ishr | .iushr | .idiv | .irem | .ladd | .lsub | .lmul | .land | .lor | .ldiv | .lrem | .lshl | .lcmp | .i2l | .i2b | .i2s | .i2c | .l2i | .dup | .dup2 | .pop => true
  | .goto _ | .ifCond _ _ | .if_icmp _ _ | .tableswitch _ _ _ _ | .lookupswitch _ _ => true
  | _ => false
set_option maxHeartbeats 4000000 in
theorem am_sound1 {X : am_X} {T : am_T} {y n0 z0 : Nat} {lim : Nat × Nat} {C : am_C} {K : am_K} (hG : am_G T) (hX : am_Xok X T) (hcx : am_Cx X T p s m args meth c y) {pc : Nat} {L st : List Value} {M : am_M} {i : Instr} {n t : Nat} (hc : pCode (tP T) y pc = some (i, n, t)) (hp : am_prim i = true)
    (h : am_step (tP T) (xE X) (iOwn (pInf (tP T) y)) (iKnd (pInf (tP T) y)) (iRet (pInf (tP T) y)) lim C K (am_WW X T p l e R s m args below meth c n0 z0 lim Q) i t pc L st M) : am_WW X T p l e R s m args below meth c n0 z0 lim Q pc L st M := by
  intro H ls locs cells slots hR hS hL hN h1 h2 h3 h4
  obtain ⟨hx, hb, hown, hts, hlk, hin, hw, hret⟩ := hcx
  obtain ⟨hd, htg⟩ := hG.1 y pc i n t hc
  have ht := hX.1
  cases i <;> first | cases hp | skip
  case iconst v => exact lv_iconst hx hb hd rfl (h H ls locs cells slots hR hS hL hN h1 h2 h3 h4)
  case bipush v => exact lv_bipush hx hb hd rfl (h H ls locs cells slots hR hS hL hN h1 h2 h3 h4)
  case sipush v => exact lv_sipush hx hb hd rfl (h H ls locs cells slots hR hS hL hN h1 h2 h3 h4)
  case lconst v => exact lv_lconst hx hb hd rfl (h H ls locs cells slots hR hS hL hN h1 h2 h3 h4)
  case iload_n k =>
    obtain ⟨x, e1, h⟩ := am_ldI_inv (by unfold am_step at h; exact h)
    exact lv_iload_n hx hb hd rfl (hL.2.2 _ _ e1 rfl) (h H ls locs cells slots hR hS hL hN h1 h2 h3 h4)
  case iload k =>
    obtain ⟨x, e1, h⟩ := am_ldI_inv (by unfold am_step at h; exact h)
    exact lv_iload hx hb hd (hL.2.2 _ _ e1 rfl) (h H ls locs cells slots hR hS hL hN h1 h2 h3 h4)
  case lload_n k =>
    obtain ⟨x, e1, h⟩ := am_ldL_inv (by unfold am_step at h; exact h)
    exact lv_lload_n hx hb hd rfl (hL.2.2 _ _ e1 rfl) (h H ls locs cells slots hR hS hL hN h1 h2 h3 h4)
  case lload k =>
    obtain ⟨x, e1, h⟩ := am_ldL_inv (by unfold am_step at h; exact h)
    exact lv_lload hx hb hd (hL.2.2 _ _ e1 rfl) (h H ls locs cells slots hR hS hL hN h1 h2 h3 h4)
  case aload_n k =>
    rcases am_ldA_inv (by unfold am_step at h; exact h) with ⟨x, e1, h⟩ | ⟨x, e1, h⟩
    · exact lv_aload_n hx hb hd rfl (hL.2.2 _ _ e1 rfl) (h H ls locs cells slots hR hS hL hN h1 h2 h3 h4)
    · have g := h H ls locs cells slots hR hS hL hN h1 h2 h3 h4
      have e2 := hL.2.2 _ _ e1 rfl
      have e3 : (.retAddr x :: st).map (xcv X) = xV X x :: st.map (xcv X) := rfl
      have e4 : am_cv (xB X) (xV X) (.retAddr x) = xV X x := rfl
      rw [e3] at g
      rw [e4] at e2
      rcases ht x with z | ⟨a, z⟩
      · rw [z] at g e2
        exact lv_aload_nN hx hb hd rfl e2 g
      · rw [z] at g e2
        exact lv_aload_n hx hb hd rfl e2 g
  case aload k =>
    rcases am_ldA_inv (by unfold am_step at h; exact h) with ⟨x, e1, h⟩ | ⟨x, e1, h⟩
    · exact lv_aload hx hb hd (hL.2.2 _ _ e1 rfl) (h H ls locs cells slots hR hS hL hN h1 h2 h3 h4)
    · have g := h H ls locs cells slots hR hS hL hN h1 h2 h3 h4
      have e2 := hL.2.2 _ _ e1 rfl
      have e3 : (.retAddr x :: st).map (xcv X) = xV X x :: st.map (xcv X) := rfl
      have e4 : am_cv (xB X) (xV X) (.retAddr x) = xV X x := rfl
      rw [e3] at g
      rw [e4] at e2
      rcases ht x with z | ⟨a, z⟩
      · rw [z] at g e2
        exact lv_aloadN hx hb hd e2 g
      · rw [z] at g e2
        exact lv_aload hx hb hd e2 g
  case istore_n k =>
    obtain ⟨x, st, hk, rfl, hh⟩ := am_stI_inv (by unfold am_step at h; exact h)
    exact lv_istore_n hx hb hd rfl hL.has hk rfl (fun ls' hl => hh H ls' locs cells slots hR hS (am_LH.set (v := .int x) ht rfl hl) ((by unfold am_set; split; simp; split <;> simp : (am_set L k (.int x)).length = L.length).trans hN) h1 h2 h3 h4)
  case istore k =>
    obtain ⟨x, st, hk, rfl, hh⟩ := am_stI_inv (by unfold am_step at h; exact h)
    exact lv_istore hx hb hd hL.has hk rfl (fun ls' hl => hh H ls' locs cells slots hR hS (am_LH.set (v := .int x) ht rfl hl) ((by unfold am_set; split; simp; split <;> simp : (am_set L k (.int x)).length = L.length).trans hN) h1 h2 h3 h4)
  case lstore_n k =>
    obtain ⟨x, st, hk, rfl, hh⟩ := am_stL_inv (by unfold am_step at h; exact h)
    exact lv_lstore_n hx hb hd rfl hL.has hk rfl (fun ls' hl => hh H ls' locs cells slots hR hS (am_LH.set2 (v := .long x) ht rfl hl) ((by unfold am_set2 am_set; split; simp; split <;> simp : (am_set2 L k (.long x)).length = L.length).trans hN) h1 h2 h3 h4)
  case lstore k =>
    obtain ⟨x, st, hk, rfl, hh⟩ := am_stL_inv (by unfold am_step at h; exact h)
    exact lv_lstore hx hb hd hL.has hk rfl (fun ls' hl => hh H ls' locs cells slots hR hS (am_LH.set2 (v := .long x) ht rfl hl) ((by unfold am_set2 am_set; split; simp; split <;> simp : (am_set2 L k (.long x)).length = L.length).trans hN) h1 h2 h3 h4)
  case astore_n k =>
    obtain ⟨v, st, hk, rfl, hv, hh⟩ := am_stA_inv (by unfold am_step at h; exact h)
    have hlen : (am_set L k v).length = L.length := by unfold am_set; split; simp; split <;> simp
    rcases hv with ⟨x, rfl⟩ | ⟨x, rfl⟩
    · exact lv_astore_n hx hb hd rfl hL.has hk rfl (fun ls' hl => hh H ls' locs cells slots hR hS (am_LH.set (v := .ref x) ht rfl hl) (hlen.trans hN) h1 h2 h3 h4)
    · have e3 : (.retAddr x :: st).map (xcv X) = xV X x :: st.map (xcv X) := rfl
      have key := fun (ls' : Array Slot) hl => hh H ls' locs cells slots hR hS (am_LH.set (v := .retAddr x) ht rfl hl) (hlen.trans hN) h1 h2 h3 h4
      have e4 : am_cv (xB X) (xV X) (.retAddr x) = xV X x := rfl
      rw [e4] at key
      rw [e3]
      rcases ht x with z | ⟨a, z⟩
      · rw [z] at key ⊢
        exact lv_astore_nN hx hb hd rfl hL.has hk rfl key
      · rw [z] at key ⊢
        exact lv_astore_n hx hb hd rfl hL.has hk rfl key
  case astore k =>
    obtain ⟨v, st, hk, rfl, hv, hh⟩ := am_stA_inv (by unfold am_step at h; exact h)
    have hlen : (am_set L k v).length = L.length := by unfold am_set; split; simp; split <;> simp
    rcases hv with ⟨x, rfl⟩ | ⟨x, rfl⟩
    · exact lv_astore hx hb hd hL.has hk rfl (fun ls' hl => hh H ls' locs cells slots hR hS (am_LH.set (v := .ref x) ht rfl hl) (hlen.trans hN) h1 h2 h3 h4)
    · have e3 : (.retAddr x :: st).map (xcv X) = xV X x :: st.map (xcv X) := rfl
      have key := fun (ls' : Array Slot) hl => hh H ls' locs cells slots hR hS (am_LH.set (v := .retAddr x) ht rfl hl) (hlen.trans hN) h1 h2 h3 h4
      have e4 : am_cv (xB X) (xV X) (.retAddr x) = xV X x := rfl
      rw [e4] at key
      rw [e3]
      rcases ht x with z | ⟨a, z⟩
      · rw [z] at key ⊢
        exact lv_astoreN hx hb hd hL.has hk rfl key
      · rw [z] at key ⊢
        exact lv_astore hx hb hd hL.has hk rfl key
  case iinc k v =>
    have h' : (match Nat.blt k L.length, L[k]? with
      | true, some (.int x) => am_WW X T p l e R s m args below meth c n0 z0 lim Q (pc + 3) (am_set L k (.int (x + Int32.ofInt v))) st M
      | _, _ => False) := h
    split at h'
    · next x hk hx' =>
      have hk : k < L.length := by simpa [Nat.blt_eq] using hk
      have hmem := am_prs_mem (base := xB X) (tv := xV X) hx' rfl
      obtain ⟨q, hq⟩ := List.getElem?_of_mem hmem
      exact lv_iinc hx hb hd hL.has hq rfl hk rfl (fun ls' hl => h' H ls' locs cells slots hR hS (am_LH.set (v := .int (x + Int32.ofInt v)) ht rfl hl) ((by unfold am_set; split; simp; split <;> simp : (am_set L k (.int (x + Int32.ofInt v))).length = L.length).trans hN) h1 h2 h3 h4)
    · exact h'.elim
  case iadd => obtain ⟨x, y', st, rfl, h⟩ := am_i2_inv h; exact lv_iadd hx hb hd (h H ls locs cells slots hR hS hL hN h1 h2 h3 h4)
  case isub => obtain ⟨x, y', st, rfl, h⟩ := am_i2_inv h; exact lv_isub hx hb hd (h H ls locs cells slots hR hS hL hN h1 h2 h3 h4)
  case imul => obtain ⟨x, y', st, rfl, h⟩ := am_i2_inv h; exact lv_imul hx hb hd (h H ls locs cells slots hR hS hL hN h1 h2 h3 h4)
  case iand => obtain ⟨x, y', st, rfl, h⟩ := am_i2_inv h; exact lv_iand hx hb hd (h H ls locs cells slots hR hS hL hN h1 h2 h3 h4)
  case ior => obtain ⟨x, y', st, rfl, h⟩ := am_i2_inv h; exact lv_ior hx hb hd (h H ls locs cells slots hR hS hL hN h1 h2 h3 h4)
  case ixor => obtain ⟨x, y', st, rfl, h⟩ := am_i2_inv h; exact lv_ixor hx hb hd (h H ls locs cells slots hR hS hL hN h1 h2 h3 h4)
  case ishl => obtain ⟨x, y', st, rfl, h⟩ := am_i2_inv h; exact lv_ishl hx hb hd (h H ls locs cells slots hR hS hL hN h1 h2 h3 h4)
  case ishr => obtain ⟨x, y', st, rfl, h⟩ := am_i2_inv h; exact lv_ishr hx hb hd (h H ls locs cells slots hR hS hL hN h1 h2 h3 h4)
  case iushr => obtain ⟨x, y', st, rfl, h⟩ := am_i2_inv h; exact lv_iushr hx hb hd rfl (h H ls locs cells slots hR hS hL hN h1 h2 h3 h4)
  case idiv => obtain ⟨x, y', st, rfl, h0, h⟩ := am_i2_inv h; exact lv_idiv hx hb hd h0 (h H ls locs cells slots hR hS hL hN h1 h2 h3 h4)
  case irem => obtain ⟨x, y', st, rfl, h0, h⟩ := am_i2_inv h; exact lv_irem hx hb hd h0 (h H ls locs cells slots hR hS hL hN h1 h2 h3 h4)
  case ladd => obtain ⟨x, y', st, rfl, h⟩ := am_l2_inv h; exact lv_ladd hx hb hd (h H ls locs cells slots hR hS hL hN h1 h2 h3 h4)
  case lsub => obtain ⟨x, y', st, rfl, h⟩ := am_l2_inv h; exact lv_lsub hx hb hd (h H ls locs cells slots hR hS hL hN h1 h2 h3 h4)
  case lmul => obtain ⟨x, y', st, rfl, h⟩ := am_l2_inv h; exact lv_lmul hx hb hd (h H ls locs cells slots hR hS hL hN h1 h2 h3 h4)
  case land => obtain ⟨x, y', st, rfl, h⟩ := am_l2_inv h; exact lv_land hx hb hd (h H ls locs cells slots hR hS hL hN h1 h2 h3 h4)
  case lor => obtain ⟨x, y', st, rfl, h⟩ := am_l2_inv h; exact lv_lor hx hb hd (h H ls locs cells slots hR hS hL hN h1 h2 h3 h4)
  case ldiv => obtain ⟨x, y', st, rfl, h0, h⟩ := am_l2_inv h; exact lv_ldiv hx hb hd h0 (h H ls locs cells slots hR hS hL hN h1 h2 h3 h4)
  case lrem => obtain ⟨x, y', st, rfl, h0, h⟩ := am_l2_inv h; exact lv_lrem hx hb hd h0 (h H ls locs cells slots hR hS hL hN h1 h2 h3 h4)
  case lshl => obtain ⟨x, y', st, rfl, h⟩ := am_li_inv h; exact lv_lshl hx hb hd rfl (h H ls locs cells slots hR hS hL hN h1 h2 h3 h4)
  case lcmp => obtain ⟨x, y', st, rfl, h⟩ := am_l2_inv h; exact W.lcmp hx hb hd (h H ls locs cells slots hR hS hL hN h1 h2 h3 h4)
  case i2l => obtain ⟨x, st, rfl, h⟩ := am_i1_inv h; exact lv_i2l hx hb hd rfl (h H ls locs cells slots hR hS hL hN h1 h2 h3 h4)
  case i2b => obtain ⟨x, st, rfl, h⟩ := am_i1_inv h; exact lv_i2b hx hb hd rfl (h H ls locs cells slots hR hS hL hN h1 h2 h3 h4)
  case i2s => obtain ⟨x, st, rfl, h⟩ := am_i1_inv h; exact lv_i2s hx hb hd rfl (h H ls locs cells slots hR hS hL hN h1 h2 h3 h4)
  case i2c => obtain ⟨x, st, rfl, h⟩ := am_i1_inv h; exact lv_i2c hx hb hd rfl (h H ls locs cells slots hR hS hL hN h1 h2 h3 h4)
  case l2i => obtain ⟨x, st, rfl, h⟩ := am_l1_inv h; exact lv_l2i hx hb hd rfl (h H ls locs cells slots hR hS hL hN h1 h2 h3 h4)
  case dup =>
    unfold am_step at h
    dsimp only at h
    split at h
    · exact lv_dup hx hb hd rfl (h H ls locs cells slots hR hS hL hN h1 h2 h3 h4)
    · exact lv_dup hx hb hd rfl (h H ls locs cells slots hR hS hL hN h1 h2 h3 h4)
    · exact h.elim
  case dup2 =>
    unfold am_step at h
    dsimp only at h
    split at h
    · exact lv_dup2_11 hx hb hd rfl rfl (h H ls locs cells slots hR hS hL hN h1 h2 h3 h4)
    · exact lv_dup2_11 hx hb hd rfl rfl (h H ls locs cells slots hR hS hL hN h1 h2 h3 h4)
    · exact h.elim
  case pop =>
    unfold am_step at h
    dsimp only at h
    split at h
    · exact lv_pop hx hb hd rfl (h H ls locs cells slots hR hS hL hN h1 h2 h3 h4)
    · exact lv_pop hx hb hd rfl (h H ls locs cells slots hR hS hL hN h1 h2 h3 h4)
    · exact h.elim
  case goto off => exact lv_goto hx hb hd htg (h H ls locs cells slots hR hS hL hN h1 h2 h3 h4)
  case ifCond cd off =>
    obtain ⟨x, st, rfl, ha, hb'⟩ := am_i1_inv h
    cases cd
    · exact lv_if_eq hx hb hd htg (fun z => ha z H ls locs cells slots hR hS hL hN h1 h2 h3 h4) (fun z => hb' z H ls locs cells slots hR hS hL hN h1 h2 h3 h4)
    · exact lv_if_ne hx hb hd htg (fun z => ha z H ls locs cells slots hR hS hL hN h1 h2 h3 h4) (fun z => hb' (fun w => w z) H ls locs cells slots hR hS hL hN h1 h2 h3 h4)
    · exact lv_if_lt hx hb hd htg (fun z => ha z H ls locs cells slots hR hS hL hN h1 h2 h3 h4) (fun z => hb' z H ls locs cells slots hR hS hL hN h1 h2 h3 h4)
    · exact lv_if_ge hx hb hd htg (fun z => ha z H ls locs cells slots hR hS hL hN h1 h2 h3 h4) (fun z => hb' z H ls locs cells slots hR hS hL hN h1 h2 h3 h4)
    · exact lv_if_gt hx hb hd htg (fun z => ha z H ls locs cells slots hR hS hL hN h1 h2 h3 h4) (fun z => hb' z H ls locs cells slots hR hS hL hN h1 h2 h3 h4)
    · exact lv_if_le hx hb hd htg (fun z => ha z H ls locs cells slots hR hS hL hN h1 h2 h3 h4) (fun z => hb' z H ls locs cells slots hR hS hL hN h1 h2 h3 h4)
  case if_icmp cd off =>
    obtain ⟨x, y', st, rfl, ha, hb'⟩ := am_i2_inv h
    cases cd
    · exact lv_icmp_eq hx hb hd htg (fun z => ha z H ls locs cells slots hR hS hL hN h1 h2 h3 h4) (fun z => hb' z H ls locs cells slots hR hS hL hN h1 h2 h3 h4)
    · exact lv_icmp_ne hx hb hd htg (fun z => ha z H ls locs cells slots hR hS hL hN h1 h2 h3 h4) (fun z => hb' (fun w => w z) H ls locs cells slots hR hS hL hN h1 h2 h3 h4)
    · exact lv_icmp_lt hx hb hd htg (fun z => ha z H ls locs cells slots hR hS hL hN h1 h2 h3 h4) (fun z => hb' z H ls locs cells slots hR hS hL hN h1 h2 h3 h4)
    · exact lv_icmp_ge hx hb hd htg (fun z => ha z H ls locs cells slots hR hS hL hN h1 h2 h3 h4) (fun z => hb' z H ls locs cells slots hR hS hL hN h1 h2 h3 h4)
    · exact lv_icmp_gt hx hb hd htg (fun z => ha z H ls locs cells slots hR hS hL hN h1 h2 h3 h4) (fun z => hb' z H ls locs cells slots hR hS hL hN h1 h2 h3 h4)
    · exact lv_icmp_le hx hb hd htg (fun z => ha z H ls locs cells slots hR hS hL hN h1 h2 h3 h4) (fun z => hb' z H ls locs cells slots hR hS hL hN h1 h2 h3 h4)
  case tableswitch dd lo hi o =>
    obtain ⟨x, st, rfl, t', hsw, h⟩ := am_i1_inv h
    rcases hsw with ⟨q1, q2⟩ | ⟨q1, q2, off, q3, q4⟩
    · exact lv_tableOut hx hb hd q1 q2 (h H ls locs cells slots hR hS hL hN h1 h2 h3 h4)
    · exact lv_tableIn hx hb hd q1 q2 q3 q4 (h H ls locs cells slots hR hS hL hN h1 h2 h3 h4)
  case lookupswitch dd ps =>
    obtain ⟨x, st, rfl, t', q1, q2, h⟩ := am_i1_inv h
    exact lv_lookup hx hb hd q1 rfl q2 (h H ls locs cells slots hR hS hL hN h1 h2 h3 h4)
end
