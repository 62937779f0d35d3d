/-! Arrays, constants, new cells, returns. -/
section
variable {p : Program} {l : Launch} {e : Env} {R : Room} {s : State} {m : MethodId} {args : Array Value} {below : List Frame} {meth : Method} {c : Code} {Q : State → Prop}
variable {X : am_X} {T : am_T} {y n0 z0 : Nat} {lim : Nat × Nat} {C : am_C} {K : am_K} {pc : Nat} {L st : List Value} {M : am_M}
theorem am_in {i : Int32} {n : Nat} {cA : ClassId} {f : Nat → Value} (h : vp_in i n) : ¬ (i < 0 ∨ (arrV cA n f).slots.size ≤ i.toNatClampNeg) := by rw [arrV_size]; exact h
theorem am_rd {i : Int32} {n : Nat} {cA : ClassId} {f : Nat → Value} (h : vp_in i n) : (arrV cA n f).slots[i.toNatClampNeg]? = some (f i.toNatClampNeg) := arrV_read _ _ (Nat.not_le.mp fun q => h (Or.inr q))
def am_arrI (i : Instr) : Bool := match i with
  | .iaload | .laload | .baload | .aaload | .iastore | .lastore | .bastore | .aastore | .arraylength | .ldc _ | .ldc_w _ | .ldc2_w _ | .getstatic _ => true
  | _ => false
set_option maxHeartbeats 4000000 in
theorem am_sound_arr (hG : am_G T) (hX : am_Xok X T) (hcx : am_Cx X T p s m args meth c y) {i : Instr} {n t : Nat} (hc : pCode (tP T) y pc = some (i, n, t)) (hp : am_arrI i = true)
    (h : am_step (tP T) (xE X) (iOwn (pInf (tP T) y)) (iKnd (pInf (tP T) y)) (iRet (pInf (tP T) y)) lim C K (am_WW X T p l e R s m args below meth c n0 z0 lim Q) i t pc L st M) : am_WW X T p l e R s m args below meth c n0 z0 lim Q pc L st M := by
  intro H ls locs cells slots hR hS hL hN h1 h2 h3 h4
  obtain ⟨hx, hb, hown, hts, hlk, hin, hw, hret⟩ := hcx
  obtain ⟨hd, htg⟩ := hG.1 y pc i n t hc
  cases i <;> first | cases hp | skip
  all_goals (unfold am_step at h; dsimp only at h)
  case iaload =>
    split at h
    · next i k st =>
      obtain ⟨N, hk, hi, h⟩ := h
      obtain ⟨cA, hA, hcell⟩ := am_arr hR hk
      exact W.iald (v := .int (M.2.1 k i.toNatClampNeg)) hx hb hcell ((hw.2.1 _ _ hA).1 N _) (fun q => by cases q) (am_in hi) (am_rd hi) rfl rfl hd (h H ls locs cells slots hR hS hL hN h1 h2 h3 h4)
    · next i st =>
      obtain ⟨hi, h⟩ := h
      have e1 : (Value.int i :: Value.retAddr 0 :: st).map (xcv X) = .int i :: .ref (xb X) :: st.map (xcv X) := by rw [← hX.2.1]; rfl
      rw [e1]
      have hbl : xb X < s.heap.size := by
        obtain ⟨scr, q1, -⟩ := hw.2.2.2.2.2.2.1
        exact (Array.getElem?_eq_some_iff.mp q1).1
      exact va_sld hx hb hw.2.2.2.2.2.2.1 hbl (Nat.not_le.mpr hX.2.2.1) hS hi hd (h H ls locs cells slots hR hS hL hN h1 h2 h3 h4)
    · exact h.elim
  case laload =>
    split at h
    · next i k st =>
      obtain ⟨N, hk, hi, h⟩ := h
      obtain ⟨cA, hA, hcell⟩ := am_arr hR hk
      exact W.lald (v := .long (M.2.2 k i.toNatClampNeg)) hx hb hcell ((hw.2.1 _ _ hA).1 N _) (fun q => by cases q) (am_in hi) (am_rd hi) rfl rfl hd (h H ls locs cells slots hR hS hL hN h1 h2 h3 h4)
    · exact h.elim
  case baload =>
    split at h
    · next i k st =>
      obtain ⟨N, ty, hty, hk, hi, h⟩ := h
      obtain ⟨cA, hA, hcell⟩ := am_arr hR hk
      rcases hty with rfl | rfl
      · exact W.bald (v := .int (M.2.1 k i.toNatClampNeg)) hx hb hcell ((hw.2.1 _ _ hA).1 N _) (fun q => by cases q) (am_in hi) (am_rd hi) rfl rfl hd (h H ls locs cells slots hR hS hL hN h1 h2 h3 h4)
      · exact W.zald (v := .int (M.2.1 k i.toNatClampNeg)) hx hb hcell ((hw.2.1 _ _ hA).1 N _) (fun q => by cases q) (am_in hi) (am_rd hi) rfl rfl hd (h H ls locs cells slots hR hS hL hN h1 h2 h3 h4)
    · next i a st =>
      obtain ⟨j, rfl, hj, hi, h⟩ := h
      obtain ⟨-, e2, e3, e4⟩ := hX.2.2.2.1 j hj
      have e1 : (Value.int i :: Value.retAddr (2 * j + 3) :: st).map (xcv X) = .int i :: .ref (xW X j) :: st.map (xcv X) := by rw [← e2]; rfl
      rw [e1]
      rw [e3] at hi
      refine va_tb hx hb (hw.2.2.2.1.1 j hj).2.2.2 hS hi rfl hd ?_
      have g := h H ls locs cells slots hR hS hL hN h1 h2 h3 h4
      rw [e4] at g
      exact g
    · exact h.elim
  case aaload =>
    split at h
    · next i k st =>
      obtain ⟨N, ty, a, hkd, hk, hi, ha, h⟩ := h
      obtain ⟨cA, hA, hcell⟩ := am_arr hR hk
      have hty : ty.isReference = true := by revert hkd; cases ty <;> simp [am_kd, FieldType.isReference]
      refine W.aald (v := .ref (xB X + a)) hx hb hcell ((hw.2.1 _ _ hA).1 N _) hty (fun q => by cases q) (am_in hi) ?_ rfl rfl hd (h H ls locs cells slots hR hS hL hN h1 h2 h3 h4)
      rw [am_rd hi]
      unfold am_val
      rw [hkd, ha]
      rfl
    · exact h.elim
  case iastore =>
    split at h
    · next x i k st =>
      obtain ⟨N, hk, hi, h⟩ := h
      obtain ⟨cA, hA, hcell⟩ := am_arr hR hk
      exact W.iast hx hb hcell ((hw.2.1 _ _ hA).1 N _) (fun q => by cases q) (am_in hi) rfl rfl hd fun H' e1 e2 e3 => h H' ls _ cells slots (am_Rep_ui hR hk rfl hA e1 e2 e3) (am_S_put hS e2 e3) hL hN h1 h2 h3 h4
    · exact h.elim
  case lastore =>
    split at h
    · next x i k st =>
      obtain ⟨N, hk, hi, h⟩ := h
      obtain ⟨cA, hA, hcell⟩ := am_arr hR hk
      exact W.last hx hb hcell ((hw.2.1 _ _ hA).1 N _) (fun q => by cases q) (am_in hi) rfl rfl hd fun H' e1 e2 e3 => h H' ls _ cells slots (am_Rep_ul hR hk rfl hA e1 e2 e3) (am_S_put hS e2 e3) hL hN h1 h2 h3 h4
    · exact h.elim
  case bastore =>
    split at h
    · next x i k st =>
      obtain ⟨N, ty, hty, hk, hi, h⟩ := h
      obtain ⟨cA, hA, hcell⟩ := am_arr hR hk
      rcases hty with rfl | rfl
      · exact W.bast hx hb hcell ((hw.2.1 _ _ hA).1 N _) (fun q => by cases q) (am_in hi) rfl rfl hd fun H' e1 e2 e3 => h H' ls _ cells slots (am_Rep_ui (x := vp_nar .byte x) hR hk rfl hA e1 e2 e3) (am_S_put hS e2 e3) hL hN h1 h2 h3 h4
      · exact W.zast hx hb hcell ((hw.2.1 _ _ hA).1 N _) (fun q => by cases q) (am_in hi) rfl rfl hd fun H' e1 e2 e3 => h H' ls _ cells slots (am_Rep_ui (x := vp_nar .boolean x) hR hk rfl hA e1 e2 e3) (am_S_put hS e2 e3) hL hN h1 h2 h3 h4
    · exact h.elim
  case aastore =>
    split at h
    · next x i k st =>
      obtain ⟨N, ci, hk, hv, hi, h⟩ := h
      obtain ⟨cA, hA, hcell⟩ := am_arr hR hk
      obtain ⟨r, hr, cellV, g1, g2, g3, -⟩ := hR.2.1 x _ hv
      obtain ⟨rC, rF, rN⟩ := r
      have hnm := (hG.2.2.1 _ _ _ _ hr).1
      have hcls := (hw.1 ci _ hr).2
      obtain ⟨kA, comp, k1, k2, k3, -⟩ := (hw.2.1 _ _ hA).2.1
      have hcomp : comp = (xD X).1 ci := by
        have z := hcls.1
        rw [hnm] at z
        exact Option.some.inj (k3.symm.trans z)
      subst hcomp
      obtain ⟨kC, hkC, -⟩ := hcls.2
      have hlt : i.toNatClampNeg < N := Nat.not_le.mp fun q => hi (Or.inr q)
      refine W.aast hx hb hcell (fun q z => by cases z) (fun z => by cases z) k1 k2 rfl hkC ⟨fun q => hi (Or.inl q), by rw [arrV_size]; exact hlt⟩ g1 (fun q z => by rw [g3] at z; cases z) (by rw [g2]; exact hkC) (by rw [g2]; exact va_assign hcls) rfl rfl hd fun H' e1 e2 e3 => ?_
      exact h H' ls _ cells slots (am_Rep_ur hR hk rfl hA e1 e2 e3) (am_S_put hS e2 e3) hL hN h1 h2 h3 h4
    · exact h.elim
  case arraylength =>
    split at h
    · next k st =>
      obtain ⟨N, ty, hk, h⟩ := h
      obtain ⟨cA, hA, hcell⟩ := am_arr hR hk
      exact W.alen hx hb hcell ((hw.2.1 _ _ hA).1 N _) (by rw [arrV_size]) rfl rfl hd (h H ls locs cells slots hR hS hL hN h1 h2 h3 h4)
    · next a st =>
      rcases h with ⟨rfl, h⟩ | ⟨j, rfl, hj, h⟩
      · have e1 : (Value.retAddr 0 :: st).map (xcv X) = .ref (xb X) :: st.map (xcv X) := by rw [← hX.2.1]; rfl
        rw [e1]
        have hbl : xb X < s.heap.size := by
          obtain ⟨scr, q1, -⟩ := hw.2.2.2.2.2.2.1
          exact (Array.getElem?_eq_some_iff.mp q1).1
        exact va_slen hx hb hw.2.2.2.2.2.2.1 hbl (Nat.not_le.mpr hX.2.2.1) hS hd (h H ls locs cells slots hR hS hL hN h1 h2 h3 h4)
      · obtain ⟨-, e2, e3, e4⟩ := hX.2.2.2.1 j hj
        have e1 : (Value.retAddr (2 * j + 3) :: st).map (xcv X) = .ref (xW X j) :: st.map (xcv X) := by rw [← e2]; rfl
        rw [e1]
        rw [e3] at h
        exact va_tlen hx hb (hw.2.2.2.1.1 j hj).2.2.2 hS rfl hd (h H ls locs cells slots hR hS hL hN h1 h2 h3 h4)
    · exact h.elim
  case ldc k =>
    split at h
    · next v hv => exact lv_ldc hx hb hown (hts _ (hG.2.2.2.1 _ _ _ hv)) hd (h H ls locs cells slots hR hS hL hN h1 h2 h3 h4)
    · next v hv =>
      obtain ⟨tx, a, q1, q2⟩ := hw.2.2.1 _ _ _ hv
      have g := h H ls locs cells slots hR hS hL hN h1 h2 h3 h4
      have e1 : (Value.retAddr v :: st).map (xcv X) = .ref a :: st.map (xcv X) := by rw [← q2]; rfl
      rw [e1] at g
      exact va_ldcS hx hb hown q1 hd g
    · exact h.elim
  case ldc_w k =>
    split at h
    · next v hv => exact lv_ldcw hx hb hown (hts _ (hG.2.2.2.1 _ _ _ hv)) hd (h H ls locs cells slots hR hS hL hN h1 h2 h3 h4)
    · exact h.elim
  case ldc2_w k =>
    split at h
    · next v hv => exact lv_ldc2 hx hb hown (hts _ (hG.2.2.2.1 _ _ _ hv)) hd (h H ls locs cells slots hR hS hL hN h1 h2 h3 h4)
    · exact h.elim
  case getstatic k =>
    split at h
    · next hv => exact va_gets hx hb hw.2.2.2.2.1 hS hown (hts _ (hG.2.2.2.1 _ _ _ hv)) (fun _ z => z) hd (h H ls locs cells slots hR hS hL hN h1 h2 h3 h4)
    · next hv => exact va_gets hx hb hw.2.2.2.2.2.1 hS hown (hts _ (hG.2.2.2.1 _ _ _ hv)) (fun _ z => z) hd (h H ls locs cells slots hR hS hL hN h1 h2 h3 h4)
    · exact h.elim
/-- a cell is made -/
theorem am_S_new {H H' : Heap} {locs : List Loc} (hS : va_S (xNew X) s.heap H locs) (e2 : H'.size = H.size + 1) (e3 : ∀ q, q < H.size → H'[q]? = H[q]?) : va_S (xNew X) s.heap H' locs :=
  ⟨Nat.le_trans hS.1 (by omega), fun q g1 g2 => (e3 q (Nat.lt_of_lt_of_le g1 hS.1)).trans (hS.2.1 q g1 g2), hS.2.2⟩
theorem am_val_0 {base : Nat} {ty : FieldType} {k j : Nat} (h : M.2.1 k j = 0 ∧ M.2.2 k j = 0 ∧ M.1.2 k j = none) (hf : am_kd ty ≠ 3) : am_val base ty M k j = defaultValue ty := by
  unfold am_val
  rw [h.1, h.2.1, h.2.2]
  cases ty <;> first | rfl | exact absurd rfl hf
def am_newI (i : Instr) : Bool := match i with
  | .new _ | .newarray _ | .anewarray _ => true
  | _ => false
theorem am_cb (a : ArrayType) : componentBytes (newarray.typeOf a) ≤ 8 := by cases a <;> decide
set_option maxHeartbeats 4000000 in
theorem am_sound_new (hG : am_G T) (hX : am_Xok X T) (hcx : am_Cx X T p s m args meth c y) (hl1 : lim.1 ≤ n0 + R.cells) (hl2 : lim.2 ≤ z0 + R.slots) (hno : ∀ ci j, am_kd (pTy (tP T) ci j) ≠ 3) (hna : ∀ y pc a n t, pCode (tP T) y pc = some (.newarray a, n, t) → am_kd (newarray.typeOf a) ≠ 3) {i : Instr} {n t : Nat} (hc : pCode (tP T) y pc = some (i, n, t)) (hp : am_newI i = true)
    (h : am_step (tP T) (xE X) (iOwn (pInf (tP T) y)) (iKnd (pInf (tP T) y)) (iRet (pInf (tP T) y)) lim C K (am_WW X T p l e R s m args below meth c n0 z0 lim Q) i t pc L st M) : am_WW X T p l e R s m args below meth c n0 z0 lim Q pc L st M := by
  intro H ls locs cells slots hR hS hL hN h1 h2 h3 h4
  obtain ⟨hx, hb, hown, hts, hlk, hin, hw, hret⟩ := hcx
  obtain ⟨hd, htg⟩ := hG.1 y pc i n t hc
  have hz := hR.1
  cases i <;> first | cases hp | skip
  all_goals (unfold am_step at h; dsimp only at h)
  case new k =>
    split at h
    · next ci hci =>
      obtain ⟨g1, g2, h⟩ := h
      obtain ⟨F, N, q1, q2⟩ := hG.2.2.2.2.1 _ _ _ hci
      obtain ⟨-, q3, q4, q5, q6, q7, q8⟩ := hG.2.2.1 _ _ _ _ q1
      have hKn := hw.1 _ _ q1
      subst q3
      refine W.newcK hx hb hown (hts _ q2) (hts _ q7) (hts _ q8) rfl hd (by omega) (by omega) hKn.2.1 rfl fun H1 kC hkC e1 z1 o1 => ?_
      have hsz : am_sz (tP T) (am_push M (.inl ci)) = am_sz (tP T) M + pNf (tP T) ci := am_sz_push _ _ _
      have hlen : (am_push M (.inl ci)).1.1.length = M.1.1.length + 1 := by simp [am_push]
      have g := h H1 ls locs (cells + 1) (slots + pNf (tP T) ci) (am_Rep.new hR z1 o1 ⟨_, q1, ?_⟩) (am_S_new hS z1 o1) hL hN (by omega) (by omega) (by omega) (by omega)
      · have e2 : (Value.ref M.1.1.length :: st).map (xcv X) = .ref H.size :: st.map (xcv X) := by rw [hz]; rfl
        rw [e2] at g
        exact g
      · rw [← hz]
        exact (u_born _ hts q4 hKn hkC e1 q5).to fun j _ => (am_val_0 (hR.2.2 _ (Nat.le_refl _) j) (hno _ _)).symm
    · exact h.elim
  case newarray a =>
    obtain ⟨v, st, rfl, g1, g2, g3, g4, h⟩ := am_i1_inv h
    have hac := hG.2.2.2.2.2.2.2.2.2 _ _ _ _ _ hc
    obtain ⟨cA', hA'⟩ := hX.2.2.2.2.1 _ hac
    refine W.newa hx hb (hts _ hac) rfl hd rfl g1 (by have := am_cb a; have h8 : v.toNatClampNeg * componentBytes (newarray.typeOf a) ≤ 100000 * 8 := Nat.mul_le_mul g2 this; omega) (by omega) (by omega) fun cA kA comp f1 f2 f3 => ?_
    have hcA : cA' = cA := by
      have z := (hw.2.1 _ _ hA').2.1
      have z2 : s.vm.findClass ("[" ++ (newarray.typeOf a).toString) = some cA' := by
        revert z
        cases a <;> exact id
      exact Option.some.inj (z2.symm.trans f1)
    subst hcA
    have hsz : am_sz (tP T) (am_push M (.inr (newarray.typeOf a, v.toNatClampNeg))) = am_sz (tP T) M + v.toNatClampNeg := am_sz_push _ _ _
    have hlen : (am_push M (.inr (newarray.typeOf a, v.toNatClampNeg))).1.1.length = M.1.1.length + 1 := by simp [am_push]
    have z1 : (H.push ({ cls := cA', slots := Array.replicate v.toNatClampNeg (defaultValue (newarray.typeOf a)), vm := .none } : Cell)).size = H.size + 1 := by simp
    have o1 : ∀ q, q < H.size → (H.push ({ cls := cA', slots := Array.replicate v.toNatClampNeg (defaultValue (newarray.typeOf a)), vm := .none } : Cell))[q]? = H[q]? := fun q hq => by rw [Array.getElem?_push, if_neg (Nat.ne_of_lt hq)]
    have g := h _ ls locs (cells + 1) (slots + v.toNatClampNeg) (am_Rep.new hR z1 o1 ⟨cA', hA', ?_⟩) (am_S_new hS z1 o1) hL hN (by omega) (by omega) (by omega) (by omega)
    · have e2 : (Value.ref M.1.1.length :: st).map (xcv X) = .ref H.size :: st.map (xcv X) := by rw [hz]; rfl
      rw [e2] at g
      exact g
    · rw [← hz, arrV_new]
      simp only [Array.getElem?_push_size]
      congr 2
      funext j
      exact (am_val_0 (hR.2.2 _ (Nat.le_refl _) j) (hna _ _ _ _ _ hc)).symm
  case anewarray k =>
    split at h
    · next ci hci =>
      obtain ⟨v, st, rfl, g1, g2, g3, g4, h⟩ := am_i1_inv h
      obtain ⟨F, N, q1, q2⟩ := hG.2.2.2.2.1 _ _ _ hci
      have hO := hG.2.2.2.2.2.2.2.2.1 _ _ _ _ _ _ hc hci
      obtain ⟨cA', hA'⟩ := hX.2.2.2.2.2 _ hO
      refine W.anew hx hb hown (hts _ q2) (va_AO.use (hw.2.2.2.2.2.2.2.1 _ hO)) rfl hd rfl g1 (by omega) (by omega) (by omega) fun cA kA comp f1 f2 f3 f4 => ?_
      have hcA : cA' = cA := by
        obtain ⟨_, _, -, -, -, z⟩ := (hw.2.1 _ _ hA').2.1
        exact Option.some.inj (z.symm.trans f1)
      subst hcA
      have hsz : am_sz (tP T) (am_push M (.inr (.object (pNm (tP T) ci), v.toNatClampNeg))) = am_sz (tP T) M + v.toNatClampNeg := am_sz_push _ _ _
      have hlen : (am_push M (.inr (.object (pNm (tP T) ci), v.toNatClampNeg))).1.1.length = M.1.1.length + 1 := by simp [am_push]
      have z1 : (H.push ({ cls := cA', slots := Array.replicate v.toNatClampNeg .null, vm := .none } : Cell)).size = H.size + 1 := by simp
      have o1 : ∀ q, q < H.size → (H.push ({ cls := cA', slots := Array.replicate v.toNatClampNeg .null, vm := .none } : Cell))[q]? = H[q]? := fun q hq => by rw [Array.getElem?_push, if_neg (Nat.ne_of_lt hq)]
      have g := h _ ls locs (cells + 1) (slots + v.toNatClampNeg) (am_Rep.new hR z1 o1 ⟨cA', hA', ?_⟩) (am_S_new hS z1 o1) hL hN (by omega) (by omega) (by omega) (by omega)
      · have e2 : (Value.ref M.1.1.length :: st).map (xcv X) = .ref H.size :: st.map (xcv X) := by rw [hz]; rfl
        rw [e2] at g
        exact g
      · rw [← hz, arrV_new]
        simp only [Array.getElem?_push_size]
        congr 2
        funext j
        exact (am_val_0 (ty := .object (pNm (tP T) ci)) (hR.2.2 _ (Nat.le_refl _) j) (fun z => by cases z)).symm
    · exact h.elim
end
