/-! Steps that read and write the heap. -/
section
variable {p : Program} {l : Launch} {e : Env} {R : Room} {s : State} {m : MethodId} {args : Array Value} {below : List Frame} {meth : Method} {c : Code} {Q : State → Prop}
variable {X : am_X} {T : am_T} {y n0 z0 : Nat} {lim : Nat × Nat} {C : am_C} {K : am_K} {pc : Nat} {L st : List Value} {M : am_M}
theorem am_arr {H : Heap} {k n : Nat} {ty : FieldType} (hR : xRep X T M H) (hk : M.1.1[k]? = some (.inr (ty, n))) : ∃ cA, xA X ty = some cA ∧ H[xB X + k]? = some (arrV cA n (fun j => am_val (xB X) ty M k j)) := hR.2.1 k _ hk
/-- a place of an array of ints, bytes or truths is written -/
theorem am_Rep_ui {H H' : Heap} {k n j : Nat} {ty : FieldType} {x : Int32} {cA : ClassId} (hR : xRep X T M H) (hk : M.1.1[k]? = some (.inr (ty, n))) (hkd : am_kd ty = 0) (hA : xA X ty = some cA)
    (e1 : H'[xB X + k]? = some ((arrV cA n (fun j => am_val (xB X) ty M k j)).setSlot j (.int x))) (e2 : H'.size = H.size) (e3 : ∀ q, q ≠ xB X + k → H'[q]? = H[q]?) : xRep X T (am_ui M k j x) H' := by
  refine am_Rep.put hR rfl hk (fun k' hk' j' => ⟨?_, rfl, rfl⟩) e2 e3 ⟨cA, hA, ?_⟩
  · show (if k' = k then _ else _) = _
    rw [if_neg hk']
  · rw [e1, arrV_store]
    congr 2
    funext j'
    unfold updV am_val
    rw [hkd]
    by_cases h : j' = j
    · subst h; simp [am_ui]
    · simp [am_ui, h]
theorem am_Rep_ul {H H' : Heap} {k n j : Nat} {ty : FieldType} {x : Int64} {cA : ClassId} (hR : xRep X T M H) (hk : M.1.1[k]? = some (.inr (ty, n))) (hkd : am_kd ty = 1) (hA : xA X ty = some cA)
    (e1 : H'[xB X + k]? = some ((arrV cA n (fun j => am_val (xB X) ty M k j)).setSlot j (.long x))) (e2 : H'.size = H.size) (e3 : ∀ q, q ≠ xB X + k → H'[q]? = H[q]?) : xRep X T (am_ul M k j x) H' := by
  refine am_Rep.put hR rfl hk (fun k' hk' j' => ⟨rfl, ?_, rfl⟩) e2 e3 ⟨cA, hA, ?_⟩
  · show (if k' = k then _ else _) = _
    rw [if_neg hk']
  · rw [e1, arrV_store]
    congr 2
    funext j'
    unfold updV am_val
    rw [hkd]
    by_cases h : j' = j
    · subst h; simp [am_ul]
    · simp [am_ul, h]
theorem am_Rep_ur {H H' : Heap} {k n j : Nat} {ty : FieldType} {x : Nat} {cA : ClassId} (hR : xRep X T M H) (hk : M.1.1[k]? = some (.inr (ty, n))) (hkd : am_kd ty = 2) (hA : xA X ty = some cA)
    (e1 : H'[xB X + k]? = some ((arrV cA n (fun j => am_val (xB X) ty M k j)).setSlot j (.ref (xB X + x)))) (e2 : H'.size = H.size) (e3 : ∀ q, q ≠ xB X + k → H'[q]? = H[q]?) : xRep X T (am_ur M k j x) H' := by
  refine am_Rep.put hR rfl hk (fun k' hk' j' => ⟨rfl, rfl, ?_⟩) e2 e3 ⟨cA, hA, ?_⟩
  · show (if k' = k then _ else _) = _
    rw [if_neg hk']
  · rw [e1, arrV_store]
    congr 2
    funext j'
    unfold updV am_val
    rw [hkd]
    by_cases h : j' = j
    · subst h; simp [am_ur]
    · simp [am_ur, h]
theorem am_S_put {H H' : Heap} {locs : List Loc} {k j : Nat} (hS : va_S (xNew X) s.heap H locs) (e2 : H'.size = H.size) (e3 : ∀ q, q ≠ xB X + k → H'[q]? = H[q]?) : va_S (xNew X) s.heap H' (locs ++ [⟨xB X + k, j⟩]) := hS.put e2 e3 (Nat.le_add_right _ _)
/-- a field of an object is read -/
theorem am_fld {H : Heap} {k : Nat} {f : Nat × Nat} {own idx : Nat} (hG : am_G T) (hw : am_Wd X T s s.heap) (hts : ∀ w ∈ tW T, w.before args s = true) (hf : pFld (tP T) own idx = some f) (hR : xRep X T M H) (hk : M.1.1[k]? = some (.inl f.1)) :
    ∃ (F : u_T) (N : Nat) (cell : Cell) (cf : Nat) (kf : Class) (fi : Nat) (fd : Field), (tC T)[f.1]? = some (pNm (tP T) f.1, F, N) ∧ f.2 < N ∧ Cond.fieldLink (pNm (tP T) own) idx (F f.2).1 (F f.2).2.1 (F f.2).2.2.1 ∈ tW T ∧ pFin (tP T) f.1 f.2 = (F f.2).2.2.2 ∧ (F f.2).1 = pNm (tP T) f.1 ∧
      H[xB X + k]? = some cell ∧ cell.cls = (xD X).1 f.1 ∧ cell.vm = .none ∧ (∀ j, j < N → cell.slots[(xD X).2 f.1 j]? = some (am_val (xB X) (pTy (tP T) f.1 j) M k j)) ∧ s.fieldFound? (F f.2).1 (F f.2).2.1 (F f.2).2.2.1 = some (cf, kf, fi, fd) ∧ fd.slot = (xD X).2 f.1 f.2 := by
  obtain ⟨F, N, h1, h2, h3, h4, h5⟩ := hG.2.1 own idx f hf
  obtain ⟨r, h6, cell, q1, q2, q3, q4⟩ := hR.2.1 k _ hk
  have hr : r = (pNm (tP T) f.1, F, N) := Option.some.inj (h6.symm.trans h1)
  subst hr
  obtain ⟨hs, -⟩ := hw.1 _ _ h1
  obtain ⟨cf, kf, fi, fd, hi, hsl⟩ := hs f.2 h2
  exact ⟨F, N, cell, cf, kf, fi, fd, h1, h2, h3, h4, h5, q1, q2, q3, q4, hi, hsl⟩
theorem am_getf {H : Heap} {ls : Array Slot} {locs : List Loc} {cells slots : Nat} {k : Nat} {f : Nat × Nat} {own idx : Nat} {rest : List Value} {cc : ByteArray} (hG : am_G T) (hw : am_Wd X T s s.heap) (hts : ∀ w ∈ tW T, w.before args s = true) (hx : p.tables.exec = Jvm.exec) (hb : c.code = cc) (hown : s.vm.findClass (pNm (tP T) own) = some m.cls) (hf : pFld (tP T) own idx = some f) (hR : xRep X T M H) (hk : M.1.1[k]? = some (.inl f.1)) (hd : decode cc pc = .ok (.getfield idx, 3))
    (kk : W p l e R s m args below meth c H locs cells slots Q (F0 m (pc + 3) ls (am_val (xB X) (pTy (tP T) f.1 f.2) M k f.2 :: rest))) : W p l e R s m args below meth c H locs cells slots Q (F0 m pc ls (.ref (xB X + k) :: rest)) := by
  obtain ⟨F, N, cell, cf, kf, fi, fd, h1, h2, h3, h4, h5, q1, q2, q3, q4, hi, hsl⟩ := am_fld hG hw hts hf hR hk
  obtain ⟨-, -, hin, -⟩ := hG.2.2.1 _ _ _ _ h1
  obtain ⟨-, hfc, kC, hkC, hkind⟩ := hw.1 _ _ h1
  exact W.getf hx hb hown (hts _ h3) hi (u_facts hfc hkC (u_lays hts hin h2) hi).1 q1 (by rw [q3]; exact fun h => by cases h) (by rw [hsl]; exact q4 _ h2) rfl rfl hd kk
/-- a field of an object is written -/
theorem am_putf {H : Heap} {ls : Array Slot} {locs : List Loc} {cells slots : Nat} {k : Nat} {f : Nat × Nat} {own idx : Nat} {rest : List Value} {cc : ByteArray} {v : Value} {M' : am_M} (hG : am_G T) (hw : am_Wd X T s s.heap) (hts : ∀ w ∈ tW T, w.before args s = true) (hx : p.tables.exec = Jvm.exec) (hb : c.code = cc) (hown : s.vm.findClass (pNm (tP T) own) = some m.cls) (hf : pFld (tP T) own idx = some f) (hR : xRep X T M H) (hS : va_S (xNew X) s.heap H locs) (hk : M.1.1[k]? = some (.inl f.1)) (hd : decode cc pc = .ok (.putfield idx, 3))
    (hfin : pFin (tP T) f.1 f.2 = false ∨ (meth.name = "<init>" ∧ own = f.1)) (hn : narrow (pTy (tP T) f.1 f.2) v = v) (hfit : fits (pTy (tP T) f.1 f.2) v = true)
    (hs : M'.1.1 = M.1.1) (hv : ∀ k', k' ≠ k → ∀ j, M'.2.1 k' j = M.2.1 k' j ∧ M'.2.2 k' j = M.2.2 k' j ∧ M'.1.2 k' j = M.1.2 k' j) (hsame : ∀ (ty : FieldType) (j : Nat), j ≠ f.2 → am_val (xB X) ty M' k j = am_val (xB X) ty M k j) (hnew : am_val (xB X) (pTy (tP T) f.1 f.2) M' k f.2 = v)
    (kk : ∀ (H1 : Heap) (locs1 : List Loc), xRep X T M' H1 → va_S (xNew X) s.heap H1 locs1 → W p l e R s m args below meth c H1 locs1 cells slots Q (F0 m (pc + 3) ls rest)) : W p l e R s m args below meth c H locs cells slots Q (F0 m pc ls (v :: .ref (xB X + k) :: rest)) := by
  obtain ⟨F, N, cell, cf, kf, fi, fd, h1, h2, h3, h4, h5, q1, q2, q3, q4, hi, hsl⟩ := am_fld hG hw hts hf hR hk
  obtain ⟨-, -, hin, hty, hnm, -⟩ := hG.2.2.1 _ _ _ _ h1
  obtain ⟨hSl, hfc, kC, hkC, hkind⟩ := hw.1 _ _ h1
  have hlays := u_lays hts hin h2
  have hap : ∀ x y, x < N → y < N → x ≠ y → ((xD X).2 f.1) x ≠ ((xD X).2 f.1) y := by
    intro x y hx' hy' hne
    obtain ⟨_, _, _, fa, hia, ea⟩ := hSl x hx'
    obtain ⟨_, _, _, fb, hib, eb⟩ := hSl y hy'
    rw [← ea, ← eb]
    refine u_apart (u_lays hts hin hx') (u_lays hts hin hy') hia hib ?_
    rw [(State.fieldFound?_type hia (hty x hx')).1, (State.fieldFound?_type hib (hty y hy')).1]
    exact hnm x hx' y hy' hne
  have hst := (u_facts hfc hkC hlays hi).1
  have fin : ∀ H' : Heap, H'[xB X + k]? = some (cell.setSlot fd.slot v) → H'.size = H.size → (∀ q, q ≠ xB X + k → H'[q]? = H[q]?) → W p l e R s m args below meth c H' (locs ++ [⟨xB X + k, fd.slot⟩]) cells slots Q (F0 m (pc + 3) ls rest) := by
    intro H' e1 e2 e3
    refine kk H' _ (am_Rep.put hR hs hk hv e2 e3 ⟨_, h1, ?_⟩) (am_S_put hS e2 e3)
    rw [hsl] at e1
    have hob : t_OB (xB X + k) ((xD X).1 f.1) N ((xD X).2 f.1) H' (updV (fun j => am_val (xB X) (pTy (tP T) f.1 j) M k j) f.2 v) := ⟨_, e1, q2, q3, t_set q4 hap h2 v⟩
    refine hob.to fun j hj => ?_
    unfold updV
    by_cases hjf : j = f.2
    · subst hjf; simp [hnew]
    · simp [hjf, hsame _ j hjf]
  rcases hfin with hfin | ⟨hin2, hof⟩
  · have hlay := hts _ (hin _ (u_in_lay h2))
    unfold u_lay at hlay
    rw [if_neg (by rw [← h4, hfin]; decide)] at hlay
    have h6 := u_store hfc hkC hkind hlay hi (hty _ h2) hn hfit
    exact W.putK hx hb (f := fd) ⟨hown, hts _ h3, ⟨_, _, _, hi⟩, hst⟩ (by rw [q2]; exact h6) q1 q3 (by rw [hsl]; exact k2_hasslot (q4 _ h2)) rfl rfl hd fin
  · by_cases hF : (F f.2).2.2.2 = true
    · have hlay := hts _ (hin _ (u_in_lay h2))
      unfold u_lay at hlay
      rw [if_pos hF] at hlay
      have hcf : m.cls = cf := by
        obtain ⟨_, _, c', _, _, _, -, -, hf', -, -, -, hown2, -⟩ := Cond.laysFinal_spec hlay
        have e1 : c' = cf := by have := hi.symm.trans hf'; simp at this; exact this.1.symm
        rw [h5, ← hof] at hown2
        rw [← e1]; exact Option.some.inj (hown.symm.trans hown2)
      have h6 := u_fits hfc hkC hkind (Or.inr hlay) hi (hty _ h2) hn hfit
      exact W.putFinK hx hb hown (hts _ h3) hi hst hcf hin2 (by rw [q2]; exact h6) q1 q3 (by rw [hsl]; exact k2_hasslot (q4 _ h2)) rfl rfl hd fin
    · have hlay := hts _ (hin _ (u_in_lay h2))
      unfold u_lay at hlay
      rw [if_neg hF] at hlay
      have h6 := u_store hfc hkC hkind hlay hi (hty _ h2) hn hfit
      exact W.putK hx hb (f := fd) ⟨hown, hts _ h3, ⟨_, _, _, hi⟩, hst⟩ (by rw [q2]; exact h6) q1 q3 (by rw [hsl]; exact k2_hasslot (q4 _ h2)) rfl rfl hd fin
theorem am_fit_ok {ty : FieldType} {x : Int32} (h : am_fit ty x) : narrow ty (.int x) = .int x ∧ fits ty (.int x) = true := by
  cases ty with
  | int => exact ⟨rfl, rfl⟩
  | boolean =>
    rcases h with rfl | rfl
    · exact ⟨by decide, by decide⟩
    · exact ⟨by decide, by decide⟩
  | char =>
    refine ⟨h, ?_⟩
    have h' : narrow .char (.int x) = .int x := h
    rw [← h']
    exact pk_fc x
  | byte =>
    refine ⟨h, ?_⟩
    have h' : narrow .byte (.int x) = .int x := h
    rw [← h']
    exact pk_fb x
  | _ => exact h.elim
set_option maxHeartbeats 4000000 in
theorem am_sound_fld (hG : am_G T) (hX : am_Xok X T) (hcx : am_Cx X T p s m args meth c y) {k n t : Nat} (hc : pCode (tP T) y pc = some (.getfield k, n, t))
    (h : am_step (tP T) (xE X) (iOwn (pInf (tP T) y)) (iKnd (pInf (tP T) y)) (iRet (pInf (tP T) y)) lim C K (am_WW X T p l e R s m args below meth c n0 z0 lim Q) (.getfield k) t pc L st M) : am_WW X T p l e R s m args below meth c n0 z0 lim Q pc L st M := by
  intro H ls locs cells slots hR hS hL hN h1 h2 h3 h4
  obtain ⟨hx, hb, hown, hts, hlk, hin, hw, hret⟩ := hcx
  obtain ⟨hd, htg⟩ := hG.1 y pc _ n t hc
  unfold am_step at h
  dsimp only at h
  split at h
  · next f hf =>
    unfold am_get at h
    split at h
    · next a st =>
      obtain ⟨hk, h⟩ := h
      refine am_getf hG hw hts hx hb hown hf hR hk hd ?_
      split at h
      · next z => have e1 : am_val (xB X) (pTy (tP T) f.1 f.2) M a f.2 = .int (M.2.1 a f.2) := by unfold am_val; rw [z]; rfl
                  rw [e1]; exact h H ls locs cells slots hR hS hL hN h1 h2 h3 h4
      · next z => have e1 : am_val (xB X) (pTy (tP T) f.1 f.2) M a f.2 = .long (M.2.2 a f.2) := by unfold am_val; rw [z]; rfl
                  rw [e1]; exact h H ls locs cells slots hR hS hL hN h1 h2 h3 h4
      · next z =>
        obtain ⟨b, hb2, h⟩ := h
        have e1 : am_val (xB X) (pTy (tP T) f.1 f.2) M a f.2 = .ref (xB X + b) := by unfold am_val; rw [z, hb2]; rfl
        rw [e1]; exact h H ls locs cells slots hR hS hL hN h1 h2 h3 h4
      · exact h.elim
    · exact h.elim
  · next hf hcs =>
    have hl := hG.2.2.2.1 _ _ _ hcs
    unfold am_getS at h
    split at h
    · next a st =>
      obtain ⟨i, rfl, hi, h⟩ := h
      have e1 := (hX.2.2.2.1 i hi).1
      have hE := (hw.2.2.2.1.1 i hi).2.1
      have g := h H ls locs cells slots hR hS hL hN h1 h2 h3 h4
      have e2 : (Value.retAddr (2 * i + 2) :: st).map (xcv X) = .ref (xK X i) :: st.map (xcv X) := by rw [← e1]; rfl
      rw [e2]
      exact vk_getf hx hb hE hS hown (hts _ hl) (fun _ z => z) hd g
    · exact h.elim
  · next hf hcs =>
    have hl := hG.2.2.2.1 _ _ _ hcs
    unfold am_getS at h
    split at h
    · next a st =>
      obtain ⟨i, rfl, hi, h⟩ := h
      have e1 := (hX.2.2.2.1 i hi).1
      have e3 := (hX.2.2.2.1 i hi).2.1
      have hE := (hw.2.2.2.1.1 i hi).2.2.1
      have g := h H ls locs cells slots hR hS hL hN h1 h2 h3 h4
      have e2 : (Value.retAddr (2 * i + 2) :: st).map (xcv X) = .ref (xK X i) :: st.map (xcv X) := by rw [← e1]; rfl
      have e4 : (Value.retAddr (2 * i + 2 + 1) :: st).map (xcv X) = .ref (xW X i) :: st.map (xcv X) := by rw [← e3]; rfl
      rw [e2]
      rw [e4] at g
      exact vk_getf hx hb hE hS hown (hts _ hl) (fun _ z => z) hd g
    · exact h.elim
  · exact h.elim
set_option maxHeartbeats 4000000 in
theorem am_sound_put (hG : am_G T) (hX : am_Xok X T) (hcx : am_Cx X T p s m args meth c y) {k n t : Nat} (hc : pCode (tP T) y pc = some (.putfield k, n, t))
    (h : am_step (tP T) (xE X) (iOwn (pInf (tP T) y)) (iKnd (pInf (tP T) y)) (iRet (pInf (tP T) y)) lim C K (am_WW X T p l e R s m args below meth c n0 z0 lim Q) (.putfield k) t pc L st M) : am_WW X T p l e R s m args below meth c n0 z0 lim Q pc L st M := by
  intro H ls locs cells slots hR hS hL hN h1 h2 h3 h4
  obtain ⟨hx, hb, hown, hts, hlk, hin, hw, hret⟩ := hcx
  obtain ⟨hd, htg⟩ := hG.1 y pc _ n t hc
  unfold am_step at h
  dsimp only at h
  split at h
  · next f hf =>
    unfold am_put at h
    split at h
    · next hfb =>
      have hfin : pFin (tP T) f.1 f.2 = false ∨ (meth.name = "<init>" ∧ iOwn (pInf (tP T) y) = f.1) := by
        simp only [Bool.or_eq_true, Bool.not_eq_true', Bool.and_eq_true] at hfb
        rcases hfb with z | ⟨z1, z2⟩
        · exact Or.inl z
        · exact Or.inr ⟨hin (Nat.eq_of_beq_eq_true z1), Nat.eq_of_beq_eq_true z2⟩
      split at h
      · next x a st z =>
        obtain ⟨hk, hft, h⟩ := h
        obtain ⟨g1, g2⟩ := am_fit_ok hft
        refine am_putf (M' := am_ui M a f.2 x) hG hw hts hx hb hown hf hR hS hk hd hfin g1 g2 rfl (fun k' hk' j => ⟨?_, rfl, rfl⟩) (fun ty j hj => am_val_congr ?_ rfl rfl) ?_ (fun H1 locs1 hR1 hS1 => h H1 ls locs1 cells slots hR1 hS1 hL hN h1 h2 h3 h4)
        · simp [am_ui, hk']
        · simp [am_ui, hj]
        · unfold am_val; rw [z]; simp [am_ui]; rfl
      · next x a st z =>
        obtain ⟨hk, h⟩ := h
        have hty : pTy (tP T) f.1 f.2 = .long := by
          revert z; cases pTy (tP T) f.1 f.2 <;> simp [am_kd]
        refine am_putf (M' := am_ul M a f.2 x) hG hw hts hx hb hown hf hR hS hk hd hfin (by rw [hty]; rfl) (by rw [hty]; rfl) rfl (fun k' hk' j => ⟨rfl, ?_, rfl⟩) (fun ty j hj => am_val_congr rfl ?_ rfl) ?_ (fun H1 locs1 hR1 hS1 => h H1 ls locs1 cells slots hR1 hS1 hL hN h1 h2 h3 h4)
        · simp [am_ul, hk']
        · simp [am_ul, hj]
        · unfold am_val; rw [z]; simp [am_ul]; rfl
      · next x a st z =>
        obtain ⟨hk, h⟩ := h
        have hty : (∃ C, pTy (tP T) f.1 f.2 = .object C) ∨ ∃ t', pTy (tP T) f.1 f.2 = .array t' := by
          revert z; cases pTy (tP T) f.1 f.2 <;> simp [am_kd]
        refine am_putf (M' := am_ur M a f.2 x) (v := .ref (xB X + x)) hG hw hts hx hb hown hf hR hS hk hd hfin (by rcases hty with ⟨C, q⟩ | ⟨t', q⟩ <;> rw [q] <;> rfl) (by rcases hty with ⟨C, q⟩ | ⟨t', q⟩ <;> rw [q] <;> rfl) rfl (fun k' hk' j => ⟨rfl, rfl, ?_⟩) (fun ty j hj => am_val_congr rfl rfl ?_) ?_ (fun H1 locs1 hR1 hS1 => h H1 ls locs1 cells slots hR1 hS1 hL hN h1 h2 h3 h4)
        · simp [am_ur, hk']
        · simp [am_ur, hj]
        · unfold am_val; rw [z]; simp [am_ur]
      · exact h.elim
    · exact h.elim
  · exact h.elim
end
