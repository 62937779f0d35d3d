/-! Calls and returns; the contract of every method out of its meaning. -/
section
variable {p : Program} {l : Launch} {e : Env} {R : Room} {s : State} {m : MethodId} {args : Array Value} {below : List Frame} {meth : Method} {c : Code} {Q : State → Prop}
variable {X : am_X} {T : am_T} {y n0 z0 : Nat} {lim : Nat × Nat} {C : am_C} {K : am_K} {pc : Nat} {L st : List Value} {M : am_M}
theorem am_cat (ht : am_tvok (xV X)) (v : Value) : (xcv X v).category = v.category := by
  cases v with
  | retAddr n =>
    show (xV X n).category = 1
    rcases ht n with h | ⟨a, h⟩ <;> rw [h] <;> rfl
  | _ => rfl
theorem am_cats (ht : am_tvok (xV X)) (st : List Value) : ((st.map (xcv X)).map fun v => v.category) = st.map fun v => v.category := by
  rw [List.map_map]
  exact List.map_congr_left fun v _ => am_cat ht v
theorem am_good (hG : am_G T) {ws : List Cond} (h : ∀ w ∈ ws, w ∈ tW T) : GoodIn (tW T) ws := fun w hw => ⟨h w hw, good_of_word (hG.2.2.2.2.2.2.2.1 w (h w hw))⟩
theorem am_pre {H : Heap} {locs : List Loc} {as : List Value} (hX : am_Xok X T) (hw : am_Wd X T s s.heap) (hR : xRep X T M H) (hS : va_S (xNew X) s.heap H locs) {U : State} (hU : U.heap = H) (hW : s.WarmedH U.vm) : am_Pc X T as M (as.map (xcv X)).toArray U :=
  ⟨rfl, by rw [hU]; exact hR, by rw [hU]; exact am_Wd.kept hX.2.2.1 (am_Wd.mv hW hw) hS.2.1⟩
theorem am_rcv1 {E : am_E} {P : am_P} {as : List Value} (h : am_rcv P E y as M) (hk : iKnd (pInf P y) = 1) : (∃ k as', as = .ref k :: as' ∧ M.1.1[k]? = some (.inl (iOwn (pInf P y)))) ∨ ∃ i as', as = .retAddr (2 * i + 2) :: as' ∧ i < E.2.1 ∧ pNm P (iOwn (pInf P y)) = "java/lang/String" := by
  unfold am_rcv at h
  rw [hk] at h
  cases as with
  | nil => exact (show False from h).elim
  | cons a t =>
    cases a with
    | ref k => exact Or.inl ⟨k, t, rfl, h⟩
    | retAddr z =>
      obtain ⟨i, rfl, h1, h2⟩ := (show ∃ i, z = 2 * i + 2 ∧ i < E.2.1 ∧ pNm P (iOwn (pInf P y)) = "java/lang/String" from h)
      exact Or.inr ⟨i, t, rfl, h1, h2⟩
    | _ => exact (show False from h).elim
theorem am_rcv2 {E : am_E} {P : am_P} {as : List Value} (h : am_rcv P E y as M) (hk : iKnd (pInf P y) = 2) : ∃ k as', as = .ref k :: as' := by
  unfold am_rcv at h
  rw [hk] at h
  cases as with
  | nil => exact (show False from h).elim
  | cons a t =>
    cases a with
    | ref k => exact ⟨k, t, rfl⟩
    | _ => exact (show False from h).elim
set_option maxHeartbeats 4000000 in
theorem am_sound_inv (hG : am_G T) (hX : am_Xok X T) (hcx : am_Cx X T p s m args meth c y) (hl1 : lim.1 ≤ n0 + R.cells) (hl2 : lim.2 ≤ z0 + R.slots) {d : Nat} (hfr : d + 1 ≤ R.frames) (hlo : 32 * d + 32 ≤ R.locals) (hC : ∀ y as M K, am_mok T y → C y as M K → as.length = iArg (pInf (tP T) y) ∧ am_Met X T l d y as M K) {k y' kn n t : Nat} {i : Instr}
    (hi : (i = .invokestatic k ∧ kn = 0) ∨ (i = .invokevirtual k ∧ kn = 1) ∨ (i = .invokespecial k ∧ kn = 2)) (hm : pMth (tP T) (iOwn (pInf (tP T) y)) k = some y') (hy2 : 4 ≤ y') (hc : pCode (tP T) y pc = some (i, n, t))
    (h : am_inv (tP T) (xE X) lim C (am_WW X T p l e R s m args below meth c n0 z0 lim Q) y' kn pc L st M) : am_WW X T p l e R s m args below meth c n0 z0 lim Q pc L st M := by
  intro H ls locs cells slots hR hS hL hN h1 h2 h3 h4
  obtain ⟨hx, hb, hown, hts, hlk, hin, hw, hret⟩ := hcx
  obtain ⟨hd, -⟩ := hG.1 y pc _ n t hc
  have hlnk := hG.2.2.2.2.2.1 _ _ _ hm
  have hmok := hG.2.2.2.2.2.2.1 _ _ _ hm hy2
  obtain ⟨m1, m2, m3, m4, m5, ⟨m6, m7, m8⟩, m9⟩ := id hmok
  have hlink : Cond.methodLink (pNm (tP T) (iOwn (pInf (tP T) y))) k (tN T y') ∈ tW T ∨ (iKnd (pInf (tP T) y') = 2 ∧ ∃ host, (pNm (tP T) (iOwn (pInf (tP T) y)), k, tN T y', host) ∈ tH T) := by
    match y', hy2, hlnk with
    | y'' + 4, _, hlnk => exact hlnk
  unfold am_inv at h
  split at h
  · next b1 b2 b3 =>
    have b1 : iArg (pInf (tP T) y') ≤ st.length := Nat.le_of_ble_eq_true b1
    have b2 := Nat.le_of_ble_eq_true b2
    have b3 : kn = iKnd (pInf (tP T) y') := Nat.eq_of_beq_eq_true b3
    obtain ⟨hrcv, hbud, h⟩ := h
    generalize has : (st.take (iArg (pInf (tP T) y'))).reverse = as at h hrcv
    generalize hrs : st.drop (iArg (pInf (tP T) y')) = rest at h b2
    obtain ⟨hal, hM⟩ := hC _ _ _ _ hmok h
    have hst : st = as.reverse ++ rest := by rw [← has, ← hrs, List.reverse_reverse, List.take_append_drop]
    have hroom : 2 * (F0 m pc ls (st.map (xcv X))).monitorRoom + ((rest.map (xcv X)).map fun v => v.category).sum ≤ 8 := lv_room (by rw [am_cats hX.1]; exact b2)
    have hsz : ls.size = c.maxLocals := hL.1.trans hN
    have hbd : cells + iCel (pInf (tP T) y') ≤ R.cells ∧ slots + iSlt (pInf (tP T) y') ≤ R.slots ∧ M.1.1.length + iCel (pInf (tP T) y') ≤ lim.1 ∧ am_sz (tP T) M + iSlt (pInf (tP T) y') ≤ lim.2 := by
      unfold am_bud at hbud
      split at hbud
      · next z1 z2 => rw [z1, z2]; omega
      · obtain ⟨u1, u2⟩ := hbud; omega
    have hRoom : (am_rm d (pInf (tP T) y')).frames + 1 ≤ R.frames ∧ 8 + (iMax (pInf (tP T) y') + 11) + (am_rm d (pInf (tP T) y')).locals ≤ R.locals := ⟨hfr, by show 8 + (_ + 11) + 32 * d ≤ _; omega⟩
    have next : ∀ (r : Option Value) (M' : am_M) (H1 : Heap) (locs1 : List Loc), am_WW X T p l e R s m args below meth c n0 z0 lim Q (pc + 3) L (r.toList ++ rest) M' → M'.1.1.length = M.1.1.length + iCel (pInf (tP T) y') → am_sz (tP T) M' = am_sz (tP T) M + iSlt (pInf (tP T) y') → xRep X T M' H1 → va_S (xNew X) s.heap H1 locs1 →
        W p l e R s m args below meth c H1 locs1 (cells + iCel (pInf (tP T) y')) (slots + iSlt (pInf (tP T) y')) Q (F0 m (pc + 3) ls ((r.map (xcv X)).toList ++ rest.map (xcv X))) := by
      intro r M' H1 locs1 hk hlen hs' hrep hS1
      have g := hk H1 ls locs1 (cells + iCel (pInf (tP T) y')) (slots + iSlt (pInf (tP T) y')) hrep hS1 hL hN (by omega) (by omega) (by omega) (by omega)
      have e2 : (r.toList ++ rest).map (xcv X) = (r.map (xcv X)).toList ++ rest.map (xcv X) := by cases r <;> simp
      rw [e2] at g
      exact g
    rcases hi with ⟨rfl, rfl⟩ | ⟨rfl, rfl⟩ | ⟨rfl, rfl⟩
    · rw [← b3] at m8 m9
      rw [if_pos rfl] at m8
      have hl : Cond.methodLink (pNm (tP T) (iOwn (pInf (tP T) y))) k (tN T y') ∈ tW T := by
        rcases hlink with z | ⟨z, -⟩
        · exact z
        · rw [← b3] at z; cases z
      have hgd : GoodIn (tW T) (va_wsS (pNm (tP T) (iOwn (pInf (tP T) y))) k (tN T y') (am_ws T y')) := am_good hG (by
        intro w hw'
        unfold va_wsS at hw'
        simp only [List.cons_append, List.nil_append, List.mem_cons] at hw'
        rcases hw' with rfl | rfl | rfl | rfl | z
        · exact hl
        · exact m9
        · exact m2
        · exact m1
        · exact z)
      exact am_after (va_runS (As := as.map (xcv X)) (rest := rest.map (xcv X)) ⟨hx, hb, rfl, hown, hts⟩ hM (va_cwS _ hts hgd rfl rfl rfl ⟨m6, m7, m8⟩ hRoom) ⟨am_blind X T as M, fun U hU hW => am_pre hX hw hR hS hU hW⟩ rfl (by simpa using hal) hsz (by show st.map (xcv X) = _; rw [hst]; simp) hroom hd ⟨hbd.1, hbd.2.1⟩) hS next
    · rw [← b3] at m8 m9
      rw [if_neg (by decide)] at m8
      obtain ⟨u1, u2, u3⟩ := m9
      have hl : Cond.methodLink (pNm (tP T) (iOwn (pInf (tP T) y))) k (tN T y') ∈ tW T := by
        rcases hlink with z | ⟨z, -⟩
        · exact z
        · rw [← b3] at z; cases z
      have hgd : GoodIn (tW T) (wsV (pNm (tP T) (iOwn (pInf (tP T) y))) k (tN T y').cls (tN T y') (am_ws T y')) := am_good hG (by
        intro w hw'
        unfold wsV at hw'
        simp only [List.cons_append, List.nil_append, List.mem_cons] at hw'
        rcases hw' with rfl | rfl | rfl | rfl | rfl | z
        · exact hl
        · exact u2
        · exact u3
        · exact m2
        · exact m1
        · exact z)
      have key : ∀ (b : Addr) (As : List Value), as.map (xcv X) = .ref b :: As → (∃ cellB : Cell, H[b]? = some cellB ∧ cellB.vm.isStatics = false ∧ s.vm.findClass (tN T y').cls = some cellB.cls) → W p l e R s m args below meth c H locs cells slots Q (F0 m pc ls (st.map (xcv X))) := by
        intro b As eA hB
        have hAl : As.length = iArg (pInf (tP T) y') - 1 := by
          have := congrArg List.length eA
          simp at this
          omega
        have hM' : Met l (tN T y') (am_ws T y') (am_rm d (pInf (tP T) y')) (am_Pc X T as M) (am_Qc X T y' M _) (iCel (pInf (tP T) y')) (iSlt (pInf (tP T) y')) (xNew X) := hM
        refine am_after (va_runV (As := As) (rest := rest.map (xcv X)) ⟨hx, hb, rfl, hown, hts⟩ hM' (cwV _ hts hgd rfl rfl rfl ⟨rfl, m6, m7, m8⟩ hRoom) ⟨am_blind X T as M, hB, fun U hU hW => ?_⟩ rfl hAl hsz ?_ hroom hd ⟨hbd.1, hbd.2.1⟩) hS next
        · rw [← eA]; exact am_pre hX hw hR hS hU hW
        · show st.map (xcv X) = _
          rw [hst, List.map_append, List.map_reverse, eA]
          simp
      rcases am_rcv1 hrcv b3.symm with ⟨k', as', rfl, hrk⟩ | ⟨i, as', rfl, hi', hnm⟩
      · refine key (xB X + k') (as'.map (xcv X)) rfl ?_
        obtain ⟨r, hr, cellV, g1, g2, g3, -⟩ := hR.2.1 _ _ hrk
        obtain ⟨rC, rF, rN⟩ := r
        have hnm := (hG.2.2.1 _ _ _ _ hr).1
        have hcls := (hw.1 _ _ hr).2.1
        rw [hnm] at hcls
        exact ⟨cellV, g1, by rw [g3]; rfl, by rw [m3, g2]; exact hcls⟩
      · have e1 := (hX.2.2.2.1 i hi').1
        refine key (xK X i) (as'.map (xcv X)) (by rw [← e1]; rfl) ?_
        rw [m3, hnm]
        exact vk_recv hw.2.2.2.1 hi' hS
    · rw [← b3] at m8 m9
      rw [if_neg (by decide)] at m8
      obtain ⟨u1, u2, u3, u4⟩ := m9
      have hgd : GoodIn (tW T) (am_ws T y') := am_good hG (by
        intro w hw'
        rcases List.mem_cons.mp hw' with rfl | z
        · exact m1
        · exact z)
      obtain ⟨k', as', rfl⟩ := am_rcv2 hrcv b3.symm
      · have hAl : (as'.map (xcv X)).length = iArg (pInf (tP T) y') - 1 := by simp at hal ⊢; omega
        have hM' : Met l (tN T y') (Cond.code (tN T y') (tB T y') (iMax (pInf (tP T) y')) none :: tW T) (am_rm d (pInf (tP T) y')) (am_Pc X T (.ref k' :: as') M) (am_Qc X T y' M (fun r M' => am_WW X T p l e R s m args below meth c n0 z0 lim Q (pc + 3) L (r.toList ++ rest) M')) (iCel (pInf (tP T) y')) (iSlt (pInf (tP T) y')) (xNew X) := by rw [← u4]; exact hM
        have hgd' : GoodIn (tW T) (Cond.code (tN T y') (tB T y') (iMax (pInf (tP T) y')) none :: tW T) := by rw [← u4]; exact hgd
        have hstk : (F0 m pc ls (st.map (xcv X))).stack = (as'.map (xcv X)).reverse ++ .ref (xB X + k') :: rest.map (xcv X) := by
          show st.map (xcv X) = _
          rw [hst]
          simp
          rfl
        rcases hlink with hl | ⟨-, host, hh⟩
        · exact am_after (va_runI (b := xB X + k') (As := as'.map (xcv X)) (rest := rest.map (xcv X)) ⟨hx, hb, rfl, hown, hts⟩ hM' (cwI _ hts hgd' rfl rfl rfl (hts _ m2) (hts _ hl) (hts _ u2) u3 ⟨m6, m7, m8⟩ hRoom) ⟨am_blind X T _ M, fun U hU hW => am_pre hX hw hR hS hU hW⟩ rfl hAl hsz hstk hroom hd ⟨hbd.1, hbd.2.1⟩) hS next
        · exact am_after (va_runIN (b := xB X + k') (As := as'.map (xcv X)) (rest := rest.map (xcv X)) ⟨hx, hb, rfl, hown, hts⟩ hM' ⟨va_cnB _ hts hgd' rfl rfl rfl (hw.2.2.2.2.2.2.2.2 _ hh) (hts _ m2) ⟨m6, m7, m8⟩ hRoom, u3, hts _ u2⟩ ⟨am_blind X T _ M, fun U hU hW => am_pre hX hw hR hS hU hW⟩ rfl hAl hsz hstk hroom hd ⟨hbd.1, hbd.2.1⟩) hS next
  · exact h.elim
set_option maxHeartbeats 4000000 in
theorem am_sound_obj (hG : am_G T) (hX : am_Xok X T) (hcx : am_Cx X T p s m args meth c y) (hfr : 1 ≤ R.frames) (hlo : 32 ≤ R.locals) {k n t : Nat} (hm : pMth (tP T) (iOwn (pInf (tP T) y)) k = some 0) (hc : pCode (tP T) y pc = some (.invokespecial k, n, t))
    (h : am_obj (am_WW X T p l e R s m args below meth c n0 z0 lim Q) pc L st M) : am_WW X T p l e R s m args below meth c n0 z0 lim Q pc L st M := by
  intro H ls locs cells slots hR hS hL hN h1 h2 h3 h4
  obtain ⟨hx, hb, hown, hts, hlk, hin, hw, hret⟩ := hcx
  obtain ⟨hd, -⟩ := hG.1 y pc _ n t hc
  obtain ⟨q1, q2, q3⟩ := hG.2.2.2.2.2.1 _ _ _ hm
  unfold am_obj at h
  split at h
  · next a st =>
    split at h
    · next b =>
      have b := Nat.le_of_ble_eq_true b
      refine W.objInit hx hb hown (hts _ q1) (hts _ q2) (hts _ q3) rfl (hL.1.trans hN) rfl hd hfr ?_ (h H ls locs cells slots hR hS hL hN h1 h2 h3 h4)
      rw [am_cats hX.1]
      show 2 * 0 + _ + 12 ≤ _
      omega
    · exact h.elim
  · exact h.elim
set_option maxHeartbeats 4000000 in
theorem am_sound_mm (hG : am_G T) (hX : am_Xok X T) (hcx : am_Cx X T p s m args meth c y) (hl1 : lim.1 ≤ n0 + R.cells) (hl2 : lim.2 ≤ z0 + R.slots) (hfr : 1 ≤ R.frames) (hlo : 32 ≤ R.locals) {k n t : Nat} (hc : pCode (tP T) y pc = some (.invokestatic k, n, t))
    (h : (pMth (tP T) (iOwn (pInf (tP T) y)) k = some 2 ∧ am_mm (am_WW X T p l e R s m args below meth c n0 z0 lim Q) (fun x y => if x < y then y else x) pc L st M) ∨ (pMth (tP T) (iOwn (pInf (tP T) y)) k = some 3 ∧ am_mm (am_WW X T p l e R s m args below meth c n0 z0 lim Q) (fun x y => if y < x then y else x) pc L st M)) : am_WW X T p l e R s m args below meth c n0 z0 lim Q pc L st M := by
  intro H ls locs cells slots hR hS hL hN h1 h2 h3 h4
  obtain ⟨hx, hb, hown, hts, hlk, hin, hw, hret⟩ := hcx
  obtain ⟨hd, -⟩ := hG.1 y pc _ n t hc
  have hml : c.maxLocals = ls.size := (hL.1.trans hN).symm
  rcases h with ⟨hm, h⟩ | ⟨hm, h⟩
  · obtain ⟨q1, q2, q3, q4⟩ := hG.2.2.2.2.2.1 _ _ _ hm
    unfold am_mm at h
    split at h
    · next y' x st =>
      split at h
      · next b =>
        have b := Nat.le_of_ble_eq_true b
        exact va_mmax hx hb hml hown (hts _ q1) (hts _ q2) (hts _ q3) (hts _ q4) hfr (by rw [am_cats hX.1]; omega) (by omega) (by omega) hd (h H ls locs cells slots hR hS hL hN h1 h2 h3 h4)
      · exact h.elim
    · exact h.elim
  · obtain ⟨q1, q2, q3, q4⟩ := hG.2.2.2.2.2.1 _ _ _ hm
    unfold am_mm at h
    split at h
    · next y' x st =>
      split at h
      · next b =>
        have b := Nat.le_of_ble_eq_true b
        exact va_mmin hx hb hml hown (hts _ q1) (hts _ q2) (hts _ q3) (hts _ q4) hfr (by rw [am_cats hX.1]; omega) (by omega) (by omega) hd (h H ls locs cells slots hR hS hL hN h1 h2 h3 h4)
      · exact h.elim
    · exact h.elim
set_option maxHeartbeats 4000000 in
theorem am_sound_cpy (hG : am_G T) (hX : am_Xok X T) (hcx : am_Cx X T p s m args meth c y) (hfr : 1 ≤ R.frames) (hlo : 32 ≤ R.locals) {k n t : Nat} (hm : pMth (tP T) (iOwn (pInf (tP T) y)) k = some 1) (hc : pCode (tP T) y pc = some (.invokestatic k, n, t))
    (h : am_cpy (am_WW X T p l e R s m args below meth c n0 z0 lim Q) pc L st M) : am_WW X T p l e R s m args below meth c n0 z0 lim Q pc L st M := by
  intro H ls locs cells slots hR hS hL hN h1 h2 h3 h4
  obtain ⟨hx, hb, hown, hts, hlk, hin, hw, hret⟩ := hcx
  obtain ⟨hd, -⟩ := hG.1 y pc _ n t hc
  obtain ⟨q1, q2, q3, q4⟩ := hG.2.2.2.2.2.1 _ _ _ hm
  have hml : c.maxLocals = ls.size := (hL.1.trans hN).symm
  unfold am_cpy at h
  split at h
  · next v dp dd sp ss st =>
    split at h
    · next b =>
      have b := Nat.le_of_ble_eq_true b
      have hlo' : ((st.map (xcv X)).map fun v => v.category).sum + (nativeFrameWords "java/lang/System" "arraycopy" 5 + 11) ≤ R.locals := by
        rw [am_cats hX.1]
        have e9 : nativeFrameWords "java/lang/System" "arraycopy" 5 = 7 := by decide
        rw [e9]
        omega
      obtain ⟨r1, r2, r3, h⟩ := h
      have hSx : ∀ (H1 : Heap) (locs1 : List Loc), H1.size = H.size → (∀ q, q ≠ xB X + dd → H1[q]? = H[q]?) → (∀ q ∈ locs1, q ∈ locs ∨ q.base = xB X + dd) → va_S (xNew X) s.heap H1 locs1 := by
        intro H1 locs1 e2 e3 hl
        refine ⟨by rw [e2]; exact hS.1, fun q g1 g2 => ?_, fun q hq => ?_⟩
        · rw [e3 q (fun z => g2 (by rw [z]; exact Nat.le_add_right _ _))]
          exact hS.2.1 q g1 g2
        · rcases hl q hq with z | z
          · exact hS.2.2 q z
          · rw [z]; exact Nat.le_add_right _ _
      rcases h with ⟨a0, a1, g0, g1, g2, g3, h⟩ | ⟨a0, a1, g0, g1, g2, g3, h⟩
      · obtain ⟨cA, hA, hc0⟩ := am_arr hR g0
        obtain ⟨cA', hA', hc1⟩ := am_arr hR g1
        cases hA.symm.trans hA'
        refine am_Wcopy (fun z : Int32 => Value.int z) .int rfl (fun _ => rfl) (fun _ _ _ => trivial) hx hb hml hown (hts _ q1) (hts _ q2) (hts _ q3) (hts _ q4) (hw.2.1 _ _ hA).1 hc0 hc1 r1 r2 r3 g2 g3 hfr hlo' hd fun H1 locs1 e1 e2 e3 hl => ?_
        refine h H1 ls locs1 cells slots (am_Rep.put hR rfl g1 (fun k' hk' j => ⟨?_, rfl, rfl⟩) e2 e3 ⟨cA, hA, ?_⟩) (hSx H1 locs1 e2 e3 hl) hL hN h1 h2 h3 h4
        · simp [am_ci, hk']
        · rw [e1]
          congr 2
          funext j
          simp [am_val, am_kd, am_ci]
      · obtain ⟨cA, hA, hc0⟩ := am_arr hR g0
        obtain ⟨cA', hA', hc1⟩ := am_arr hR g1
        cases hA.symm.trans hA'
        refine am_Wcopy (fun z : Int64 => Value.long z) .long rfl (fun _ => rfl) (fun _ _ _ => trivial) hx hb hml hown (hts _ q1) (hts _ q2) (hts _ q3) (hts _ q4) (hw.2.1 _ _ hA).1 hc0 hc1 r1 r2 r3 g2 g3 hfr hlo' hd fun H1 locs1 e1 e2 e3 hl => ?_
        refine h H1 ls locs1 cells slots (am_Rep.put hR rfl g1 (fun k' hk' j => ⟨rfl, ?_, rfl⟩) e2 e3 ⟨cA, hA, ?_⟩) (hSx H1 locs1 e2 e3 hl) hL hN h1 h2 h3 h4
        · simp [am_cl, hk']
        · rw [e1]
          congr 2
          funext j
          simp [am_val, am_kd, am_cl]
    · exact h.elim
  · exact h.elim
end
