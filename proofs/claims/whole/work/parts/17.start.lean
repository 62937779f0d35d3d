/-! The world at the law's entry. -/
def R_law : String := "IslandCallLaw"
def lw_P (b : Addr) (xs : List Int32) (args : Array Value) (s : State) : Prop := args = #[.ref b] ∧ s.IntsAt b xs ∧ xs.length ≤ 3072 ∧ (Jvm.Cond.and given_1 narrow_1).before args s = true
def lw_Q (_ : Array Value) (s : State) (o : Outcome) (t : State) : Prop := o = .returned (some (.int 1)) ∧ Framed s o t [] 600000 7302250
def lw_Z (below : List Frame) (a : Array Value) (s : State) : State → Prop := fun t => ∃ o, t.status = .running ∧ Ended t below o ∧ lw_Q a s o t
/-- the law's own end, with 1 on the stack, nothing written that was there before, its room as the claim has it -/
theorem lw_ret {p : Program} {l : Launch} {e : Env} {s : State} {m : MethodId} {below : List Frame} {meth : Method} {c : Code} {b : Nat} (hx : p.tables.exec = Jvm.exec) (hb : c.code = code) (hr : meth.sig.returnType = ret) (hlocks : meth.locks = false) {pc : Nat} {H : Heap} {ls : Array Slot} (hdg : decode code pc = .ok (.ireturn, 1)) : W p l e room_1 s m #[Value.ref b] below meth c H [] 600000 7302250 (lw_Z below #[Value.ref b] s) (F0 m pc ls [.int 1]) := by
  intro T hT X
  obtain ⟨fs, hret, hrun, hended, hW, hframe⟩ := X.leave (v := some (.int 1)) (hlocks := hlocks) (fun h => by rw [hr] at h; cases h)
  have hmeth' : T.vm.method? m = some meth := X.method'
  refine ⟨T.setFrames fs, ?_, .returned (some (.int 1)), hrun, hended, rfl, ⟨_, rfl⟩, hW, hframe⟩
  jvm_step X.here [X.here.top, hx, hb, hdg, hmeth', hr, ret, narrow_b1]
  (try refine ⟨rfl, ?_⟩); (try refine ⟨rfl, ?_⟩)
  first | (intro acts; rw [hret _ acts rfl rfl rfl]) | rw [hret _ _ rfl rfl rfl]
  exact Steps.refl _
/-- what holds at the law's entry: the machine, the code, the tables' words (any of lw_tbl by 'hts w (by decide +kernel)'), the script of L ints xs at the cell b, what the Statement gives of the start (any of its parts by flat_of_before) -/
def lw_At (p : Program) (s : State) (m : MethodId) (meth : Method) (c : Code) (b L : Nat) (xs : Nat → Int32) : Prop :=
  p.tables.exec = Jvm.exec ∧ c.code = code ∧ meth.sig.returnType = ret ∧ c.maxLocals = 4 ∧ s.vm.findClass R_law = some m.cls ∧ (∀ w ∈ lw_tbl, w.before #[Value.ref b] s = true) ∧ va_X b L xs s s.heap ∧ b < s.heap.size ∧ meth.locks = false ∧ (Jvm.Cond.and given_1 narrow_1).before #[Value.ref b] s = true
abbrev lw_fl : List Cond := flatC (Jvm.Cond.and given_1 narrow_1)
def lw_tm (i : Nat) : Term := match i with
  | 0 => .string "IslandCall$Tokens" 26
  | _ => .string "IslandCallModel" 171
def lw_el (i j : Nat) : Cond := .eq (.elem (.field (lw_tm i) "java/lang/String" "value" "[B") (.int (Int32.ofNat j))) (.int ((tb_byt.getD i []).getD j 0))
theorem lw_e0 : (List.range 119).all (fun j => decide (lw_fl[35 + j]? = some (lw_el 0 j))) = true := by decide +kernel
theorem lw_e1 : (List.range 121).all (fun j => decide (lw_fl[158 + j]? = some (lw_el 1 j))) = true := by decide +kernel
theorem lw_f0 : lw_fl[31]? = some (.exactly (lw_tm 0) "java/lang/String") := by decide +kernel
theorem lw_f1 : lw_fl[154]? = some (.exactly (lw_tm 1) "java/lang/String") := by decide +kernel
theorem lw_g0 : lw_fl[32]? = some (.eq (.field (lw_tm 0) "java/lang/String" "coder" "B") (.int 0)) := by decide +kernel
theorem lw_g1 : lw_fl[155]? = some (.eq (.field (lw_tm 1) "java/lang/String" "coder" "B") (.int 0)) := by decide +kernel
theorem lw_h0 : lw_fl[33]? = some (.arrayOf (.field (lw_tm 0) "java/lang/String" "value" "[B") .byte) := by decide +kernel
theorem lw_h1 : lw_fl[156]? = some (.arrayOf (.field (lw_tm 1) "java/lang/String" "value" "[B") .byte) := by decide +kernel
theorem lw_l0 : lw_fl[34]? = some (.eq (.length (.field (lw_tm 0) "java/lang/String" "value" "[B")) (.int (Int32.ofNat 119))) := by decide +kernel
theorem lw_l1 : lw_fl[157]? = some (.eq (.length (.field (lw_tm 1) "java/lang/String" "value" "[B")) (.int (Int32.ofNat 121))) := by decide +kernel
theorem lw_n : lw_fl[279]? = some (.not (.eq (lw_tm 0) (lw_tm 1))) := by decide +kernel
theorem lw_cs : lw_fl[4]? = some (.eq (.static "java/lang/String" "COMPACT_STRINGS" "Z") (.int 1)) := by decide +kernel
theorem lw_fm : lw_fl[5]? = some (.isRef (.static "jdk/internal/util/Preconditions" "SIOOBE_FORMATTER" "Ljava/util/function/BiFunction;")) := by decide +kernel
theorem lw_arrT {s : State} {cA comp : ClassId} {kA : Class} {ty : FieldType} (h1 : s.vm.classes[cA]? = some kA) (h2 : kA.kind = .array comp ty) : ArrOfT s cA ty := fun n z => ⟨fun k h => (by cases h), kA, h1, comp, h2⟩
def lw_xE (L : Nat) (xs : Nat → Int32) : am_E := ((L, xs), 2, fun i => tb_len.getD i 0, fun i j => (tb_byt.getD i []).getD j 0)
def lw_tys : List FieldType := [.int, .long, .byte, .boolean, .object "IslandCall$Boat", .object "IslandCall$Years", .array .long]
def lw_isac (w : Cond) : Bool := match w with
  | .arrayClass ty => decide (ty = .int) || (decide (ty = .long) || (decide (ty = .byte) || decide (ty = .boolean)))
  | _ => true
theorem lw_acs : ∀ w ∈ lw_tbl, lw_isac w = true := by
  have h : lw_tbl.all lw_isac = true := by decide +kernel
  exact fun w hw => List.all_eq_true.mp h w hw
theorem lw_strs (own k n : Nat) (h : pCst PP own k = some (.retAddr n)) : (own = 5 ∧ k = 26 ∧ n = 2) ∨ (own = 10 ∧ k = 171 ∧ n = 4) := by
  obtain ⟨h1, h2⟩ := tb_look (t := tb_ks) h
  have hall : (List.range 19).all (fun own => (tb_ks.getD own []).all fun e => match e.2 with
      | .retAddr n => (Nat.beq own 5 && Nat.beq e.1 26 && Nat.beq n 2) || (Nat.beq own 10 && Nat.beq e.1 171 && Nat.beq n 4)
      | _ => true) = true := by decide +kernel
  have h3 := List.all_eq_true.mp (List.all_eq_true.mp hall own (List.mem_range.mpr h1)) _ h2
  simp only [Bool.or_eq_true, Bool.and_eq_true] at h3
  rcases h3 with ⟨⟨a, b⟩, c⟩ | ⟨⟨a, b⟩, c⟩
  · exact Or.inl ⟨Nat.eq_of_beq_eq_true a, Nat.eq_of_beq_eq_true b, Nat.eq_of_beq_eq_true c⟩
  · exact Or.inr ⟨Nat.eq_of_beq_eq_true a, Nat.eq_of_beq_eq_true b, Nat.eq_of_beq_eq_true c⟩
theorem lw_nest : ∀ w ∈ tb_nest, Cond.methodLinkNest w.1 w.2.1 w.2.2.1 w.2.2.2 ∈ lw_tbl := List.forall_mem_cons.mpr ⟨List.mem_append_right _ (List.mem_of_getElem? (i := 29) (by decide +kernel)), List.forall_mem_cons.mpr ⟨List.mem_append_right _ (List.mem_of_getElem? (i := 53) (by decide +kernel)), List.forall_mem_cons.mpr ⟨List.mem_append_right _ (List.mem_of_getElem? (i := 155) (by decide +kernel)), List.forall_mem_cons.mpr ⟨List.mem_append_right _ (List.mem_of_getElem? (i := 345) (by decide +kernel)), fun _ h => absurd h List.not_mem_nil⟩⟩⟩⟩
set_option maxHeartbeats 4000000 in
theorem lw_world {p : Program} {s : State} {m : MethodId} {meth : Method} {c : Code} {b L : Nat} {xs : Nat → Int32} (C0 : lw_At p s m meth c b L xs) :
    ∃ X : am_X, xB X = s.heap.size ∧ xE X = lw_xE L xs ∧ xb X = b ∧ am_Xok X TT ∧ am_Wd X TT s s.heap ∧ (∃ cA comp k, xA X (.array .long) = some cA ∧ s.vm.findClass (FieldType.array .long).toString = some comp ∧ s.vm.classes[cA]? = some k ∧ k.kind = .array comp (.array .long)) := by
  obtain ⟨hx, hb, hr, hml, hown, hts, hX, hbl, hlocks, hgv⟩ := C0
  have hfl : ∀ (i : Nat) (w : Cond), lw_fl[i]? = some w → w.before #[Value.ref b] s = true := fun i w h => flat_of_before _ hgv w (List.mem_of_getElem? h)
  have hgd : ∀ w ∈ lw_good, w.before #[Value.ref b] s = true := fun w h => hts w (List.mem_filter.mp h).1
  -- classes
  have hD : ∀ k : Nat, ∃ r : ClassId × (Nat → Nat), ∀ q : vw_C, tb_cl[k]? = some q → u_Kn s q.1 q.2.1 q.2.2 r.1 r.2 := by
    intro k
    cases hk : tb_cl[k]? with
    | none => exact ⟨(0, fun _ => 0), fun q h => by cases h⟩
    | some q =>
      obtain ⟨C, F, N⟩ := q
      obtain ⟨-, -, g3, -, -, g6, -⟩ := tb_g3 k C F N hk
      obtain ⟨cC, iS, h⟩ := u_known (C := C) (T := F) (N := N) hgd g3 (hgd _ g6)
      exact ⟨(cC, iS), fun q hq => by cases hq; exact h⟩
  obtain ⟨D, hD⟩ := Classical.axiomOfChoice hD
  -- arrays
  have hprim : ∀ ty, Cond.arrayClass ty ∈ lw_good → ∃ cA k comp, s.vm.findClass ("[" ++ ty.toString) = some cA ∧ s.vm.classes[cA]? = some k ∧ k.kind = .array comp ty := fun ty h => Cond.arrayClass_spec (hgd _ h)
  obtain ⟨cI, kI, pI, i1, i2, i3⟩ := hprim .int tb_ac_int
  obtain ⟨cJ, kJ, pJ, j1, j2, j3⟩ := hprim .long tb_ac_long
  obtain ⟨cB, kB, pB, b1, b2, b3⟩ := hprim .byte tb_ac_byte
  obtain ⟨cZ, kZ, pZ, z1, z2, z3⟩ := hprim .boolean tb_ac_boolean
  have ov1 : (Cond.arrayOver (.object "IslandCall$Boat")).before #[Value.ref b] s = true := hts _ (List.mem_append_right _ (List.mem_of_getElem? (i := 204) (by decide +kernel)))
  have ov2 : (Cond.arrayOver (.object "IslandCall$Years")).before #[Value.ref b] s = true := hts _ (List.mem_append_right _ (List.mem_of_getElem? (i := 205) (by decide +kernel)))
  have ov3 : (Cond.arrayOver (.array .long)).before #[Value.ref b] s = true := hts _ (List.mem_append_right _ (List.mem_of_getElem? (i := 34) (by decide +kernel)))
  obtain ⟨p1, c1, k1, o1, -, o2, o3, o4⟩ := Cond.arrayOver_spec ov1
  obtain ⟨p2, c2, k2, u1, -, u2, u3, u4⟩ := Cond.arrayOver_spec ov2
  obtain ⟨p3, c3, k3, w1, -, w2, w3, w4⟩ := arrayOverA_spec ov3
  -- texts
  have hA : ∀ a : Nat, a < s.heap.size → ¬ (fun q => s.heap.size ≤ q) a := fun a h => Nat.not_le.mpr h
  obtain ⟨adK, adV, hS, hK⟩ := vk_Sof (args := #[Value.ref b]) (s := s) (N := 2) (tm := lw_tm) (len := tb_len) (byt := tb_byt) (A := fun q => s.heap.size ≤ q)
    (fun i hi => by rcases (show i = 0 ∨ i = 1 by omega) with rfl | rfl <;> decide)
    (fun i hi => by rcases (show i = 0 ∨ i = 1 by omega) with rfl | rfl; exact hfl _ _ lw_f0; exact hfl _ _ lw_f1)
    (fun i hi => by rcases (show i = 0 ∨ i = 1 by omega) with rfl | rfl; exact hfl _ _ lw_g0; exact hfl _ _ lw_g1)
    (fun i hi => by rcases (show i = 0 ∨ i = 1 by omega) with rfl | rfl; exact hfl _ _ lw_h0; exact hfl _ _ lw_h1)
    (fun i hi => by rcases (show i = 0 ∨ i = 1 by omega) with rfl | rfl; exact hfl _ _ lw_l0; exact hfl _ _ lw_l1)
    (fun i hi j hj => by
      rcases (show i = 0 ∨ i = 1 by omega) with rfl | rfl
      · exact hfl _ _ (of_decide_eq_true (List.all_eq_true.mp lw_e0 j (List.mem_range.mpr hj)))
      · exact hfl _ _ (of_decide_eq_true (List.all_eq_true.mp lw_e1 j (List.mem_range.mpr hj))))
    (fun i j hi hj hne => by
      rcases (show i = 0 ∨ i = 1 by omega) with rfl | rfl <;> rcases (show j = 0 ∨ j = 1 by omega) with rfl | rfl
      · exact absurd rfl hne
      · exact Or.inl (hfl _ _ lw_n)
      · exact Or.inr (hfl _ _ lw_n)
      · exact absurd rfl hne) hA
  -- statics
  have ls1 : (Cond.laysStatic "java/lang/String" "COMPACT_STRINGS" "Z").before #[Value.ref b] s = true := hts _ (List.mem_append_right _ (List.mem_of_getElem? (i := 222) (by decide +kernel)))
  have ls2 : (Cond.laysStatic "jdk/internal/util/Preconditions" "SIOOBE_FORMATTER" "Ljava/util/function/BiFunction;").before #[Value.ref b] s = true := hts _ (List.mem_append_right _ (List.mem_of_getElem? (i := 238) (by decide +kernel)))
  have hin1 : (Cond.initialized "java/lang/String").before #[Value.ref b] s = true := hts _ (List.mem_append_right _ (List.mem_of_getElem? (i := 7) (by decide +kernel)))
  have hin2 : (Cond.initialized "jdk/internal/util/Preconditions").before #[Value.ref b] s = true := hts _ (List.mem_append_right _ (List.mem_of_getElem? (i := 9) (by decide +kernel)))
  have hz1 := va_Zof ls1 hin1 (va_eqi (hfl _ _ lw_cs)) hA
  have hz2 : ∃ fv : Value, (fv = .null ∨ ∃ a, fv = .ref a) ∧ va_Z "jdk/internal/util/Preconditions" "SIOOBE_FORMATTER" "Ljava/util/function/BiFunction;" fv (fun q => s.heap.size ≤ q) s s.heap := by
    rcases va_Zqof ls2 hin2 (hfl _ _ lw_fm) hA with h | ⟨t, h⟩
    · exact ⟨_, Or.inl rfl, h⟩
    · exact ⟨_, Or.inr ⟨t, rfl⟩, h⟩
  obtain ⟨fv, hfv, hz2⟩ := hz2
  -- the names
  let aC : FieldType → Option ClassId := fun ty => if ty = .int then some cI else if ty = .long then some cJ else if ty = .byte then some cB else if ty = .boolean then some cZ else if ty = .object "IslandCall$Boat" then some c1 else if ty = .object "IslandCall$Years" then some c2 else if ty = .array .long then some c3 else none
  let tv : Nat → Value := fun n => if n = 0 then .ref b else if n = 1 then fv else if n % 2 = 0 then .ref (adK ((n - 2) / 2)) else .ref (adV ((n - 3) / 2))
  refine ⟨(s.heap.size, (fun k => (D k).1, fun k => (D k).2), aC, tv, adK, adV, b, lw_xE L xs), rfl, rfl, rfl, ?_, ?_, ?_⟩
  · refine ⟨fun n => ?_, rfl, hbl, fun i hi => ⟨?_, ?_, rfl, fun j => rfl⟩, fun ty h => ?_, fun C hC => ?_⟩
    · show tv n = .null ∨ ∃ a, tv n = .ref a
      simp only [tv]
      split
      · exact Or.inr ⟨_, rfl⟩
      · split
        · exact hfv
        · split <;> exact Or.inr ⟨_, rfl⟩
    · show tv (2 * i + 2) = .ref (adK i)
      simp only [tv]
      rw [if_neg (by omega), if_neg (by omega), if_pos (by omega), show (2 * i + 2 - 2) / 2 = i by omega]
    · show tv (2 * i + 3) = .ref (adV i)
      simp only [tv]
      rw [if_neg (by omega), if_neg (by omega), if_neg (by omega), show (2 * i + 3 - 3) / 2 = i by omega]
    · have hty : ty = .int ∨ ty = .long ∨ ty = .byte ∨ ty = .boolean := by
        have hm := (List.mem_filter.mp h).1
        have hall : ∀ w ∈ lw_tbl, lw_isac w = true := lw_acs
        have := hall _ hm
        unfold lw_isac at this
        simpa [or_assoc] using this
      rcases hty with rfl | rfl | rfl | rfl
      · exact ⟨cI, rfl⟩
      · exact ⟨cJ, rfl⟩
      · exact ⟨cB, rfl⟩
      · exact ⟨cZ, rfl⟩
    · have hC' : C = "IslandCall$Boat" ∨ C = "IslandCall$Years" := by
        rcases List.mem_cons.mp hC with h | h
        · exact Or.inl h
        · rcases List.mem_cons.mp h with h | h
          · exact Or.inr h
          · cases h
      rcases hC' with rfl | rfl
      · exact ⟨c1, by show aC (.object "IslandCall$Boat") = some c1; simp [aC]⟩
      · exact ⟨c2, by show aC (.object "IslandCall$Years") = some c2; simp [aC]⟩
  · refine ⟨fun k q hq => hD k q hq, fun ty cA h => ?_, fun own k n h => ?_, hS, hz1, hz2, hX, fun C hC => ?_, fun w hw => ?_⟩
    · have h' : aC ty = some cA := h
      simp only [aC] at h'
      split at h'
      · next e => subst e; cases h'; exact ⟨lw_arrT i2 i3, i1, fun z => by cases z⟩
      split at h'
      · next e => subst e; cases h'; exact ⟨lw_arrT j2 j3, j1, fun z => by cases z⟩
      split at h'
      · next e => subst e; cases h'; exact ⟨lw_arrT b2 b3, b1, fun z => by cases z⟩
      split at h'
      · next e => subst e; cases h'; exact ⟨lw_arrT z2 z3, z1, fun z => by cases z⟩
      split at h'
      · next e => subst e; cases h'; exact ⟨lw_arrT o2 o3, ⟨k1, p1, o2, o3, o1, o4⟩, fun z => by cases z⟩
      split at h'
      · next e => subst e; cases h'; exact ⟨lw_arrT u2 u3, ⟨k2, p2, u2, u3, u1, u4⟩, fun z => by cases z⟩
      split at h'
      · next e => subst e; cases h'; exact ⟨lw_arrT w2 w3, w4, fun _ => ⟨k3, p3, w2, w3, w1⟩⟩
      · cases h'
    · have hk := lw_strs own k n h
      rcases hk with ⟨rfl, rfl, rfl⟩ | ⟨rfl, rfl, rfl⟩
      · exact ⟨"plank habit odds sign pulls shown person holds out against blind call show hide board sway any when shows loop end stop", adK 0, vk_R.of (A := #[Value.ref b]) (hts _ (List.mem_append_right _ (List.mem_of_getElem? (i := 212) (by decide +kernel)))) (hK 0 (by omega)), rfl⟩
      · exact ⟨" plank habit odds sign person blind pulls shown holds out against call show hide board sway any when loop end stop shows ", adK 1, vk_R.of (A := #[Value.ref b]) (hts _ (List.mem_append_right _ (List.mem_of_getElem? (i := 1393) (by decide +kernel)))) (hK 1 (by omega)), rfl⟩
    · rcases List.mem_cons.mp hC with h | h
      · subst h; exact va_AO.of ov1
      · rcases List.mem_cons.mp h with h | h
        · subst h; exact va_AO.of ov2
        · cases h
    · exact va_Nw.of rfl (hts _ (lw_nest w hw))
  · exact ⟨c3, p3, k3, by show aC (.array .long) = some c3; simp [aC], w1, w2, w3⟩
