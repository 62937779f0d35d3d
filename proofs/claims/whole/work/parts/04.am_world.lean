/-! The world around the small machine (what the tables and the old heap give), the program's tables, the contract. -/
/-- base, classes' numbers and slots, array classes, what tokens stand for, texts and their bytes by place, the script's place, the world outside -/
abbrev am_X : Type := Nat × va_G × (FieldType → Option ClassId) × (Nat → Value) × (Nat → Nat) × (Nat → Nat) × Nat × am_E
abbrev xB (X : am_X) : Nat := X.1
abbrev xD (X : am_X) : va_G := X.2.1
abbrev xA (X : am_X) : FieldType → Option ClassId := X.2.2.1
abbrev xV (X : am_X) : Nat → Value := X.2.2.2.1
abbrev xK (X : am_X) : Nat → Nat := X.2.2.2.2.1
abbrev xW (X : am_X) : Nat → Nat := X.2.2.2.2.2.1
abbrev xb (X : am_X) : Nat := X.2.2.2.2.2.2.1
abbrev xE (X : am_X) : am_E := X.2.2.2.2.2.2.2
/-- the program, its classes, the words, methods' bytes and names, texts' lengths and bytes, nest links, classes of which arrays are made -/
abbrev am_T : Type := am_P × List vw_C × List Cond × (Nat → ByteArray) × (Nat → MethodName) × List Nat × List (List Int32) × List (String × Nat × MethodName × String) × List String
abbrev tP (T : am_T) : am_P := T.1
abbrev tC (T : am_T) : List vw_C := T.2.1
abbrev tW (T : am_T) : List Cond := T.2.2.1
abbrev tB (T : am_T) : Nat → ByteArray := T.2.2.2.1
abbrev tN (T : am_T) : Nat → MethodName := T.2.2.2.2.1
abbrev tL (T : am_T) : List Nat := T.2.2.2.2.2.1
abbrev tY (T : am_T) : List (List Int32) := T.2.2.2.2.2.2.1
abbrev tH (T : am_T) : List (String × Nat × MethodName × String) := T.2.2.2.2.2.2.2.1
abbrev tO (T : am_T) : List String := T.2.2.2.2.2.2.2.2
abbrev xNew (X : am_X) : Nat → Prop := fun q => xB X ≤ q
abbrev xcv (X : am_X) : Value → Value := am_cv (xB X) (xV X)
abbrev xRep (X : am_X) (T : am_T) : am_M → Heap → Prop := am_Rep (xB X) (xD X) (tC T) (xA X) (tP T)
/-- what is known of an array's class; of an array of rows its component too -/
def am_RA (U : State) (cA : ClassId) (ty : FieldType) : Prop := va_RA U cA ty ∧ (ty = .array .long → ∃ (kA : Class) (comp : ClassId), U.vm.classes[cA]? = some kA ∧ kA.kind = .array comp (.array .long) ∧ U.vm.findClass (FieldType.array .long).toString = some comp)
theorem am_RA.moved {u U : State} (hvm : u.vm.Alike U.vm) {cA : ClassId} {ty : FieldType} (h : am_RA u cA ty) : am_RA U cA ty := by
  refine ⟨h.1.moved hvm, fun z => ?_⟩
  obtain ⟨kA, comp, h1, h2, h3⟩ := h.2 z
  obtain ⟨k', hk', he⟩ := hvm.2.2 _ _ h1
  exact ⟨k', comp, hk', by rw [he]; exact h2, by rw [hvm.findClass]; exact h3⟩
def am_Wd (X : am_X) (T : am_T) (U : State) (H : Heap) : Prop :=
  (∀ (c : Nat) (q : vw_C), (tC T)[c]? = some q → u_Kn U q.1 q.2.1 q.2.2 ((xD X).1 c) ((xD X).2 c)) ∧
  (∀ (ty : FieldType) (cA : ClassId), xA X ty = some cA → ArrOfT U cA ty ∧ am_RA U cA ty) ∧
  (∀ (own k n : Nat), pCst (tP T) own k = some (.retAddr n) → ∃ tx a, vk_R (pNm (tP T) own) k tx a U ∧ xV X n = .ref a) ∧
  vk_S (xE X).2.1 (tL T) (tY T) (xK X) (xW X) (xNew X) U H ∧
  va_Z "java/lang/String" "COMPACT_STRINGS" "Z" (.int 1) (xNew X) U H ∧
  va_Z "jdk/internal/util/Preconditions" "SIOOBE_FORMATTER" "Ljava/util/function/BiFunction;" (xV X 1) (xNew X) U H ∧
  va_X (xb X) (xE X).1.1 (xE X).1.2 U H ∧
  (∀ C ∈ tO T, va_AO C U) ∧
  (∀ w ∈ tH T, va_Nw (.methodLinkNest w.1 w.2.1 w.2.2.1 w.2.2.2) U)
theorem am_Wd.mv {X : am_X} {T : am_T} {s U : State} {H : Heap} (hW : s.WarmedH U.vm) (h : am_Wd X T s H) : am_Wd X T U H := by
  obtain ⟨h1, h2, h3, h4, h5, h6, h7, h8, h9⟩ := h
  refine ⟨fun c q hq => u_Kn_moved hW.alike (h1 c q hq), fun ty cA hA => ⟨arrOfT_moved hW.alike (h2 ty cA hA).1, (h2 ty cA hA).2.moved hW.alike⟩, fun own k n hk => ?_, vk_S.moved hW.alike h4, va_Z.moved hW.alike h5, va_Z.moved hW.alike h6, ?_, fun C hC => va_AO.moved hW.alike (h8 C hC), fun w hw => va_Nw.warmM hW (h9 w hw)⟩
  · obtain ⟨tx, a, q1, q2⟩ := h3 own k n hk
    exact ⟨tx, a, vk_R.warm hW q1, q2⟩
  · obtain ⟨scr, q1, q2, q3⟩ := h7
    exact ⟨scr, q1, State.isArrayOf_alike hW.alike q2, q3⟩
theorem am_Wd.kept {X : am_X} {T : am_T} {U : State} {H H1 : Heap} (hb : xb X < xB X) (h : am_Wd X T U H) (hq : ∀ a : Nat, a < H.size → ¬ xNew X a → H1[a]? = H[a]?) : am_Wd X T U H1 := by
  obtain ⟨h1, h2, h3, h4, h5, h6, h7, h8, h9⟩ := h
  refine ⟨h1, h2, h3, h4.kept hq, h5.kept hq, h6.kept hq, ?_, h8, h9⟩
  obtain ⟨scr, q1, q3⟩ := h7
  exact ⟨scr, by rw [hq _ (Array.getElem?_eq_some_iff.mp q1).1 (Nat.not_le.mpr hb)]; exact q1, q3⟩
/-- what is so of the names, whatever the state -/
def am_Xok (X : am_X) (T : am_T) : Prop :=
  am_tvok (xV X) ∧ xV X 0 = .ref (xb X) ∧ xb X < xB X ∧ (∀ i, i < (xE X).2.1 → xV X (2 * i + 2) = .ref (xK X i) ∧ xV X (2 * i + 3) = .ref (xW X i) ∧ (xE X).2.2.1 i = (tL T).getD i 0 ∧ ∀ j, (xE X).2.2.2 i j = ((tY T).getD i []).getD j 0) ∧
  (∀ ty, Cond.arrayClass ty ∈ tW T → ∃ cA, xA X ty = some cA) ∧ (∀ C ∈ tO T, ∃ cA, xA X (.object C) = some cA)
def am_ln (i : Instr) : Option Nat := match i with
  | .tableswitch _ _ _ _ => none
  | .lookupswitch _ _ => none
  | .bipush _ => some 2
  | .sipush _ => some 3
  | .iload _ => some 2
  | .lload _ => some 2
  | .aload _ => some 2
  | .istore _ => some 2
  | .lstore _ => some 2
  | .astore _ => some 2
  | .iinc _ _ => some 3
  | .goto _ => some 3
  | .ifCond _ _ => some 3
  | .if_icmp _ _ => some 3
  | .ldc _ => some 2
  | .ldc_w _ => some 3
  | .ldc2_w _ => some 3
  | .getstatic _ => some 3
  | .getfield _ => some 3
  | .putfield _ => some 3
  | .new _ => some 3
  | .newarray _ => some 2
  | .anewarray _ => some 3
  | .multianewarray _ _ => some 4
  | .invokestatic _ => some 3
  | .invokevirtual _ => some 3
  | .invokespecial _ => some 3
  | _ => some 1
def am_tg (i : Instr) (pc t : Nat) : Prop := match i with
  | .goto off => (pc : Int) + off = (t : Int)
  | .ifCond _ off => (pc : Int) + off = (t : Int)
  | .if_icmp _ off => (pc : Int) + off = (t : Int)
  | _ => True
def am_cok (T : am_T) (own k : Nat) (v : Value) : Prop := match v with
  | .int x => Cond.constant (pNm (tP T) own) k x ∈ tW T
  | .long x => Cond.constantLong (pNm (tP T) own) k x ∈ tW T
  | .double 1 => Cond.fieldLink (pNm (tP T) own) k "java/lang/String" "COMPACT_STRINGS" "Z" ∈ tW T
  | .double 2 => Cond.fieldLink (pNm (tP T) own) k "jdk/internal/util/Preconditions" "SIOOBE_FORMATTER" "Ljava/util/function/BiFunction;" ∈ tW T
  | .float 1 => Cond.fieldLink (pNm (tP T) own) k "java/lang/String" "coder" "B" ∈ tW T
  | .float 2 => Cond.fieldLink (pNm (tP T) own) k "java/lang/String" "value" "[B" ∈ tW T
  | _ => True
/-- how a method is linked from a class: by kind -/
def am_lnk (T : am_T) (own k y : Nat) : Prop := match y with
  | 0 => Cond.methodLink (pNm (tP T) own) k objectInit ∈ tW T ∧ Cond.instanceMethod objectInit ∈ tW T ∧ Cond.code objectInit ⟨#[0xb1]⟩ 1 none ∈ tW T
  | 1 => Cond.methodLink (pNm (tP T) own) k arraycopyName ∈ tW T ∧ Cond.native arraycopyName ∈ tW T ∧ Cond.static arraycopyName ∈ tW T ∧ Cond.initialized "java/lang/System" ∈ tW T
  | 2 => Cond.methodLink (pNm (tP T) own) k Lib.Math.max.name ∈ tW T ∧ Cond.static Lib.Math.max.name ∈ tW T ∧ Cond.initialized "java/lang/Math" ∈ tW T ∧ Cond.code Lib.Math.max.name Lib.Math.max.code 2 (some .int) ∈ tW T
  | 3 => Cond.methodLink (pNm (tP T) own) k Lib.Math.min.name ∈ tW T ∧ Cond.static Lib.Math.min.name ∈ tW T ∧ Cond.initialized "java/lang/Math" ∈ tW T ∧ Cond.code Lib.Math.min.name Lib.Math.min.code 2 (some .int) ∈ tW T
  | y => (Cond.methodLink (pNm (tP T) own) k (tN T y) ∈ tW T ∨ (iKnd (pInf (tP T) y) = 2 ∧ ∃ host, (pNm (tP T) own, k, tN T y, host) ∈ tH T))
def am_mok (T : am_T) (y : Nat) : Prop :=
  Cond.code (tN T y) (tB T y) (iMax (pInf (tP T) y)) (iRet (pInf (tP T) y)) ∈ tW T ∧ Cond.initialized (tN T y).cls ∈ tW T ∧ (tN T y).cls = pNm (tP T) (iOwn (pInf (tP T) y)) ∧ iMax (pInf (tP T) y) ≤ 13 ∧ plainName (tN T y).cls = true ∧
  ((tN T y).cls ≠ "java/lang/invoke/MethodHandle" ∧ (tN T y).cls ≠ "java/lang/invoke/VarHandle" ∧ (parseMethodDescriptor (tN T y).desc).map (fun d => d.parameters.length) = some (if iKnd (pInf (tP T) y) = 0 then iArg (pInf (tP T) y) else iArg (pInf (tP T) y) - 1)) ∧
  (match iKnd (pInf (tP T) y) with
    | 0 => Cond.static (tN T y) ∈ tW T
    | 1 => 0 < iArg (pInf (tP T) y) ∧ Cond.instanceMethod (tN T y) ∈ tW T ∧ Cond.selects (tN T y).cls (tN T y) (tN T y) ∈ tW T
    | 2 => 0 < iArg (pInf (tP T) y) ∧ Cond.instanceMethod (tN T y) ∈ tW T ∧ (tN T y).name = "<init>" ∧ iRet (pInf (tP T) y) = none
    | _ => False)
/-- the program's tables are as the words have them -/
def am_G (T : am_T) : Prop :=
  (∀ y pc i n t, pCode (tP T) y pc = some (i, n, t) → decode (tB T y) pc = .ok (i, (am_ln i).getD n) ∧ am_tg i pc t) ∧
  (∀ own k f, pFld (tP T) own k = some f → ∃ (F : u_T) (N : Nat), (tC T)[f.1]? = some (pNm (tP T) f.1, F, N) ∧ f.2 < N ∧ Cond.fieldLink (pNm (tP T) own) k (F f.2).1 (F f.2).2.1 (F f.2).2.2.1 ∈ tW T ∧ pFin (tP T) f.1 f.2 = (F f.2).2.2.2 ∧ (F f.2).1 = pNm (tP T) f.1) ∧
  (∀ (ci : Nat) (C : String) (F : u_T) (N : Nat), (tC T)[ci]? = some (C, F, N) → C = pNm (tP T) ci ∧ N = pNf (tP T) ci ∧ (∀ w ∈ u_ws C F N, w ∈ tW T) ∧ (∀ k, k < N → parseFieldDescriptor (F k).2.2.1 = some (pTy (tP T) ci k)) ∧ (∀ a, a < N → ∀ b, b < N → a ≠ b → (F a).2.1 ≠ (F b).2.1) ∧ Cond.instantiable C N ∈ tW T ∧ Cond.initialized C ∈ tW T) ∧
  (∀ own k v, pCst (tP T) own k = some v → am_cok T own k v) ∧
  (∀ own k ci, pCls (tP T) own k = some ci → ∃ (F : u_T) (N : Nat), (tC T)[ci]? = some (pNm (tP T) ci, F, N) ∧ Cond.classLink (pNm (tP T) own) k (pNm (tP T) ci) ∈ tW T) ∧
  (∀ own k y, pMth (tP T) own k = some y → am_lnk T own k y) ∧
  (∀ own k y, pMth (tP T) own k = some y → 4 ≤ y → am_mok T y) ∧
  (∀ w ∈ tW T, goodWord w = true) ∧
  (∀ y pc k n t ci, pCode (tP T) y pc = some (.anewarray k, n, t) → pCls (tP T) (iOwn (pInf (tP T) y)) k = some ci → pNm (tP T) ci ∈ tO T) ∧
  (∀ y pc a n t, pCode (tP T) y pc = some (.newarray a, n, t) → Cond.arrayClass (newarray.typeOf a) ∈ tW T)
def am_rm (d : Nat) (i : am_I) : Room := { frames := d, cells := iCel i, slots := iSlt i, locals := 32 * d }
def am_Pc (X : am_X) (T : am_T) (as : List Value) (M : am_M) : Array Value → State → Prop := fun a U => a = (as.map (xcv X)).toArray ∧ xRep X T M U.heap ∧ am_Wd X T U U.heap
def am_Qc (X : am_X) (T : am_T) (y : Nat) (M : am_M) (K : am_K) : Array Value → State → Outcome → State → Prop := fun _ st o t =>
  (∃ (r : Option Value) (M' : am_M), o = .returned (r.map (xcv X)) ∧ K r M' ∧ M'.1.1.length = M.1.1.length + iCel (pInf (tP T) y) ∧ am_sz (tP T) M' = am_sz (tP T) M + iSlt (pInf (tP T) y) ∧ xRep X T M' t.heap) ∧ va_F (xNew X) st t
abbrev am_ws (T : am_T) (y : Nat) : List Cond := Cond.code (tN T y) (tB T y) (iMax (pInf (tP T) y)) (iRet (pInf (tP T) y)) :: tW T
def am_Met (X : am_X) (T : am_T) (l : Launch) (d y : Nat) (as : List Value) (M : am_M) (K : am_K) : Prop :=
  Met l (tN T y) (am_ws T y) (am_rm d (pInf (tP T) y)) (am_Pc X T as M) (am_Qc X T y M K) (iCel (pInf (tP T) y)) (iSlt (pInf (tP T) y)) (xNew X)
theorem am_blind (X : am_X) (T : am_T) (as : List Value) (M : am_M) : FrameBlind (am_Pc X T as M) := by
  intro a U g mk h
  exact ⟨h.1, h.2.1, am_Wd.mv (s := U) (U := U.calling g mk a) (State.WarmedH.refl U) h.2.2⟩
section
variable {p : Program} {l : Launch} {e : Env} {R : Room} {s : State} {m : MethodId} {args : Array Value} {below : List Frame} {meth : Method} {c : Code} {H : Heap} {locs : List Loc} {cells slots : Nat} {Q : State → Prop}
theorem am_mva {X : am_X} {A0 H1 : Heap} (hS : va_S (xNew X) A0 H locs) : ∀ a : Nat, a < A0.size → ¬ xNew X a → H[a]? = A0[a]? := hS.2.1
/-- behind a call -/
theorem am_after {X : am_X} {T : am_T} {y : Nat} {M : am_M} {K : am_K} {mc ms pc : Nat} {ls : Array Slot} {st0 rest : List Value} {a : Array Value}
    (hr : va_Run p l e R s m args below meth c H locs cells slots mc ms (F0 m pc ls st0) rest (am_Qc X T y M K a) (xNew X)) (hS : va_S (xNew X) s.heap H locs)
    (kk : ∀ (r : Option Value) (M' : am_M) (H1 : Heap) (locs1 : List Loc), K r M' → M'.1.1.length = M.1.1.length + iCel (pInf (tP T) y) → am_sz (tP T) M' = am_sz (tP T) M + iSlt (pInf (tP T) y) → xRep X T M' H1 → va_S (xNew X) s.heap H1 locs1 →
      W p l e R s m args below meth c H1 locs1 (cells + mc) (slots + ms) Q (F0 m (pc + 3) ls ((r.map (xcv X)).toList ++ rest))) : W p l e R s m args below meth c H locs cells slots Q (F0 m pc ls st0) := by
  intro T0 hT X0
  obtain ⟨v, st₀, t, T', L, h0, X', hL, e1, e2, ⟨⟨r, M', hv, hk, hn, hz0, hrep⟩, hz, ho⟩, st⟩ := hr T0 hT X0
  cases hv
  rw [h0] at hz ho
  obtain ⟨t2, a1, b1⟩ := kk r M' T'.heap (locs ++ L) hk hn hz0 (by rw [e1]; exact hrep)
    ⟨Nat.le_trans hS.1 (by rw [e1]; exact hz), fun q h1 h2 => by rw [e1, ho q (Nat.lt_of_lt_of_le h1 hS.1) h2]; exact hS.2.1 q h1 h2, fun q hq => by
      rcases List.mem_append.mp hq with h | h
      · exact hS.2.2 q h
      · exact hL q h⟩ T' rfl X'
  exact ⟨t2, st t2 a1, b1⟩
/-- System.arraycopy between two arrays of one kind of number -/
theorem am_Wcopy {cc : ByteArray} {pc : Nat} {ls : Array Slot} {rest : List Value} {α : Type} (mk : α → Value) (ty : FieldType) (hprim : refKind ty = false) (hfits : ∀ z : α, fits ty (mk z) = true) (htk : ∀ (U : State) (dc : ClassId) (z : α), U.takes dc (mk z)) (hexec : p.tables.exec = Jvm.exec) (hb : c.code = cc) (hml : c.maxLocals = ls.size) {own : String} {index : Nat} (hown : s.vm.findClass own = some m.cls) (hlink : (Cond.methodLink own index arraycopyName).before args s = true) (hnat : (Cond.native arraycopyName).before args s = true) (hstat : (Cond.static arraycopyName).before args s = true) (hini : (Cond.initialized "java/lang/System").before args s = true)
    {a0 a : Nat} {cA : ClassId} {n0 n1 : Nat} {f g : Nat → α} (hA : ArrOfT s cA ty) (hc0 : H[a0]? = some (arrV cA n0 (fun j => mk (f j)))) (hc1 : H[a]? = some (arrV cA n1 (fun j => mk (g j))))
    {sp dp n : Int32} (h1 : ¬ sp < 0) (h2 : ¬ dp < 0) (h3 : ¬ n < 0) (h4 : sp.toNatClampNeg + n.toNatClampNeg ≤ n0) (h5 : dp.toNatClampNeg + n.toNatClampNeg ≤ n1)
    (hframes : 1 ≤ R.frames) (hlocals : (rest.map fun v => v.category).sum + (nativeFrameWords "java/lang/System" "arraycopy" 5 + 11) ≤ R.locals) (hdg : decode cc pc = .ok (.invokestatic index, 3))
    (kk : ∀ (H1 : Heap) (locs1 : List Loc), H1[a]? = some (arrV cA n1 (fun j => mk (va_cpy f g sp.toNatClampNeg dp.toNatClampNeg n.toNatClampNeg j))) → H1.size = H.size → (∀ q : Nat, q ≠ a → H1[q]? = H[q]?) → (∀ q ∈ locs1, q ∈ locs ∨ q.base = a) → W p l e R s m args below meth c H1 locs1 cells slots Q (F0 m (pc + 3) ls rest)) : W p l e R s m args below meth c H locs cells slots Q (F0 m pc ls (.int n :: .int dp :: .ref a :: .int sp :: .ref a0 :: rest)) := by
  have nn : ∀ z : Int32, ¬ z < 0 → z.toInt = (z.toNatClampNeg : Int) := by
    intro z hz
    have hz0 : (0 : Int) ≤ z.toInt := by
      have := Int32.not_lt.mp hz
      simpa using Int32.le_iff_toInt_le.mp this
    show z.toInt = ((z.toInt.toNat : Nat) : Int)
    omega
  intro T hT X
  obtain ⟨-, k0, hk0, cm0, hkk0⟩ := hA n0 (fun j => mk (f j))
  obtain ⟨-, k1, hk1, cm1, hkk1⟩ := hA n1 (fun j => mk (g j))
  obtain ⟨vm', X', step⟩ := X.arraycopy hexec hown hlink hnat hstat hini (src := a0) (dst := a) (cs := arrV cA n0 (fun j => mk (f j))) (cd := arrV cA n1 (fun j => mk (g j))) (srcPos := sp) (destPos := dp) (n := n) (by rw [hT]; exact hc0) (by rw [hT]; exact hc1)
    (fun _ h => by cases h) (fun _ h => by cases h) (fun h => by cases h) (fun h => by cases h) hk0 hk1 hkk0 hkk1 (by simp [hprim]) h1 h2 h3
    (by rw [nn sp h1, nn n h3, arrV_size]; omega)
    (by rw [nn dp h2, nn n h3, arrV_size]; omega)
    (fun vm₁ _ i hi => by
      have e : (arrV cA n0 (fun j => mk (f j))).slots.getD (sp.toNatClampNeg + i) .null = mk (f (sp.toNatClampNeg + i)) := by
        rw [Array.getD_eq_getD_getElem?, arrV_read _ _ (by omega)]
        rfl
      rw [e]
      exact ⟨hfits _, htk _ _ _⟩)
    (g := F0 m pc ls (.int n :: .int dp :: .ref a :: .int sp :: .ref a0 :: rest)) rfl (by rw [hml]) (rest := rest) rfl (by rw [hb]; exact hdg) hframes (by show 2 * 0 + _ + _ ≤ _; omega)
  have e1 : copied (arrV cA n0 (fun j => mk (f j))) (arrV cA n1 (fun j => mk (g j))) sp dp n = arrV cA n1 (fun j => mk (va_cpy f g sp.toNatClampNeg dp.toNatClampNeg n.toNatClampNeg j)) := va_copied mk cA cA f g h4
  rw [e1] at X' step
  have hl : a < H.size := (Array.getElem?_eq_some_iff.mp hc1).1
  obtain ⟨t, a1, b1⟩ := kk (H.setIfInBounds a (arrV cA n1 (fun j => mk (va_cpy f g sp.toNatClampNeg dp.toNatClampNeg n.toNatClampNeg j)))) _ (by simp [Array.getElem?_setIfInBounds, hl]) (by simp) (fun q hq => by simp [Array.getElem?_setIfInBounds, Ne.symm hq]) (fun q hq => by
      rcases List.mem_append.mp hq with h | h
      · exact Or.inl h
      · obtain ⟨z, -, hz⟩ := List.mem_map.mp h
        rw [← hz]
        exact Or.inr rfl) _ (by rw [← hT]; rfl) X'
  exact ⟨t, step t a1, b1⟩
end
