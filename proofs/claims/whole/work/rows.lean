section
/-! A small machine of our own: its memory is (shapes, references) and (ints, longs), keyed by cell number; a step is a condition on what follows; a body's meaning is the least fixed point. -/
abbrev am_Shp : Type := Nat ⊕ (FieldType × Nat)
abbrev am_M : Type := (List am_Shp × (Nat → Nat → Option Nat)) × (Nat → Nat → Int32) × (Nat → Nat → Int64)
abbrev am_K : Type := Option Value → am_M → Prop
abbrev am_R : Type := Nat → List Value → List Value → am_M → Prop
abbrev am_C : Type := Nat → List Value → am_M → am_K → Prop
/-- a method: own class, locals, return type, arguments (with this), kind (0 static, 1 virtual, 2 init), cells and slots that it makes -/
abbrev am_I : Type := Nat × Nat × Option FieldType × Nat × Nat × Nat × Nat
/-- the program: code, fields, methods, constants, classes (by own class and pool index), methods' rows, field types, finals, field counts, class names -/
abbrev am_P : Type := (Nat → Nat → Option (Instr × Nat × Nat)) × (Nat → Nat → Option (Nat × Nat)) × (Nat → Nat → Option Nat) × (Nat → Nat → Option Value) × (Nat → Nat → Option Nat) × (Nat → am_I) × (Nat → Nat → FieldType) × (Nat → Nat → Bool) × (Nat → Nat) × (Nat → String)
abbrev pCode (P : am_P) : Nat → Nat → Option (Instr × Nat × Nat) := P.1
abbrev pFld (P : am_P) : Nat → Nat → Option (Nat × Nat) := P.2.1
abbrev pMth (P : am_P) : Nat → Nat → Option Nat := P.2.2.1
abbrev pCst (P : am_P) : Nat → Nat → Option Value := P.2.2.2.1
abbrev pCls (P : am_P) : Nat → Nat → Option Nat := P.2.2.2.2.1
abbrev pInf (P : am_P) : Nat → am_I := P.2.2.2.2.2.1
abbrev pTy (P : am_P) : Nat → Nat → FieldType := P.2.2.2.2.2.2.1
abbrev pFin (P : am_P) : Nat → Nat → Bool := P.2.2.2.2.2.2.2.1
abbrev pNf (P : am_P) : Nat → Nat := P.2.2.2.2.2.2.2.2.1
abbrev pNm (P : am_P) : Nat → String := P.2.2.2.2.2.2.2.2.2
abbrev iOwn (i : am_I) : Nat := i.1
abbrev iMax (i : am_I) : Nat := i.2.1
abbrev iRet (i : am_I) : Option FieldType := i.2.2.1
abbrev iArg (i : am_I) : Nat := i.2.2.2.1
abbrev iKnd (i : am_I) : Nat := i.2.2.2.2.1
abbrev iCel (i : am_I) : Nat := i.2.2.2.2.2.1
abbrev iSlt (i : am_I) : Nat := i.2.2.2.2.2.2
/-- the world outside: the script, and the texts (how many, how long, their bytes) -/
abbrev am_E : Type := (Nat × (Nat → Int32)) × Nat × (Nat → Nat) × (Nat → Nat → Int32)
def am_mk : Value := .float 0
def am_isv (v : Value) : Bool := match v with
  | .int _ => true
  | .long _ => true
  | .ref _ => true
  | .retAddr _ => true
  | _ => false
def am_kd (ty : FieldType) : Nat := match ty with
  | .long => 1
  | .object _ => 2
  | .array _ => 2
  | .float => 3
  | .double => 3
  | _ => 0
def am_ldI (L : List Value) (k : Nat) (F : Value → Prop) : Prop := match L[k]? with
  | some (.int x) => F (.int x)
  | _ => False
def am_ldL (L : List Value) (k : Nat) (F : Value → Prop) : Prop := match L[k]? with
  | some (.long x) => F (.long x)
  | _ => False
def am_ldA (L : List Value) (k : Nat) (F : Value → Prop) : Prop := match L[k]? with
  | some (.ref x) => F (.ref x)
  | some (.retAddr x) => F (.retAddr x)
  | _ => False
def am_set (L : List Value) (k : Nat) (v : Value) : List Value := match k with
  | 0 => L.set 0 v
  | j + 1 => match L[j]? with
    | some (.long _) => (L.set j am_mk).set (j + 1) v
    | _ => L.set (j + 1) v
def am_set2 (L : List Value) (k : Nat) (v : Value) : List Value := (am_set L k v).set (k + 1) am_mk
def am_stI (L : List Value) (k : Nat) (st : List Value) (F : List Value → List Value → Prop) : Prop := match Nat.blt k L.length, st with
  | true, .int x :: st => F (am_set L k (.int x)) st
  | _, _ => False
def am_stL (L : List Value) (k : Nat) (st : List Value) (F : List Value → List Value → Prop) : Prop := match Nat.blt (k + 1) L.length, st with
  | true, .long x :: st => F (am_set2 L k (.long x)) st
  | _, _ => False
def am_stA (L : List Value) (k : Nat) (st : List Value) (F : List Value → List Value → Prop) : Prop := match Nat.blt k L.length, st with
  | true, .ref x :: st => F (am_set L k (.ref x)) st
  | true, .retAddr x :: st => F (am_set L k (.retAddr x)) st
  | _, _ => False
def am_i1 (st : List Value) (F : Int32 → List Value → Prop) : Prop := match st with
  | .int x :: st => F x st
  | _ => False
def am_i2 (st : List Value) (F : Int32 → Int32 → List Value → Prop) : Prop := match st with
  | .int y :: .int x :: st => F x y st
  | _ => False
def am_l1 (st : List Value) (F : Int64 → List Value → Prop) : Prop := match st with
  | .long x :: st => F x st
  | _ => False
def am_l2 (st : List Value) (F : Int64 → Int64 → List Value → Prop) : Prop := match st with
  | .long y :: .long x :: st => F x y st
  | _ => False
def am_li (st : List Value) (F : Int64 → Int32 → List Value → Prop) : Prop := match st with
  | .int y :: .long x :: st => F x y st
  | _ => False
def am_cnd (c : Jvm.ClassFile.Cond) (x y : Int32) : Prop := match c with
  | .eq => x = y
  | .ne => ¬ x = y
  | .lt => x < y
  | .ge => y ≤ x
  | .gt => y < x
  | .le => x ≤ y
/-- what a place of a kind may hold -/
def am_fit (ty : FieldType) (x : Int32) : Prop := match ty with
  | .int => True
  | .boolean => x = 0 ∨ x = 1
  | .char => narrow .char (.int x) = .int x
  | .byte => narrow .byte (.int x) = .int x
  | _ => False
def am_ui (M : am_M) (k j : Nat) (x : Int32) : am_M := (M.1, fun a i => if a = k then (if i = j then x else M.2.1 a i) else M.2.1 a i, M.2.2)
def am_ul (M : am_M) (k j : Nat) (x : Int64) : am_M := (M.1, M.2.1, fun a i => if a = k then (if i = j then x else M.2.2 a i) else M.2.2 a i)
def am_ur (M : am_M) (k j : Nat) (x : Nat) : am_M := ((M.1.1, fun a i => if a = k then (if i = j then some x else M.1.2 a i) else M.1.2 a i), M.2)
def am_ci (M : am_M) (k : Nat) (f : Nat → Int32) : am_M := (M.1, fun a i => if a = k then f i else M.2.1 a i, M.2.2)
def am_cl (M : am_M) (k : Nat) (f : Nat → Int64) : am_M := (M.1, M.2.1, fun a i => if a = k then f i else M.2.2 a i)
def am_push (M : am_M) (q : am_Shp) : am_M := ((M.1.1 ++ [q], M.1.2), M.2)
def am_szq (P : am_P) (q : am_Shp) : Nat := match q with
  | .inl ci => pNf P ci
  | .inr (_, n) => n
def am_sz (P : am_P) (M : am_M) : Nat := (M.1.1.map (am_szq P)).sum
def am_bud (P : am_P) (lim : Nat × Nat) (a b : Nat) (M : am_M) : Prop := match a, b with
  | 0, 0 => True
  | _, _ => M.1.1.length + a ≤ lim.1 ∧ am_sz P M + b ≤ lim.2
def am_rcv (P : am_P) (E : am_E) (y : Nat) (as : List Value) (M : am_M) : Prop := match iKnd (pInf P y) with
  | 0 => True
  | 1 => match as with
    | .ref k :: _ => M.1.1[k]? = some (.inl (iOwn (pInf P y)))
    | .retAddr m :: _ => ∃ i, m = 2 * i + 2 ∧ i < E.2.1 ∧ pNm P (iOwn (pInf P y)) = "java/lang/String"
    | _ => False
  | _ => match as with
    | .ref _ :: _ => True
    | _ => False
def am_inv (P : am_P) (E : am_E) (lim : Nat × Nat) (C : am_C) (R : am_R) (y kn : Nat) (pc : Nat) (L st : List Value) (M : am_M) : Prop :=
  match Nat.ble (iArg (pInf P y)) st.length, Nat.ble ((st.drop (iArg (pInf P y))).map (fun v => v.category)).sum 8, Nat.beq kn (iKnd (pInf P y)) with
  | true, true, true => am_rcv P E y ((st.take (iArg (pInf P y))).reverse) M ∧ am_bud P lim (iCel (pInf P y)) (iSlt (pInf P y)) M ∧
      C y ((st.take (iArg (pInf P y))).reverse) M (fun r M' => R (pc + 3) L (r.toList ++ st.drop (iArg (pInf P y))) M')
  | _, _, _ => False
/-- Object.<init> -/
def am_obj (R : am_R) (pc : Nat) (L st : List Value) (M : am_M) : Prop := match st with
  | .ref _ :: st => match Nat.ble (st.map (fun v => v.category)).sum 8 with
    | true => R (pc + 3) L st M
    | false => False
  | _ => False
/-- Math.max, Math.min -/
def am_mm (R : am_R) (f : Int32 → Int32 → Int32) (pc : Nat) (L st : List Value) (M : am_M) : Prop := match st with
  | .int y :: .int x :: st => match Nat.ble (st.map (fun v => v.category)).sum 8 with
    | true => R (pc + 3) L (.int (f x y) :: st) M
    | false => False
  | _ => False
/-- System.arraycopy -/
def am_cpy (R : am_R) (pc : Nat) (L st : List Value) (M : am_M) : Prop := match st with
  | .int n :: .int dp :: .ref d :: .int sp :: .ref s :: st => match Nat.ble (st.map (fun v => v.category)).sum 8 with
    | true => ¬ sp < 0 ∧ ¬ dp < 0 ∧ ¬ n < 0 ∧ ((∃ n0 n1, M.1.1[s]? = some (.inr (.int, n0)) ∧ M.1.1[d]? = some (.inr (.int, n1)) ∧ sp.toNatClampNeg + n.toNatClampNeg ≤ n0 ∧ dp.toNatClampNeg + n.toNatClampNeg ≤ n1 ∧ R (pc + 3) L st (am_ci M d (va_cpy (M.2.1 s) (M.2.1 d) sp.toNatClampNeg dp.toNatClampNeg n.toNatClampNeg))) ∨
      (∃ n0 n1, M.1.1[s]? = some (.inr (.long, n0)) ∧ M.1.1[d]? = some (.inr (.long, n1)) ∧ sp.toNatClampNeg + n.toNatClampNeg ≤ n0 ∧ dp.toNatClampNeg + n.toNatClampNeg ≤ n1 ∧ R (pc + 3) L st (am_cl M d (va_cpy (M.2.2 s) (M.2.2 d) sp.toNatClampNeg dp.toNatClampNeg n.toNatClampNeg))))
    | false => False
  | _ => False
def am_get (P : am_P) (E : am_E) (R : am_R) (f : Nat × Nat) (pc : Nat) (L st : List Value) (M : am_M) : Prop := match st with
  | .ref k :: st => M.1.1[k]? = some (.inl f.1) ∧ (match am_kd (pTy P f.1 f.2) with
    | 0 => R (pc + 3) L (.int (M.2.1 k f.2) :: st) M
    | 1 => R (pc + 3) L (.long (M.2.2 k f.2) :: st) M
    | 2 => ∃ a, M.1.2 k f.2 = some a ∧ R (pc + 3) L (.ref a :: st) M
    | _ => False)
  | _ => False
/-- fields of a text: 0 coder, 1 value -/
def am_getS (E : am_E) (R : am_R) (j : Nat) (pc : Nat) (L st : List Value) (M : am_M) : Prop := match st with
  | .retAddr m :: st => ∃ i, m = 2 * i + 2 ∧ i < E.2.1 ∧ (match j with
    | 0 => R (pc + 3) L (.int 0 :: st) M
    | 1 => R (pc + 3) L (.retAddr (m + 1) :: st) M
    | _ => False)
  | _ => False
def am_put (P : am_P) (own kn : Nat) (R : am_R) (f : Nat × Nat) (pc : Nat) (L st : List Value) (M : am_M) : Prop :=
  match (!(pFin P f.1 f.2)) || (Nat.beq kn 2 && Nat.beq own f.1) with
  | true => (match am_kd (pTy P f.1 f.2), st with
    | 0, .int x :: .ref k :: st => M.1.1[k]? = some (.inl f.1) ∧ am_fit (pTy P f.1 f.2) x ∧ R (pc + 3) L st (am_ui M k f.2 x)
    | 1, .long x :: .ref k :: st => M.1.1[k]? = some (.inl f.1) ∧ R (pc + 3) L st (am_ul M k f.2 x)
    | 2, .ref x :: .ref k :: st => M.1.1[k]? = some (.inl f.1) ∧ R (pc + 3) L st (am_ur M k f.2 x)
    | _, _ => False)
  | false => False
def am_tsw (pc : Nat) (d lo hi : Int) (o : Array Int) (x : Int32) (t : Nat) : Prop := ((x.toInt < lo ∨ hi < x.toInt) ∧ (pc : Int) + d = (t : Int)) ∨ (¬ x.toInt < lo ∧ ¬ hi < x.toInt ∧ ∃ off, o[(x.toInt - lo).toNat]? = some off ∧ (pc : Int) + off = (t : Int))
def am_step (P : am_P) (E : am_E) (own kn : Nat) (ret : Option FieldType) (lim : Nat × Nat) (C : am_C) (K : am_K) (R : am_R) (i : Instr) (t pc : Nat) (L st : List Value) (M : am_M) : Prop := match i with
  | .iconst n => R (pc + 1) L (.int (Int32.ofInt n) :: st) M
  | .bipush n => R (pc + 2) L (.int (Int8.ofInt n).toInt32 :: st) M
  | .sipush n => R (pc + 3) L (.int (Int16.ofInt n).toInt32 :: st) M
  | .lconst n => R (pc + 1) L (.long (Int64.ofNat (n : Nat)) :: st) M
  | .iload_n k => am_ldI L k (fun v => R (pc + 1) L (v :: st) M)
  | .iload k => am_ldI L k (fun v => R (pc + 2) L (v :: st) M)
  | .lload_n k => am_ldL L k (fun v => R (pc + 1) L (v :: st) M)
  | .lload k => am_ldL L k (fun v => R (pc + 2) L (v :: st) M)
  | .aload_n k => am_ldA L k (fun v => R (pc + 1) L (v :: st) M)
  | .aload k => am_ldA L k (fun v => R (pc + 2) L (v :: st) M)
  | .istore_n k => am_stI L k st (fun L st => R (pc + 1) L st M)
  | .istore k => am_stI L k st (fun L st => R (pc + 2) L st M)
  | .lstore_n k => am_stL L k st (fun L st => R (pc + 1) L st M)
  | .lstore k => am_stL L k st (fun L st => R (pc + 2) L st M)
  | .astore_n k => am_stA L k st (fun L st => R (pc + 1) L st M)
  | .astore k => am_stA L k st (fun L st => R (pc + 2) L st M)
  | .iinc k n => (match Nat.blt k L.length, L[k]? with
    | true, some (.int x) => R (pc + 3) (am_set L k (.int (x + Int32.ofInt n))) st M
    | _, _ => False)
  | .iadd => am_i2 st (fun x y st => R (pc + 1) L (.int (x + y) :: st) M)
  | .isub => am_i2 st (fun x y st => R (pc + 1) L (.int (x - y) :: st) M)
  | .imul => am_i2 st (fun x y st => R (pc + 1) L (.int (x * y) :: st) M)
  | .iand => am_i2 st (fun x y st => R (pc + 1) L (.int (x &&& y) :: st) M)
  | .ior => am_i2 st (fun x y st => R (pc + 1) L (.int (x ||| y) :: st) M)
  | .ixor => am_i2 st (fun x y st => R (pc + 1) L (.int (x ^^^ y) :: st) M)
  | .ishl => am_i2 st (fun x y st => R (pc + 1) L (.int (x <<< (y &&& 31)) :: st) M)
  | .ishr => am_i2 st (fun x y st => R (pc + 1) L (.int (x >>> (y &&& 31)) :: st) M)
  | .iushr => am_i2 st (fun x y st => R (pc + 1) L (.int ((x.toUInt32 >>> (y.toUInt32 &&& Int32.toUInt32 31)).toInt32) :: st) M)
  | .idiv => am_i2 st (fun x y st => ¬ y = 0 ∧ R (pc + 1) L (.int (x / y) :: st) M)
  | .irem => am_i2 st (fun x y st => ¬ y = 0 ∧ R (pc + 1) L (.int (x - x / y * y) :: st) M)
  | .ladd => am_l2 st (fun x y st => R (pc + 1) L (.long (x + y) :: st) M)
  | .lsub => am_l2 st (fun x y st => R (pc + 1) L (.long (x - y) :: st) M)
  | .lmul => am_l2 st (fun x y st => R (pc + 1) L (.long (x * y) :: st) M)
  | .land => am_l2 st (fun x y st => R (pc + 1) L (.long (x &&& y) :: st) M)
  | .lor => am_l2 st (fun x y st => R (pc + 1) L (.long (x ||| y) :: st) M)
  | .ldiv => am_l2 st (fun x y st => ¬ y = 0 ∧ R (pc + 1) L (.long (x / y) :: st) M)
  | .lrem => am_l2 st (fun x y st => ¬ y = 0 ∧ R (pc + 1) L (.long (x - x / y * y) :: st) M)
  | .lshl => am_li st (fun x y st => R (pc + 1) L (.long (x <<< (y.toInt64 &&& 63)) :: st) M)
  | .lcmp => am_l2 st (fun x y st => R (pc + 1) L (.int (lg_cmp x y) :: st) M)
  | .i2l => am_i1 st (fun x st => R (pc + 1) L (.long x.toInt64 :: st) M)
  | .i2b => am_i1 st (fun x st => R (pc + 1) L (.int x.toInt8.toInt32 :: st) M)
  | .i2s => am_i1 st (fun x st => R (pc + 1) L (.int x.toInt16.toInt32 :: st) M)
  | .i2c => am_i1 st (fun x st => R (pc + 1) L (.int (x.toUInt32 % 65536).toInt32 :: st) M)
  | .l2i => am_l1 st (fun x st => R (pc + 1) L (.int x.toInt32 :: st) M)
  | .dup => (match st with
    | .int x :: st => R (pc + 1) L (.int x :: .int x :: st) M
    | .ref x :: st => R (pc + 1) L (.ref x :: .ref x :: st) M
    | _ => False)
  | .dup2 => (match st with
    | .int x :: .ref k :: st => R (pc + 1) L (.int x :: .ref k :: .int x :: .ref k :: st) M
    | .int x :: .int y :: st => R (pc + 1) L (.int x :: .int y :: .int x :: .int y :: st) M
    | _ => False)
  | .pop => (match st with
    | .int _ :: st => R (pc + 1) L st M
    | .ref _ :: st => R (pc + 1) L st M
    | _ => False)
  | .goto _ => R t L st M
  | .ifCond c _ => am_i1 st (fun x st => (am_cnd c x 0 → R t L st M) ∧ (¬ am_cnd c x 0 → R (pc + 3) L st M))
  | .if_icmp c _ => am_i2 st (fun x y st => (am_cnd c x y → R t L st M) ∧ (¬ am_cnd c x y → R (pc + 3) L st M))
  | .tableswitch d lo hi o => am_i1 st (fun x st => ∃ t' : Nat, am_tsw pc d lo hi o x t' ∧ R t' L st M)
  | .lookupswitch d ps => am_i1 st (fun x st => ∃ t' : Nat, ((ps.toList.zip (ps.toList.drop 1)).all (fun (a, next) => a.1 < next.1) = true) ∧ (pc : Int) + Op.lookupswitch.offset ps.toList d x.toInt = (t' : Int) ∧ R t' L st M)
  | .ldc k => (match pCst P own k with
    | some (.int v) => R (pc + 2) L (.int v :: st) M
    | some (.retAddr v) => R (pc + 2) L (.retAddr v :: st) M
    | _ => False)
  | .ldc_w k => (match pCst P own k with
    | some (.int v) => R (pc + 3) L (.int v :: st) M
    | _ => False)
  | .ldc2_w k => (match pCst P own k with
    | some (.long v) => R (pc + 3) L (.long v :: st) M
    | _ => False)
  | .getstatic k => (match pCst P own k with
    | some (.double 1) => R (pc + 3) L (.int 1 :: st) M
    | some (.double 2) => R (pc + 3) L (.retAddr 1 :: st) M
    | _ => False)
  | .getfield k => (match pFld P own k, pCst P own k with
    | some f, _ => am_get P E R f pc L st M
    | none, some (.float 1) => am_getS E R 0 pc L st M
    | none, some (.float 2) => am_getS E R 1 pc L st M
    | _, _ => False)
  | .putfield k => (match pFld P own k with
    | some f => am_put P own kn R f pc L st M
    | none => False)
  | .iaload => (match st with
    | .int i :: .ref k :: st => ∃ n, M.1.1[k]? = some (.inr (.int, n)) ∧ vp_in i n ∧ R (pc + 1) L (.int (M.2.1 k i.toNatClampNeg) :: st) M
    | .int i :: .retAddr 0 :: st => vp_in i E.1.1 ∧ R (pc + 1) L (.int (E.1.2 i.toNatClampNeg) :: st) M
    | _ => False)
  | .laload => (match st with
    | .int i :: .ref k :: st => ∃ n, M.1.1[k]? = some (.inr (.long, n)) ∧ vp_in i n ∧ R (pc + 1) L (.long (M.2.2 k i.toNatClampNeg) :: st) M
    | _ => False)
  | .baload => (match st with
    | .int i :: .ref k :: st => ∃ n ty, (ty = .byte ∨ ty = .boolean) ∧ M.1.1[k]? = some (.inr (ty, n)) ∧ vp_in i n ∧ R (pc + 1) L (.int (M.2.1 k i.toNatClampNeg) :: st) M
    | .int i :: .retAddr m :: st => ∃ j, m = 2 * j + 3 ∧ j < E.2.1 ∧ vp_in i (E.2.2.1 j) ∧ R (pc + 1) L (.int (E.2.2.2 j i.toNatClampNeg) :: st) M
    | _ => False)
  | .aaload => (match st with
    | .int i :: .ref k :: st => ∃ n ty a, am_kd ty = 2 ∧ M.1.1[k]? = some (.inr (ty, n)) ∧ vp_in i n ∧ M.1.2 k i.toNatClampNeg = some a ∧ R (pc + 1) L (.ref a :: st) M
    | _ => False)
  | .iastore => (match st with
    | .int x :: .int i :: .ref k :: st => ∃ n, M.1.1[k]? = some (.inr (.int, n)) ∧ vp_in i n ∧ R (pc + 1) L st (am_ui M k i.toNatClampNeg x)
    | _ => False)
  | .lastore => (match st with
    | .long x :: .int i :: .ref k :: st => ∃ n, M.1.1[k]? = some (.inr (.long, n)) ∧ vp_in i n ∧ R (pc + 1) L st (am_ul M k i.toNatClampNeg x)
    | _ => False)
  | .bastore => (match st with
    | .int x :: .int i :: .ref k :: st => ∃ n ty, (ty = .byte ∨ ty = .boolean) ∧ M.1.1[k]? = some (.inr (ty, n)) ∧ vp_in i n ∧ R (pc + 1) L st (am_ui M k i.toNatClampNeg (vp_nar ty x))
    | _ => False)
  | .aastore => (match st with
    | .ref x :: .int i :: .ref k :: st => ∃ n ci, M.1.1[k]? = some (.inr (.object (pNm P ci), n)) ∧ M.1.1[x]? = some (.inl ci) ∧ vp_in i n ∧ R (pc + 1) L st (am_ur M k i.toNatClampNeg x)
    | _ => False)
  | .arraylength => (match st with
    | .ref k :: st => ∃ n ty, M.1.1[k]? = some (.inr (ty, n)) ∧ R (pc + 1) L (.int (Int32.ofNat n) :: st) M
    | .retAddr m :: st => (m = 0 ∧ R (pc + 1) L (.int (Int32.ofNat E.1.1) :: st) M) ∨ ∃ j, m = 2 * j + 3 ∧ j < E.2.1 ∧ R (pc + 1) L (.int (Int32.ofNat (E.2.2.1 j)) :: st) M
    | _ => False)
  | .new k => (match pCls P own k with
    | some ci => M.1.1.length + 1 ≤ lim.1 ∧ am_sz P M + pNf P ci ≤ lim.2 ∧ R (pc + 3) L (.ref M.1.1.length :: st) (am_push M (.inl ci))
    | none => False)
  | .newarray a => am_i1 st (fun n st => ¬ n < 0 ∧ n.toNatClampNeg ≤ 100000 ∧ M.1.1.length + 1 ≤ lim.1 ∧ am_sz P M + n.toNatClampNeg ≤ lim.2 ∧ R (pc + 2) L (.ref M.1.1.length :: st) (am_push M (.inr (newarray.typeOf a, n.toNatClampNeg))))
  | .anewarray k => (match pCls P own k with
    | some ci => am_i1 st (fun n st => ¬ n < 0 ∧ n.toNatClampNeg ≤ 100000 ∧ M.1.1.length + 1 ≤ lim.1 ∧ am_sz P M + n.toNatClampNeg ≤ lim.2 ∧ R (pc + 3) L (.ref M.1.1.length :: st) (am_push M (.inr (.object (pNm P ci), n.toNatClampNeg))))
    | none => False)
  | .multianewarray k j => (match Nat.beq j 2, pCst P own k with
    | true, some (.double 3) => am_i2 st (fun n m st => ¬ n < 0 ∧ ¬ m < 0 ∧ n.toNatClampNeg ≤ 1000 ∧ m.toNatClampNeg ≤ 1000 ∧ M.1.1.length + (1 + n.toNatClampNeg) ≤ lim.1 ∧ am_sz P M + (n.toNatClampNeg + n.toNatClampNeg * m.toNatClampNeg) ≤ lim.2 ∧
        R (pc + 4) L (.ref M.1.1.length :: st) ((M.1.1 ++ (.inr (.array .long, n.toNatClampNeg) :: List.replicate n.toNatClampNeg (.inr (.long, m.toNatClampNeg))), fun a i => if a = M.1.1.length then (if i < n.toNatClampNeg then some (M.1.1.length + 1 + i) else none) else M.1.2 a i), M.2))
    | _, _ => False)
  | .invokestatic k => (match pMth P own k with
    | some 1 => am_cpy R pc L st M
    | some 2 => am_mm R (fun x y => if x < y then y else x) pc L st M
    | some 3 => am_mm R (fun x y => if y < x then y else x) pc L st M
    | some y => am_inv P E lim C R y 0 pc L st M
    | none => False)
  | .invokevirtual k => (match pMth P own k with
    | some y => am_inv P E lim C R y 1 pc L st M
    | none => False)
  | .invokespecial k => (match pMth P own k with
    | some 0 => am_obj R pc L st M
    | some y => am_inv P E lim C R y 2 pc L st M
    | none => False)
  | .ireturn => (match ret, st with
    | some ty, [.int x] => am_fit ty x ∧ K (some (.int x)) M
    | _, _ => False)
  | .lreturn => (match ret, st with
    | some .long, [.long x] => K (some (.long x)) M
    | _, _ => False)
  | .return_ => (match ret, st with
    | none, [] => K none M
    | _, _ => False)
  | _ => False
/-- a body's meaning: the least fixed point of the steps -/
def am_wp (P : am_P) (E : am_E) (y : Nat) (lim : Nat × Nat) (C : am_C) (K : am_K) : am_R := fun pc L st M =>
  ∀ R : am_R, (∀ pc L st M i n t, pCode P y pc = some (i, n, t) → am_step P E (iOwn (pInf P y)) (iKnd (pInf P y)) (iRet (pInf P y)) lim C K R i t pc L st M → R pc L st M) → R pc L st M
def am_sl : List Value → List Value
  | [] => []
  | .long x :: t => .long x :: am_mk :: am_sl t
  | v :: t => v :: am_sl t
def am_ent (n : Nat) (as : List Value) : List Value := am_sl as ++ List.replicate (n - (am_sl as).length) am_mk
def am_call (P : am_P) (E : am_E) : Nat → am_C
  | 0, _, _, _, _ => False
  | d + 1, y, as, M, K => (am_sl as).length ≤ iMax (pInf P y) ∧ as.length = iArg (pInf P y) ∧ as.all am_isv = true ∧
      am_wp P E y (M.1.1.length + iCel (pInf P y), am_sz P M + iSlt (pInf P y)) (am_call P E d) (fun r M' => M'.1.1.length = M.1.1.length + iCel (pInf P y) ∧ am_sz P M' = am_sz P M + iSlt (pInf P y) ∧ K r M') 0 (am_ent (iMax (pInf P y)) as) [] M
end
section
def am_mC (C : am_C) : Prop := ∀ (y : Nat) (as : List Value) (M : am_M) (K K' : am_K), (∀ r M', K r M' → K' r M') → C y as M K → C y as M K'
section
variable {P : am_P} {E : am_E} {own kn : Nat} {ret : Option FieldType} {lim : Nat × Nat} {C : am_C} {K K' : am_K} {R R' : am_R}
theorem am_ldI_mono {L : List Value} {k : Nat} {F F' : Value → Prop} (h : ∀ v, F v → F' v) : am_ldI L k F → am_ldI L k F' := by
  unfold am_ldI; split
  · exact h _
  · exact id
theorem am_ldL_mono {L : List Value} {k : Nat} {F F' : Value → Prop} (h : ∀ v, F v → F' v) : am_ldL L k F → am_ldL L k F' := by
  unfold am_ldL; split
  · exact h _
  · exact id
theorem am_ldA_mono {L : List Value} {k : Nat} {F F' : Value → Prop} (h : ∀ v, F v → F' v) : am_ldA L k F → am_ldA L k F' := by
  unfold am_ldA; split
  · exact h _
  · exact h _
  · exact id
theorem am_stI_mono {L st : List Value} {k : Nat} {F F' : List Value → List Value → Prop} (h : ∀ a b, F a b → F' a b) : am_stI L k st F → am_stI L k st F' := by
  unfold am_stI; split
  · exact h _ _
  · exact id
theorem am_stL_mono {L st : List Value} {k : Nat} {F F' : List Value → List Value → Prop} (h : ∀ a b, F a b → F' a b) : am_stL L k st F → am_stL L k st F' := by
  unfold am_stL; split
  · exact h _ _
  · exact id
theorem am_stA_mono {L st : List Value} {k : Nat} {F F' : List Value → List Value → Prop} (h : ∀ a b, F a b → F' a b) : am_stA L k st F → am_stA L k st F' := by
  unfold am_stA; split
  · exact h _ _
  · exact h _ _
  · exact id
theorem am_i1_mono {st : List Value} {F F' : Int32 → List Value → Prop} (h : ∀ a b, F a b → F' a b) : am_i1 st F → am_i1 st F' := by
  unfold am_i1; split
  · exact h _ _
  · exact id
theorem am_i2_mono {st : List Value} {F F' : Int32 → Int32 → List Value → Prop} (h : ∀ a b c, F a b c → F' a b c) : am_i2 st F → am_i2 st F' := by
  unfold am_i2; split
  · exact h _ _ _
  · exact id
theorem am_l1_mono {st : List Value} {F F' : Int64 → List Value → Prop} (h : ∀ a b, F a b → F' a b) : am_l1 st F → am_l1 st F' := by
  unfold am_l1; split
  · exact h _ _
  · exact id
theorem am_l2_mono {st : List Value} {F F' : Int64 → Int64 → List Value → Prop} (h : ∀ a b c, F a b c → F' a b c) : am_l2 st F → am_l2 st F' := by
  unfold am_l2; split
  · exact h _ _ _
  · exact id
theorem am_li_mono {st : List Value} {F F' : Int64 → Int32 → List Value → Prop} (h : ∀ a b c, F a b c → F' a b c) : am_li st F → am_li st F' := by
  unfold am_li; split
  · exact h _ _ _
  · exact id
theorem am_inv_mono (hC : am_mC C) (hR : ∀ pc L st M, R pc L st M → R' pc L st M) {y kn pc : Nat} {L st : List Value} {M : am_M} : am_inv P E lim C R y kn pc L st M → am_inv P E lim C R' y kn pc L st M := by
  unfold am_inv; split
  · rintro ⟨h1, h2, h3⟩
    exact ⟨h1, h2, hC _ _ _ _ _ (fun r M' h => hR _ _ _ _ h) h3⟩
  · exact id
theorem am_obj_mono (hR : ∀ pc L st M, R pc L st M → R' pc L st M) {pc : Nat} {L st : List Value} {M : am_M} : am_obj R pc L st M → am_obj R' pc L st M := by
  unfold am_obj; split
  · split
    · exact hR _ _ _ _
    · exact id
  · exact id
theorem am_cpy_mono (hR : ∀ pc L st M, R pc L st M → R' pc L st M) {pc : Nat} {L st : List Value} {M : am_M} : am_cpy R pc L st M → am_cpy R' pc L st M := by
  unfold am_cpy; split
  · split
    · rintro ⟨h1, h2, h3, h4⟩
      refine ⟨h1, h2, h3, ?_⟩
      rcases h4 with ⟨n0, n1, a, b, c, d, e⟩ | ⟨n0, n1, a, b, c, d, e⟩
      · exact Or.inl ⟨n0, n1, a, b, c, d, hR _ _ _ _ e⟩
      · exact Or.inr ⟨n0, n1, a, b, c, d, hR _ _ _ _ e⟩
    · exact id
  · exact id
theorem am_mm_mono (hR : ∀ pc L st M, R pc L st M → R' pc L st M) {f : Int32 → Int32 → Int32} {pc : Nat} {L st : List Value} {M : am_M} : am_mm R f pc L st M → am_mm R' f pc L st M := by
  unfold am_mm; split
  · split
    · exact hR _ _ _ _
    · exact id
  · exact id
theorem am_get_mono (hR : ∀ pc L st M, R pc L st M → R' pc L st M) {f : Nat × Nat} {pc : Nat} {L st : List Value} {M : am_M} : am_get P E R f pc L st M → am_get P E R' f pc L st M := by
  unfold am_get; split
  · rintro ⟨h1, h2⟩
    refine ⟨h1, ?_⟩
    revert h2
    split
    · exact hR _ _ _ _
    · exact hR _ _ _ _
    · rintro ⟨a, h, h3⟩; exact ⟨a, h, hR _ _ _ _ h3⟩
    · exact id
  · exact id
theorem am_getS_mono (hR : ∀ pc L st M, R pc L st M → R' pc L st M) {j pc : Nat} {L st : List Value} {M : am_M} : am_getS E R j pc L st M → am_getS E R' j pc L st M := by
  unfold am_getS; split
  · rintro ⟨i, h1, h2, h3⟩
    refine ⟨i, h1, h2, ?_⟩
    revert h3
    split
    · exact hR _ _ _ _
    · exact hR _ _ _ _
    · exact id
  · exact id
theorem am_put_mono (hR : ∀ pc L st M, R pc L st M → R' pc L st M) {f : Nat × Nat} {pc : Nat} {L st : List Value} {M : am_M} : am_put P own kn R f pc L st M → am_put P own kn R' f pc L st M := by
  unfold am_put; split
  · split
    · rintro ⟨h1, h2, h3⟩; exact ⟨h1, h2, hR _ _ _ _ h3⟩
    · rintro ⟨h1, h3⟩; exact ⟨h1, hR _ _ _ _ h3⟩
    · rintro ⟨h1, h3⟩; exact ⟨h1, hR _ _ _ _ h3⟩
    · exact id
  · exact id
theorem am_step_mono (hC : am_mC C) (hK : ∀ r M, K r M → K' r M) (hR : ∀ pc L st M, R pc L st M → R' pc L st M) {i : Instr} {t pc : Nat} {L st : List Value} {M : am_M} :
    am_step P E own kn ret lim C K R i t pc L st M → am_step P E own kn ret lim C K' R' i t pc L st M := by
  unfold am_step
  split
  case _ => exact hR _ _ _ _
  case _ => exact hR _ _ _ _
  case _ => exact hR _ _ _ _
  case _ => exact hR _ _ _ _
  case _ => exact am_ldI_mono fun _ => hR _ _ _ _
  case _ => exact am_ldI_mono fun _ => hR _ _ _ _
  case _ => exact am_ldL_mono fun _ => hR _ _ _ _
  case _ => exact am_ldL_mono fun _ => hR _ _ _ _
  case _ => exact am_ldA_mono fun _ => hR _ _ _ _
  case _ => exact am_ldA_mono fun _ => hR _ _ _ _
  case _ => exact am_stI_mono fun _ _ => hR _ _ _ _
  case _ => exact am_stI_mono fun _ _ => hR _ _ _ _
  case _ => exact am_stL_mono fun _ _ => hR _ _ _ _
  case _ => exact am_stL_mono fun _ _ => hR _ _ _ _
  case _ => exact am_stA_mono fun _ _ => hR _ _ _ _
  case _ => exact am_stA_mono fun _ _ => hR _ _ _ _
  all_goals first
    | exact am_i2_mono fun _ _ _ => hR _ _ _ _
    | exact am_i2_mono fun _ _ _ h => ⟨h.1, hR _ _ _ _ h.2⟩
    | exact am_l2_mono fun _ _ _ => hR _ _ _ _
    | exact am_l2_mono fun _ _ _ h => ⟨h.1, hR _ _ _ _ h.2⟩
    | exact am_li_mono fun _ _ _ => hR _ _ _ _
    | exact am_i1_mono fun _ _ => hR _ _ _ _
    | exact am_l1_mono fun _ _ => hR _ _ _ _
    | exact hR _ _ _ _
    | exact am_i1_mono fun _ _ h => ⟨fun c => hR _ _ _ _ (h.1 c), fun c => hR _ _ _ _ (h.2 c)⟩
    | exact am_i2_mono fun _ _ _ h => ⟨fun c => hR _ _ _ _ (h.1 c), fun c => hR _ _ _ _ (h.2 c)⟩
    | exact am_i1_mono fun _ _ ⟨t', h1, h2⟩ => ⟨t', h1, hR _ _ _ _ h2⟩
    | exact am_i1_mono fun _ _ ⟨t', h1, h2, h3⟩ => ⟨t', h1, h2, hR _ _ _ _ h3⟩
    | exact am_i1_mono fun _ _ ⟨h1, h2, h3, h4, h5⟩ => ⟨h1, h2, h3, h4, hR _ _ _ _ h5⟩
    | (split <;> first | exact hR _ _ _ _ | exact id)
    | (split <;> first
        | exact am_get_mono hR
        | exact am_getS_mono hR
        | exact am_put_mono hR
        | exact am_cpy_mono hR
        | exact am_mm_mono hR
        | exact am_obj_mono hR
        | exact am_inv_mono hC hR
        | exact id)
    | (split <;> first
        | (rintro ⟨n, h1, h2, h3⟩; exact ⟨n, h1, h2, hR _ _ _ _ h3⟩)
        | (rintro ⟨h1, h2⟩; exact ⟨h1, hR _ _ _ _ h2⟩)
        | (rintro ⟨h1, h2, h3⟩; exact ⟨h1, h2, hR _ _ _ _ h3⟩)
        | (rintro ⟨n, ty, h1, h2⟩; exact ⟨n, ty, h1, hR _ _ _ _ h2⟩)
        | (rintro ⟨n, ty, h1, h2, h3, h4⟩; exact ⟨n, ty, h1, h2, h3, hR _ _ _ _ h4⟩)
        | (rintro ⟨n, ty, a, h1, h2, h3, h4, h5⟩; exact ⟨n, ty, a, h1, h2, h3, h4, hR _ _ _ _ h5⟩)
        | (rintro ⟨j, h1, h2, h3, h4⟩; exact ⟨j, h1, h2, h3, hR _ _ _ _ h4⟩)
        | (rintro (⟨h1, h2⟩ | ⟨j, h1, h2, h3⟩); exact Or.inl ⟨h1, hR _ _ _ _ h2⟩; exact Or.inr ⟨j, h1, h2, hR _ _ _ _ h3⟩)
        | exact am_i1_mono fun _ _ ⟨h1, h2, h3, h4, h5⟩ => ⟨h1, h2, h3, h4, hR _ _ _ _ h5⟩
        | exact am_i2_mono fun _ _ _ ⟨h1, h2, h3, h4, h5, h6, h7⟩ => ⟨h1, h2, h3, h4, h5, h6, hR _ _ _ _ h7⟩
        | exact id)
    | (split <;> first
        | exact hK _ _
        | (rintro ⟨h1, h2⟩; exact ⟨h1, hK _ _ h2⟩)
        | exact id)
    | exact id
/-- one step back -/
theorem am_wp_step {y : Nat} (hC : am_mC C) {pc : Nat} {L st : List Value} {M : am_M} {i : Instr} {n t : Nat} (hc : pCode P y pc = some (i, n, t))
    (h : am_step P E (iOwn (pInf P y)) (iKnd (pInf P y)) (iRet (pInf P y)) lim C K (am_wp P E y lim C K) i t pc L st M) : am_wp P E y lim C K pc L st M := by
  intro R hR
  exact hR _ _ _ _ _ _ _ hc (am_step_mono hC (fun _ _ h => h) (fun pc L st M h => h R hR) h)
theorem am_wp_mono {y : Nat} (hC : am_mC C) (hK : ∀ r M, K r M → K' r M) {pc : Nat} {L st : List Value} {M : am_M} (h : am_wp P E y lim C K pc L st M) : am_wp P E y lim C K' pc L st M := by
  intro R hR
  exact h R fun pc L st M i n t hc hs => hR _ _ _ _ _ _ _ hc (am_step_mono hC hK (fun _ _ _ _ h => h) hs)
theorem am_call_mono : ∀ d : Nat, am_mC (am_call P E d)
  | 0 => fun _ _ _ _ _ _ h => h
  | d + 1 => fun y as M K K' hK h => ⟨h.1, h.2.1, h.2.2.1, am_wp_mono (am_call_mono d) (fun r M' h => ⟨h.1, h.2.1, hK _ _ h.2.2⟩) h.2.2.2⟩
end
end
section
/-! What the small machine's memory is on the heap. -/
def am_cv (base : Nat) (tv : Nat → Value) (v : Value) : Value := match v with
  | .ref k => .ref (base + k)
  | .retAddr n => tv n
  | v => v
def am_val (base : Nat) (ty : FieldType) (M : am_M) (k j : Nat) : Value := match am_kd ty with
  | 0 => .int (M.2.1 k j)
  | 1 => .long (M.2.2 k j)
  | _ => match M.1.2 k j with
    | some a => .ref (base + a)
    | none => .null
def am_at (base : Nat) (D : va_G) (cl : List vw_C) (aC : FieldType → Option ClassId) (P : am_P) (M : am_M) (H : Heap) (k : Nat) (q : am_Shp) : Prop := match q with
  | .inl ci => ∃ r : vw_C, cl[ci]? = some r ∧ t_OB (base + k) (D.1 ci) r.2.2 (D.2 ci) H (fun j => am_val base (pTy P ci j) M k j)
  | .inr (ty, n) => ∃ cA, aC ty = some cA ∧ H[base + k]? = some (arrV cA n (fun j => am_val base ty M k j))
def am_Rep (base : Nat) (D : va_G) (cl : List vw_C) (aC : FieldType → Option ClassId) (P : am_P) (M : am_M) (H : Heap) : Prop :=
  H.size = base + M.1.1.length ∧ (∀ (k : Nat) (q : am_Shp), M.1.1[k]? = some q → am_at base D cl aC P M H k q) ∧ ∀ k, M.1.1.length ≤ k → ∀ j, M.2.1 k j = 0 ∧ M.2.2 k j = 0 ∧ M.1.2 k j = none
theorem am_val_congr {base : Nat} {ty : FieldType} {M M' : am_M} {k j : Nat} (h1 : M'.2.1 k j = M.2.1 k j) (h2 : M'.2.2 k j = M.2.2 k j) (h3 : M'.1.2 k j = M.1.2 k j) : am_val base ty M' k j = am_val base ty M k j := by
  unfold am_val; rw [h1, h2, h3]
theorem am_at_congr {base : Nat} {D : va_G} {cl : List vw_C} {aC : FieldType → Option ClassId} {P : am_P} {M M' : am_M} {H H' : Heap} {k : Nat} {q : am_Shp} (h : am_at base D cl aC P M H k q) (hH : H'[base + k]? = H[base + k]?) (hv : ∀ j, M'.2.1 k j = M.2.1 k j ∧ M'.2.2 k j = M.2.2 k j ∧ M'.1.2 k j = M.1.2 k j) : am_at base D cl aC P M' H' k q := by
  have e : ∀ (ty : FieldType) (j : Nat), am_val base ty M' k j = am_val base ty M k j := fun ty j => am_val_congr (hv j).1 (hv j).2.1 (hv j).2.2
  cases q with
  | inl ci =>
    obtain ⟨r, h1, h2⟩ := h
    exact ⟨r, h1, (h2.kept hH).to fun j _ => (e _ j).symm⟩
  | inr a =>
    obtain ⟨ty, n⟩ := a
    obtain ⟨cA, h1, h2⟩ := h
    refine ⟨cA, h1, ?_⟩
    rw [hH, h2]
    congr 2
    funext j
    exact (e ty j).symm
/-- one cell is written -/
theorem am_Rep.put {base : Nat} {D : va_G} {cl : List vw_C} {aC : FieldType → Option ClassId} {P : am_P} {M M' : am_M} {H H' : Heap} {k0 : Nat} {q0 : am_Shp} (h : am_Rep base D cl aC P M H) (hs : M'.1.1 = M.1.1) (hq : M.1.1[k0]? = some q0)
    (hv : ∀ k, k ≠ k0 → ∀ j, M'.2.1 k j = M.2.1 k j ∧ M'.2.2 k j = M.2.2 k j ∧ M'.1.2 k j = M.1.2 k j) (hz : H'.size = H.size) (ho : ∀ q, q ≠ base + k0 → H'[q]? = H[q]?) (ha : am_at base D cl aC P M' H' k0 q0) : am_Rep base D cl aC P M' H' := by
  obtain ⟨h1, h2, h3⟩ := h
  refine ⟨by rw [hz, h1, hs], fun k q hk => ?_, fun k hk j => ?_⟩
  · rw [hs] at hk
    by_cases e : k = k0
    · subst e
      cases hq.symm.trans hk
      exact ha
    · exact am_at_congr (h2 k q hk) (ho _ (by omega)) (hv k e)
  · rw [hs] at hk
    have hlt : k0 < M.1.1.length := (List.getElem?_eq_some_iff.mp hq).1
    have e : k ≠ k0 := by omega
    obtain ⟨a, b, c⟩ := hv k e j
    obtain ⟨a', b', c'⟩ := h3 k hk j
    exact ⟨a.trans a', b.trans b', c.trans c'⟩
/-- one cell is made -/
theorem am_Rep.new {base : Nat} {D : va_G} {cl : List vw_C} {aC : FieldType → Option ClassId} {P : am_P} {M : am_M} {H H' : Heap} {q0 : am_Shp} (h : am_Rep base D cl aC P M H) (hz : H'.size = H.size + 1) (ho : ∀ q, q < H.size → H'[q]? = H[q]?) (ha : am_at base D cl aC P M H' M.1.1.length q0) : am_Rep base D cl aC P (am_push M q0) H' := by
  obtain ⟨h1, h2, h3⟩ := h
  refine ⟨by simp [am_push, hz, h1]; omega, fun k q hk => ?_, fun k hk j => ?_⟩
  · have hk' : (M.1.1 ++ [q0])[k]? = some q := hk
    by_cases e : k < M.1.1.length
    · rw [List.getElem?_append_left e] at hk'
      exact am_at_congr (h2 k q hk') (ho _ (by omega)) (fun j => ⟨rfl, rfl, rfl⟩)
    · have hl : k < (M.1.1 ++ [q0]).length := (List.getElem?_eq_some_iff.mp hk').1
      simp at hl
      have e2 : k = M.1.1.length := by omega
      subst e2
      simp at hk'
      subst hk'
      exact am_at_congr ha rfl (fun j => ⟨rfl, rfl, rfl⟩)
  · have hk' : (M.1.1 ++ [q0]).length ≤ k := hk
    simp at hk'
    exact h3 k (by omega) j
theorem am_sz_push (P : am_P) (M : am_M) (q : am_Shp) : am_sz P (am_push M q) = am_sz P M + am_szq P q := by
  simp [am_sz, am_push]
/-! locals -/
def am_LH (base : Nat) (tv : Nat → Value) (ls : Array Slot) (L : List Value) : Prop := ls.size = L.length ∧ lv_wf ls ∧ ∀ (i : Nat) (v : Value), L[i]? = some v → am_isv v = true → ls[i]? = some (.val (am_cv base tv v))
def am_tvok (tv : Nat → Value) : Prop := ∀ n, tv n = .null ∨ ∃ a, tv n = .ref a
theorem am_cat1 {base : Nat} {tv : Nat → Value} (ht : am_tvok tv) {v : Value} (hv : am_isv v = true) (hl : ∀ x, v ≠ .long x) : (am_cv base tv v).category = 1 := by
  cases v with
  | int x => rfl
  | long x => exact absurd rfl (hl x)
  | ref x => rfl
  | retAddr n =>
    show (tv n).category = 1
    rcases ht n with h | ⟨a, h⟩ <;> rw [h] <;> rfl
  | _ => cases hv
def am_prs (base : Nat) (tv : Nat → Value) (L : List Value) : List (Nat × Value) := (List.range L.length).filterMap fun i => match L[i]? with
  | some v => if am_isv v = true then some (i, am_cv base tv v) else none
  | none => none
theorem am_prs_mem {base : Nat} {tv : Nat → Value} {L : List Value} {i : Nat} {v : Value} (h : L[i]? = some v) (hv : am_isv v = true) : (i, am_cv base tv v) ∈ am_prs base tv L := by
  refine List.mem_filterMap.mpr ⟨i, List.mem_range.mpr (List.getElem?_eq_some_iff.mp h).1, ?_⟩
  simp [h, hv]
theorem am_LH.has {base : Nat} {tv : Nat → Value} {ls : Array Slot} {L : List Value} (h : am_LH base tv ls L) : lv_has ls L.length (am_prs base tv L) := by
  refine ⟨h.1, h.2.1, fun q hq => ?_⟩
  obtain ⟨i, -, hi⟩ := List.mem_filterMap.mp hq
  split at hi
  · next v hv =>
    split at hi
    · next hs => cases hi; exact h.2.2 i v hv hs
    · cases hi
  · cases hi
theorem am_LH.set {base : Nat} {tv : Nat → Value} {ls' : Array Slot} {L : List Value} {k : Nat} {v : Value} (ht : am_tvok tv) (hv : am_isv v = true)
    (h : lv_has ls' L.length ((k, am_cv base tv v) :: (am_prs base tv L).filter (fun q => !(q.1 == k) && !(q.1 + 1 == k && q.2.category == 2)))) : am_LH base tv ls' (am_set L k v) := by
  have hlen : (am_set L k v).length = L.length := by
    unfold am_set; split
    · simp
    · split <;> simp
  refine ⟨by rw [hlen]; exact h.1, h.2.1, fun i u hi hu => ?_⟩
  have head : ls'[k]? = some (.val (am_cv base tv v)) := h.2.2 (k, am_cv base tv v) List.mem_cons_self
  have rest : L[i]? = some u → i ≠ k → ¬ (i + 1 = k ∧ (am_cv base tv u).category = 2) → ls'[i]? = some (.val (am_cv base tv u)) := fun h1 h2 h3 => by
    refine h.2.2 (i, am_cv base tv u) (List.mem_cons_of_mem _ (List.mem_filter.mpr ⟨am_prs_mem h1 hu, ?_⟩))
    simp only [Bool.and_eq_true, Bool.not_eq_true', beq_eq_false_iff_ne]
    refine ⟨h2, ?_⟩
    by_cases e : i + 1 = k
    · have : ¬ (am_cv base tv u).category = 2 := fun z => h3 ⟨e, z⟩
      simp [e, this]
    · simp [e]
  unfold am_set at hi
  split at hi
  · by_cases e : i = 0
    · subst e
      rw [List.getElem?_set] at hi
      simp at hi
      obtain ⟨-, rfl⟩ := hi
      exact head
    · rw [List.getElem?_set_ne (by omega)] at hi
      exact rest hi (by omega) (by omega)
  · next j =>
    split at hi
    · by_cases e : i = j + 1
      · subst e
        rw [List.getElem?_set] at hi
        simp at hi
        obtain ⟨-, rfl⟩ := hi
        exact head
      · rw [List.getElem?_set_ne (by omega)] at hi
        by_cases e2 : i = j
        · subst e2
          rw [List.getElem?_set] at hi
          simp at hi
          obtain ⟨-, rfl⟩ := hi
          cases hu
        · rw [List.getElem?_set_ne (by omega)] at hi
          exact rest hi e (by omega)
    · next hno =>
      by_cases e : i = j + 1
      · subst e
        rw [List.getElem?_set] at hi
        simp at hi
        obtain ⟨-, rfl⟩ := hi
        exact head
      · rw [List.getElem?_set_ne (by omega)] at hi
        refine rest hi e fun ⟨z, z2⟩ => ?_
        have e2 : i = j := by omega
        subst e2
        have hl : ∀ x, u ≠ .long x := fun x hx => hno x (by rw [hi, hx])
        have := am_cat1 (base := base) ht hu hl
        omega
theorem am_LH.set2 {base : Nat} {tv : Nat → Value} {ls' : Array Slot} {L : List Value} {k : Nat} {v : Value} (ht : am_tvok tv) (hv : am_isv v = true)
    (h : lv_has ls' L.length ((k, am_cv base tv v) :: (am_prs base tv L).filter (fun q => !(q.1 == k) && (!(q.1 == k + 1) && !(q.1 + 1 == k && q.2.category == 2))))) : am_LH base tv ls' (am_set2 L k v) := by
  have hlen : (am_set L k v).length = L.length := by
    unfold am_set; split
    · simp
    · split <;> simp
  refine ⟨by simp [am_set2, hlen]; exact h.1, h.2.1, fun i u hi hu => ?_⟩
  have head : ls'[k]? = some (.val (am_cv base tv v)) := h.2.2 (k, am_cv base tv v) List.mem_cons_self
  have rest : L[i]? = some u → i ≠ k → i ≠ k + 1 → ¬ (i + 1 = k ∧ (am_cv base tv u).category = 2) → ls'[i]? = some (.val (am_cv base tv u)) := fun h1 h2 h4 h3 => by
    refine h.2.2 (i, am_cv base tv u) (List.mem_cons_of_mem _ (List.mem_filter.mpr ⟨am_prs_mem h1 hu, ?_⟩))
    simp only [Bool.and_eq_true, Bool.not_eq_true', beq_eq_false_iff_ne]
    refine ⟨h2, h4, ?_⟩
    by_cases e : i + 1 = k
    · have : ¬ (am_cv base tv u).category = 2 := fun z => h3 ⟨e, z⟩
      simp [e, this]
    · simp [e]
  unfold am_set2 at hi
  by_cases ek : i = k + 1
  · subst ek
    rw [List.getElem?_set] at hi
    simp at hi
    obtain ⟨-, rfl⟩ := hi
    cases hu
  rw [List.getElem?_set_ne (by omega)] at hi
  unfold am_set at hi
  split at hi
  · by_cases e : i = 0
    · subst e
      rw [List.getElem?_set] at hi
      simp at hi
      obtain ⟨-, rfl⟩ := hi
      exact head
    · rw [List.getElem?_set_ne (by omega)] at hi
      exact rest hi (by omega) ek (by omega)
  · next j =>
    split at hi
    · by_cases e : i = j + 1
      · subst e
        rw [List.getElem?_set] at hi
        simp at hi
        obtain ⟨-, rfl⟩ := hi
        exact head
      · rw [List.getElem?_set_ne (by omega)] at hi
        by_cases e2 : i = j
        · subst e2
          rw [List.getElem?_set] at hi
          simp at hi
          obtain ⟨-, rfl⟩ := hi
          cases hu
        · rw [List.getElem?_set_ne (by omega)] at hi
          exact rest hi e ek (by omega)
    · next hno =>
      by_cases e : i = j + 1
      · subst e
        rw [List.getElem?_set] at hi
        simp at hi
        obtain ⟨-, rfl⟩ := hi
        exact head
      · rw [List.getElem?_set_ne (by omega)] at hi
        refine rest hi e ek fun ⟨z, z2⟩ => ?_
        have e2 : i = j := by omega
        subst e2
        have hl : ∀ x, u ≠ .long x := fun x hx => hno x (by rw [hi, hx])
        have := am_cat1 (base := base) ht hu hl
        omega
theorem am_sl_lg {base : Nat} {tv : Nat → Value} (ht : am_tvok tv) : ∀ as : List Value, as.all am_isv = true → (am_sl as).length = (lg_sl (as.map (am_cv base tv))).length ∧ ∀ (i : Nat) (v : Value), (am_sl as)[i]? = some v → am_isv v = true → (lg_sl (as.map (am_cv base tv)))[i]? = some (.val (am_cv base tv v))
  | [], _ => ⟨rfl, fun i v h => by simp [am_sl] at h⟩
  | a :: as, h => by
    simp only [List.all_cons, Bool.and_eq_true] at h
    obtain ⟨ha, hs⟩ := h
    obtain ⟨i1, i2⟩ := am_sl_lg (base := base) ht as hs
    have hcons : lg_sl ((a :: as).map (am_cv base tv)) = (if (am_cv base tv a).category = 2 then [.val (am_cv base tv a), .second] else [.val (am_cv base tv a)]) ++ lg_sl (as.map (am_cv base tv)) := by simp [lg_sl]
    by_cases hl : ∃ x, a = .long x
    · obtain ⟨x, rfl⟩ := hl
      have e1 : (am_cv base tv (.long x)).category = 2 := rfl
      rw [hcons, if_pos e1]
      have e2 : am_sl (.long x :: as) = .long x :: am_mk :: am_sl as := rfl
      rw [e2]
      refine ⟨by simp [i1], fun i v hi hv => ?_⟩
      match i, hi with
      | 0, hi => simp at hi; subst hi; rfl
      | 1, hi => simp at hi; subst hi; cases hv
      | i + 2, hi =>
        simp at hi
        simp
        exact i2 i v hi hv
    · have hl' : ∀ x, a ≠ .long x := fun x e => hl ⟨x, e⟩
      have e1 := am_cat1 (base := base) ht ha hl'
      rw [hcons, if_neg (by omega)]
      have e2 : am_sl (a :: as) = a :: am_sl as := by
        cases a <;> first | rfl | exact absurd rfl (hl' _)
      rw [e2]
      refine ⟨by simp [i1], fun i v hi hv => ?_⟩
      match i, hi with
      | 0, hi => simp at hi; subst hi; rfl
      | i + 1, hi =>
        simp at hi
        simp
        exact i2 i v hi hv
theorem am_LH.ent {base : Nat} {tv : Nat → Value} (ht : am_tvok tv) {as : List Value} {n : Nat} (h : as.all am_isv = true) (hn : (am_sl as).length ≤ n) : am_LH base tv ((lg_sl (as.map (am_cv base tv)) ++ List.replicate (n - (lg_sl (as.map (am_cv base tv))).length) Slot.unset).toArray) (am_ent n as) := by
  obtain ⟨i1, i2⟩ := am_sl_lg (base := base) ht as h
  have he := lv_entry (as.map (am_cv base tv)) (n := n) (by rw [← i1]; exact hn)
  refine ⟨?_, he.2.1, fun i v hi hv => ?_⟩
  · rw [he.1]
    simp [am_ent]; omega
  · unfold am_ent at hi
    by_cases e : i < (am_sl as).length
    · rw [List.getElem?_append_left e] at hi
      rw [List.getElem?_toArray, List.getElem?_append_left (by rw [← i1]; exact e)]
      exact i2 i v hi hv
    · rw [List.getElem?_append_right (by omega)] at hi
      have := List.mem_replicate.mp (List.mem_of_getElem? hi)
      rw [this.2] at hv
      cases hv
end
section
/-! The world around the small machine (what the tables and the old heap give), the program's tables, the contract. -/
/-- base, classes' numbers and slots, array classes, what tokens stand for, texts and their bytes by place, the script's place, the world outside -/
abbrev am_X : Type := Nat × va_G × (FieldType → Option ClassId) × (Nat → Value) × (Nat → Nat) × (Nat → Nat) × Nat × am_E
abbrev xB (X : am_X) : Nat := X.1
abbrev xD (X : am_X) : va_G := X.2.1
abbrev xA (X : am_X) : FieldType → Option ClassId := X.2.2.1
abbrev xV (X : am_X) : Nat → Value := X.2.2.2.1
abbrev xK (X : am_X) : Nat → Nat := X.2.2.2.2.1
abbrev xW (X : am_X) : Nat → Nat := X.2.2.2.2.2.1
abbrev xb (X : am_X) : Nat := X.2.2.2.2.2.2.1
abbrev xE (X : am_X) : am_E := X.2.2.2.2.2.2.2
/-- the program, its classes, the words, methods' bytes and names, texts' lengths and bytes, nest links, classes of which arrays are made -/
abbrev am_T : Type := am_P × List vw_C × List Cond × (Nat → ByteArray) × (Nat → MethodName) × List Nat × List (List Int32) × List (String × Nat × MethodName × String) × List String
abbrev tP (T : am_T) : am_P := T.1
abbrev tC (T : am_T) : List vw_C := T.2.1
abbrev tW (T : am_T) : List Cond := T.2.2.1
abbrev tB (T : am_T) : Nat → ByteArray := T.2.2.2.1
abbrev tN (T : am_T) : Nat → MethodName := T.2.2.2.2.1
abbrev tL (T : am_T) : List Nat := T.2.2.2.2.2.1
abbrev tY (T : am_T) : List (List Int32) := T.2.2.2.2.2.2.1
abbrev tH (T : am_T) : List (String × Nat × MethodName × String) := T.2.2.2.2.2.2.2.1
abbrev tO (T : am_T) : List String := T.2.2.2.2.2.2.2.2
abbrev xNew (X : am_X) : Nat → Prop := fun q => xB X ≤ q
abbrev xcv (X : am_X) : Value → Value := am_cv (xB X) (xV X)
abbrev xRep (X : am_X) (T : am_T) : am_M → Heap → Prop := am_Rep (xB X) (xD X) (tC T) (xA X) (tP T)
def am_Wd (X : am_X) (T : am_T) (U : State) (H : Heap) : Prop :=
  (∀ (c : Nat) (q : vw_C), (tC T)[c]? = some q → u_Kn U q.1 q.2.1 q.2.2 ((xD X).1 c) ((xD X).2 c)) ∧
  (∀ (ty : FieldType) (cA : ClassId), xA X ty = some cA → ArrOfT U cA ty ∧ va_RA U cA ty) ∧
  (∀ (own k n : Nat), pCst (tP T) own k = some (.retAddr n) → ∃ tx a, vk_R (pNm (tP T) own) k tx a U ∧ xV X n = .ref a) ∧
  vk_S (xE X).2.1 (tL T) (tY T) (xK X) (xW X) (xNew X) U H ∧
  va_Z "java/lang/String" "COMPACT_STRINGS" "Z" (.int 1) (xNew X) U H ∧
  va_Z "jdk/internal/util/Preconditions" "SIOOBE_FORMATTER" "Ljava/util/function/BiFunction;" (xV X 1) (xNew X) U H ∧
  va_X (xb X) (xE X).1.1 (xE X).1.2 U H ∧
  (∀ C ∈ tO T, va_AO C U) ∧
  (∀ w ∈ tH T, va_Nw (.methodLinkNest w.1 w.2.1 w.2.2.1 w.2.2.2) U)
theorem am_Wd.mv {X : am_X} {T : am_T} {s U : State} {H : Heap} (hW : s.WarmedH U.vm) (h : am_Wd X T s H) : am_Wd X T U H := by
  obtain ⟨h1, h2, h3, h4, h5, h6, h7, h8, h9⟩ := h
  refine ⟨fun c q hq => u_Kn_moved hW.alike (h1 c q hq), fun ty cA hA => ⟨arrOfT_moved hW.alike (h2 ty cA hA).1, (h2 ty cA hA).2.moved hW.alike⟩, fun own k n hk => ?_, vk_S.moved hW.alike h4, va_Z.moved hW.alike h5, va_Z.moved hW.alike h6, ?_, fun C hC => va_AO.moved hW.alike (h8 C hC), fun w hw => va_Nw.warmM hW (h9 w hw)⟩
  · obtain ⟨tx, a, q1, q2⟩ := h3 own k n hk
    exact ⟨tx, a, vk_R.warm hW q1, q2⟩
  · obtain ⟨scr, q1, q2, q3⟩ := h7
    exact ⟨scr, q1, State.isArrayOf_alike hW.alike q2, q3⟩
theorem am_Wd.kept {X : am_X} {T : am_T} {U : State} {H H1 : Heap} (hb : xb X < xB X) (h : am_Wd X T U H) (hq : ∀ a : Nat, a < H.size → ¬ xNew X a → H1[a]? = H[a]?) : am_Wd X T U H1 := by
  obtain ⟨h1, h2, h3, h4, h5, h6, h7, h8, h9⟩ := h
  refine ⟨h1, h2, h3, h4.kept hq, h5.kept hq, h6.kept hq, ?_, h8, h9⟩
  obtain ⟨scr, q1, q3⟩ := h7
  exact ⟨scr, by rw [hq _ (Array.getElem?_eq_some_iff.mp q1).1 (Nat.not_le.mpr hb)]; exact q1, q3⟩
/-- what is so of the names, whatever the state -/
def am_Xok (X : am_X) (T : am_T) : Prop :=
  am_tvok (xV X) ∧ xV X 0 = .ref (xb X) ∧ xb X < xB X ∧ (∀ i, i < (xE X).2.1 → xV X (2 * i + 2) = .ref (xK X i) ∧ xV X (2 * i + 3) = .ref (xW X i) ∧ (xE X).2.2.1 i = (tL T).getD i 0 ∧ ∀ j, (xE X).2.2.2 i j = ((tY T).getD i []).getD j 0) ∧
  (∀ ty, Cond.arrayClass ty ∈ tW T → ∃ cA, xA X ty = some cA) ∧ (∀ C ∈ tO T, ∃ cA, xA X (.object C) = some cA)
def am_ln (i : Instr) : Option Nat := match i with
  | .tableswitch _ _ _ _ => none
  | .lookupswitch _ _ => none
  | .bipush _ => some 2
  | .sipush _ => some 3
  | .iload _ => some 2
  | .lload _ => some 2
  | .aload _ => some 2
  | .istore _ => some 2
  | .lstore _ => some 2
  | .astore _ => some 2
  | .iinc _ _ => some 3
  | .goto _ => some 3
  | .ifCond _ _ => some 3
  | .if_icmp _ _ => some 3
  | .ldc _ => some 2
  | .ldc_w _ => some 3
  | .ldc2_w _ => some 3
  | .getstatic _ => some 3
  | .getfield _ => some 3
  | .putfield _ => some 3
  | .new _ => some 3
  | .newarray _ => some 2
  | .anewarray _ => some 3
  | .multianewarray _ _ => some 4
  | .invokestatic _ => some 3
  | .invokevirtual _ => some 3
  | .invokespecial _ => some 3
  | _ => some 1
def am_tg (i : Instr) (pc t : Nat) : Prop := match i with
  | .goto off => (pc : Int) + off = (t : Int)
  | .ifCond _ off => (pc : Int) + off = (t : Int)
  | .if_icmp _ off => (pc : Int) + off = (t : Int)
  | _ => True
def am_cok (T : am_T) (own k : Nat) (v : Value) : Prop := match v with
  | .int x => Cond.constant (pNm (tP T) own) k x ∈ tW T
  | .long x => Cond.constantLong (pNm (tP T) own) k x ∈ tW T
  | .double 1 => Cond.fieldLink (pNm (tP T) own) k "java/lang/String" "COMPACT_STRINGS" "Z" ∈ tW T
  | .double 2 => Cond.fieldLink (pNm (tP T) own) k "jdk/internal/util/Preconditions" "SIOOBE_FORMATTER" "Ljava/util/function/BiFunction;" ∈ tW T
  | .float 1 => Cond.fieldLink (pNm (tP T) own) k "java/lang/String" "coder" "B" ∈ tW T
  | .float 2 => Cond.fieldLink (pNm (tP T) own) k "java/lang/String" "value" "[B" ∈ tW T
  | _ => True
/-- how a method is linked from a class: by kind -/
def am_lnk (T : am_T) (own k y : Nat) : Prop := match y with
  | 0 => Cond.methodLink (pNm (tP T) own) k objectInit ∈ tW T ∧ Cond.instanceMethod objectInit ∈ tW T ∧ Cond.code objectInit ⟨#[0xb1]⟩ 1 none ∈ tW T
  | 1 => Cond.methodLink (pNm (tP T) own) k arraycopyName ∈ tW T ∧ Cond.native arraycopyName ∈ tW T ∧ Cond.static arraycopyName ∈ tW T ∧ Cond.initialized "java/lang/System" ∈ tW T
  | 2 => Cond.methodLink (pNm (tP T) own) k Lib.Math.max.name ∈ tW T ∧ Cond.static Lib.Math.max.name ∈ tW T ∧ Cond.initialized "java/lang/Math" ∈ tW T ∧ Cond.code Lib.Math.max.name Lib.Math.max.code 2 (some .int) ∈ tW T
  | 3 => Cond.methodLink (pNm (tP T) own) k Lib.Math.min.name ∈ tW T ∧ Cond.static Lib.Math.min.name ∈ tW T ∧ Cond.initialized "java/lang/Math" ∈ tW T ∧ Cond.code Lib.Math.min.name Lib.Math.min.code 2 (some .int) ∈ tW T
  | y => (Cond.methodLink (pNm (tP T) own) k (tN T y) ∈ tW T ∨ (iKnd (pInf (tP T) y) = 2 ∧ ∃ host, (pNm (tP T) own, k, tN T y, host) ∈ tH T))
def am_mok (T : am_T) (y : Nat) : Prop :=
  Cond.code (tN T y) (tB T y) (iMax (pInf (tP T) y)) (iRet (pInf (tP T) y)) ∈ tW T ∧ Cond.initialized (tN T y).cls ∈ tW T ∧ (tN T y).cls = pNm (tP T) (iOwn (pInf (tP T) y)) ∧ iMax (pInf (tP T) y) ≤ 13 ∧ plainName (tN T y).cls = true ∧
  ((tN T y).cls ≠ "java/lang/invoke/MethodHandle" ∧ (tN T y).cls ≠ "java/lang/invoke/VarHandle" ∧ (parseMethodDescriptor (tN T y).desc).map (fun d => d.parameters.length) = some (if iKnd (pInf (tP T) y) = 0 then iArg (pInf (tP T) y) else iArg (pInf (tP T) y) - 1)) ∧
  (match iKnd (pInf (tP T) y) with
    | 0 => Cond.static (tN T y) ∈ tW T
    | 1 => 0 < iArg (pInf (tP T) y) ∧ Cond.instanceMethod (tN T y) ∈ tW T ∧ Cond.selects (tN T y).cls (tN T y) (tN T y) ∈ tW T
    | 2 => 0 < iArg (pInf (tP T) y) ∧ Cond.instanceMethod (tN T y) ∈ tW T ∧ (tN T y).name = "<init>" ∧ iRet (pInf (tP T) y) = none
    | _ => False)
/-- the program's tables are as the words have them -/
def am_G (T : am_T) : Prop :=
  (∀ y pc i n t, pCode (tP T) y pc = some (i, n, t) → decode (tB T y) pc = .ok (i, (am_ln i).getD n) ∧ am_tg i pc t) ∧
  (∀ own k f, pFld (tP T) own k = some f → ∃ (F : u_T) (N : Nat), (tC T)[f.1]? = some (pNm (tP T) f.1, F, N) ∧ f.2 < N ∧ Cond.fieldLink (pNm (tP T) own) k (F f.2).1 (F f.2).2.1 (F f.2).2.2.1 ∈ tW T ∧ pFin (tP T) f.1 f.2 = (F f.2).2.2.2 ∧ (F f.2).1 = pNm (tP T) f.1) ∧
  (∀ (ci : Nat) (C : String) (F : u_T) (N : Nat), (tC T)[ci]? = some (C, F, N) → C = pNm (tP T) ci ∧ N = pNf (tP T) ci ∧ (∀ w ∈ u_ws C F N, w ∈ tW T) ∧ (∀ k, k < N → parseFieldDescriptor (F k).2.2.1 = some (pTy (tP T) ci k)) ∧ (∀ a, a < N → ∀ b, b < N → a ≠ b → (F a).2.1 ≠ (F b).2.1) ∧ Cond.instantiable C N ∈ tW T ∧ Cond.initialized C ∈ tW T) ∧
  (∀ own k v, pCst (tP T) own k = some v → am_cok T own k v) ∧
  (∀ own k ci, pCls (tP T) own k = some ci → ∃ (F : u_T) (N : Nat), (tC T)[ci]? = some (pNm (tP T) ci, F, N) ∧ Cond.classLink (pNm (tP T) own) k (pNm (tP T) ci) ∈ tW T) ∧
  (∀ own k y, pMth (tP T) own k = some y → am_lnk T own k y) ∧
  (∀ own k y, pMth (tP T) own k = some y → 4 ≤ y → am_mok T y) ∧
  (∀ w ∈ tW T, goodWord w = true) ∧
  (∀ y pc k n t ci, pCode (tP T) y pc = some (.anewarray k, n, t) → pCls (tP T) (iOwn (pInf (tP T) y)) k = some ci → pNm (tP T) ci ∈ tO T) ∧
  (∀ y pc a n t, pCode (tP T) y pc = some (.newarray a, n, t) → Cond.arrayClass (newarray.typeOf a) ∈ tW T)
def am_rm (d : Nat) (i : am_I) : Room := { frames := d, cells := iCel i, slots := iSlt i, locals := 32 * d }
def am_Pc (X : am_X) (T : am_T) (as : List Value) (M : am_M) : Array Value → State → Prop := fun a U => a = (as.map (xcv X)).toArray ∧ xRep X T M U.heap ∧ am_Wd X T U U.heap
def am_Qc (X : am_X) (T : am_T) (y : Nat) (M : am_M) (K : am_K) : Array Value → State → Outcome → State → Prop := fun _ st o t =>
  (∃ (r : Option Value) (M' : am_M), o = .returned (r.map (xcv X)) ∧ K r M' ∧ M'.1.1.length = M.1.1.length + iCel (pInf (tP T) y) ∧ am_sz (tP T) M' = am_sz (tP T) M + iSlt (pInf (tP T) y) ∧ xRep X T M' t.heap) ∧ va_F (xNew X) st t
abbrev am_ws (T : am_T) (y : Nat) : List Cond := Cond.code (tN T y) (tB T y) (iMax (pInf (tP T) y)) (iRet (pInf (tP T) y)) :: tW T
def am_Met (X : am_X) (T : am_T) (l : Launch) (d y : Nat) (as : List Value) (M : am_M) (K : am_K) : Prop :=
  Met l (tN T y) (am_ws T y) (am_rm d (pInf (tP T) y)) (am_Pc X T as M) (am_Qc X T y M K) (iCel (pInf (tP T) y)) (iSlt (pInf (tP T) y)) (xNew X)
theorem am_blind (X : am_X) (T : am_T) (as : List Value) (M : am_M) : FrameBlind (am_Pc X T as M) := by
  intro a U g mk h
  exact ⟨h.1, h.2.1, am_Wd.mv (s := U) (U := U.calling g mk a) (State.WarmedH.refl U) h.2.2⟩
section
variable {p : Program} {l : Launch} {e : Env} {R : Room} {s : State} {m : MethodId} {args : Array Value} {below : List Frame} {meth : Method} {c : Code} {H : Heap} {locs : List Loc} {cells slots : Nat} {Q : State → Prop}
theorem am_mva {X : am_X} {A0 H1 : Heap} (hS : va_S (xNew X) A0 H locs) : ∀ a : Nat, a < A0.size → ¬ xNew X a → H[a]? = A0[a]? := hS.2.1
/-- behind a call -/
theorem am_after {X : am_X} {T : am_T} {y : Nat} {M : am_M} {K : am_K} {mc ms pc : Nat} {ls : Array Slot} {st0 rest : List Value} {a : Array Value}
    (hr : va_Run p l e R s m args below meth c H locs cells slots mc ms (F0 m pc ls st0) rest (am_Qc X T y M K a) (xNew X)) (hS : va_S (xNew X) s.heap H locs)
    (kk : ∀ (r : Option Value) (M' : am_M) (H1 : Heap) (locs1 : List Loc), K r M' → M'.1.1.length = M.1.1.length + iCel (pInf (tP T) y) → am_sz (tP T) M' = am_sz (tP T) M + iSlt (pInf (tP T) y) → xRep X T M' H1 → va_S (xNew X) s.heap H1 locs1 →
      W p l e R s m args below meth c H1 locs1 (cells + mc) (slots + ms) Q (F0 m (pc + 3) ls ((r.map (xcv X)).toList ++ rest))) : W p l e R s m args below meth c H locs cells slots Q (F0 m pc ls st0) := by
  intro T0 hT X0
  obtain ⟨v, st₀, t, T', L, h0, X', hL, e1, e2, ⟨⟨r, M', hv, hk, hn, hz0, hrep⟩, hz, ho⟩, st⟩ := hr T0 hT X0
  cases hv
  rw [h0] at hz ho
  obtain ⟨t2, a1, b1⟩ := kk r M' T'.heap (locs ++ L) hk hn hz0 (by rw [e1]; exact hrep)
    ⟨Nat.le_trans hS.1 (by rw [e1]; exact hz), fun q h1 h2 => by rw [e1, ho q (Nat.lt_of_lt_of_le h1 hS.1) h2]; exact hS.2.1 q h1 h2, fun q hq => by
      rcases List.mem_append.mp hq with h | h
      · exact hS.2.2 q h
      · exact hL q h⟩ T' rfl X'
  exact ⟨t2, st t2 a1, b1⟩
/-- System.arraycopy between two arrays of one kind of number -/
theorem am_Wcopy {cc : ByteArray} {pc : Nat} {ls : Array Slot} {rest : List Value} {α : Type} (mk : α → Value) (ty : FieldType) (hprim : refKind ty = false) (hfits : ∀ z : α, fits ty (mk z) = true) (htk : ∀ (U : State) (dc : ClassId) (z : α), U.takes dc (mk z)) (hexec : p.tables.exec = Jvm.exec) (hb : c.code = cc) (hml : c.maxLocals = ls.size) {own : String} {index : Nat} (hown : s.vm.findClass own = some m.cls) (hlink : (Cond.methodLink own index arraycopyName).before args s = true) (hnat : (Cond.native arraycopyName).before args s = true) (hstat : (Cond.static arraycopyName).before args s = true) (hini : (Cond.initialized "java/lang/System").before args s = true)
    {a0 a : Nat} {cA : ClassId} {n0 n1 : Nat} {f g : Nat → α} (hA : ArrOfT s cA ty) (hc0 : H[a0]? = some (arrV cA n0 (fun j => mk (f j)))) (hc1 : H[a]? = some (arrV cA n1 (fun j => mk (g j))))
    {sp dp n : Int32} (h1 : ¬ sp < 0) (h2 : ¬ dp < 0) (h3 : ¬ n < 0) (h4 : sp.toNatClampNeg + n.toNatClampNeg ≤ n0) (h5 : dp.toNatClampNeg + n.toNatClampNeg ≤ n1)
    (hframes : 1 ≤ R.frames) (hlocals : (rest.map fun v => v.category).sum + (nativeFrameWords "java/lang/System" "arraycopy" 5 + 11) ≤ R.locals) (hdg : decode cc pc = .ok (.invokestatic index, 3))
    (kk : ∀ (H1 : Heap) (locs1 : List Loc), H1[a]? = some (arrV cA n1 (fun j => mk (va_cpy f g sp.toNatClampNeg dp.toNatClampNeg n.toNatClampNeg j))) → H1.size = H.size → (∀ q : Nat, q ≠ a → H1[q]? = H[q]?) → (∀ q ∈ locs1, q ∈ locs ∨ q.base = a) → W p l e R s m args below meth c H1 locs1 cells slots Q (F0 m (pc + 3) ls rest)) : W p l e R s m args below meth c H locs cells slots Q (F0 m pc ls (.int n :: .int dp :: .ref a :: .int sp :: .ref a0 :: rest)) := by
  have nn : ∀ z : Int32, ¬ z < 0 → z.toInt = (z.toNatClampNeg : Int) := by
    intro z hz
    have hz0 : (0 : Int) ≤ z.toInt := by
      have := Int32.not_lt.mp hz
      simpa using Int32.le_iff_toInt_le.mp this
    show z.toInt = ((z.toInt.toNat : Nat) : Int)
    omega
  intro T hT X
  obtain ⟨-, k0, hk0, cm0, hkk0⟩ := hA n0 (fun j => mk (f j))
  obtain ⟨-, k1, hk1, cm1, hkk1⟩ := hA n1 (fun j => mk (g j))
  obtain ⟨vm', X', step⟩ := X.arraycopy hexec hown hlink hnat hstat hini (src := a0) (dst := a) (cs := arrV cA n0 (fun j => mk (f j))) (cd := arrV cA n1 (fun j => mk (g j))) (srcPos := sp) (destPos := dp) (n := n) (by rw [hT]; exact hc0) (by rw [hT]; exact hc1)
    (fun _ h => by cases h) (fun _ h => by cases h) (fun h => by cases h) (fun h => by cases h) hk0 hk1 hkk0 hkk1 (by simp [hprim]) h1 h2 h3
    (by rw [nn sp h1, nn n h3, arrV_size]; omega)
    (by rw [nn dp h2, nn n h3, arrV_size]; omega)
    (fun vm₁ _ i hi => by
      have e : (arrV cA n0 (fun j => mk (f j))).slots.getD (sp.toNatClampNeg + i) .null = mk (f (sp.toNatClampNeg + i)) := by
        rw [Array.getD_eq_getD_getElem?, arrV_read _ _ (by omega)]
        rfl
      rw [e]
      exact ⟨hfits _, htk _ _ _⟩)
    (g := F0 m pc ls (.int n :: .int dp :: .ref a :: .int sp :: .ref a0 :: rest)) rfl (by rw [hml]) (rest := rest) rfl (by rw [hb]; exact hdg) hframes (by show 2 * 0 + _ + _ ≤ _; omega)
  have e1 : copied (arrV cA n0 (fun j => mk (f j))) (arrV cA n1 (fun j => mk (g j))) sp dp n = arrV cA n1 (fun j => mk (va_cpy f g sp.toNatClampNeg dp.toNatClampNeg n.toNatClampNeg j)) := va_copied mk cA cA f g h4
  rw [e1] at X' step
  have hl : a < H.size := (Array.getElem?_eq_some_iff.mp hc1).1
  obtain ⟨t, a1, b1⟩ := kk (H.setIfInBounds a (arrV cA n1 (fun j => mk (va_cpy f g sp.toNatClampNeg dp.toNatClampNeg n.toNatClampNeg j)))) _ (by simp [Array.getElem?_setIfInBounds, hl]) (by simp) (fun q hq => by simp [Array.getElem?_setIfInBounds, Ne.symm hq]) (fun q hq => by
      rcases List.mem_append.mp hq with h | h
      · exact Or.inl h
      · obtain ⟨z, -, hz⟩ := List.mem_map.mp h
        rw [← hz]
        exact Or.inr rfl) _ (by rw [← hT]; rfl) X'
  exact ⟨t, step t a1, b1⟩
end
end
section
/-! Each step of the small machine is a step of the machine. -/
theorem am_ldI_inv {L : List Value} {k : Nat} {F : Value → Prop} (h : am_ldI L k F) : ∃ x, L[k]? = some (.int x) ∧ F (.int x) := by
  unfold am_ldI at h; split at h
  · next x hx => exact ⟨x, hx, h⟩
  · exact h.elim
theorem am_ldL_inv {L : List Value} {k : Nat} {F : Value → Prop} (h : am_ldL L k F) : ∃ x, L[k]? = some (.long x) ∧ F (.long x) := by
  unfold am_ldL at h; split at h
  · next x hx => exact ⟨x, hx, h⟩
  · exact h.elim
theorem am_ldA_inv {L : List Value} {k : Nat} {F : Value → Prop} (h : am_ldA L k F) : (∃ x, L[k]? = some (.ref x) ∧ F (.ref x)) ∨ ∃ x, L[k]? = some (.retAddr x) ∧ F (.retAddr x) := by
  unfold am_ldA at h; split at h
  · next x hx => exact Or.inl ⟨x, hx, h⟩
  · next x hx => exact Or.inr ⟨x, hx, h⟩
  · exact h.elim
theorem am_stI_inv {L st : List Value} {k : Nat} {F : List Value → List Value → Prop} (h : am_stI L k st F) : ∃ x st', k < L.length ∧ st = .int x :: st' ∧ F (am_set L k (.int x)) st' := by
  unfold am_stI at h; split at h
  · next x st' hb => exact ⟨x, st', by simpa [Nat.blt_eq] using hb, rfl, h⟩
  · exact h.elim
theorem am_stL_inv {L st : List Value} {k : Nat} {F : List Value → List Value → Prop} (h : am_stL L k st F) : ∃ x st', k + 1 < L.length ∧ st = .long x :: st' ∧ F (am_set2 L k (.long x)) st' := by
  unfold am_stL at h; split at h
  · next x st' hb => exact ⟨x, st', by simpa [Nat.blt_eq] using hb, rfl, h⟩
  · exact h.elim
theorem am_stA_inv {L st : List Value} {k : Nat} {F : List Value → List Value → Prop} (h : am_stA L k st F) : ∃ v st', k < L.length ∧ st = v :: st' ∧ ((∃ x, v = .ref x) ∨ ∃ x, v = .retAddr x) ∧ F (am_set L k v) st' := by
  unfold am_stA at h; split at h
  · next x st' hb => exact ⟨_, st', by simpa [Nat.blt_eq] using hb, rfl, Or.inl ⟨x, rfl⟩, h⟩
  · next x st' hb => exact ⟨_, st', by simpa [Nat.blt_eq] using hb, rfl, Or.inr ⟨x, rfl⟩, h⟩
  · exact h.elim
theorem am_i1_inv {st : List Value} {F : Int32 → List Value → Prop} (h : am_i1 st F) : ∃ x st', st = .int x :: st' ∧ F x st' := by
  unfold am_i1 at h; split at h
  · exact ⟨_, _, rfl, h⟩
  · exact h.elim
theorem am_i2_inv {st : List Value} {F : Int32 → Int32 → List Value → Prop} (h : am_i2 st F) : ∃ x y st', st = .int y :: .int x :: st' ∧ F x y st' := by
  unfold am_i2 at h; split at h
  · exact ⟨_, _, _, rfl, h⟩
  · exact h.elim
theorem am_l1_inv {st : List Value} {F : Int64 → List Value → Prop} (h : am_l1 st F) : ∃ x st', st = .long x :: st' ∧ F x st' := by
  unfold am_l1 at h; split at h
  · exact ⟨_, _, rfl, h⟩
  · exact h.elim
theorem am_l2_inv {st : List Value} {F : Int64 → Int64 → List Value → Prop} (h : am_l2 st F) : ∃ x y st', st = .long y :: .long x :: st' ∧ F x y st' := by
  unfold am_l2 at h; split at h
  · exact ⟨_, _, _, rfl, h⟩
  · exact h.elim
theorem am_li_inv {st : List Value} {F : Int64 → Int32 → List Value → Prop} (h : am_li st F) : ∃ x y st', st = .int y :: .long x :: st' ∧ F x y st' := by
  unfold am_li at h; split at h
  · exact ⟨_, _, _, rfl, h⟩
  · exact h.elim
section
variable {p : Program} {l : Launch} {e : Env} {R : Room} {s : State} {m : MethodId} {args : Array Value} {below : List Frame} {meth : Method} {c : Code} {Q : State → Prop}
/-- the machine goes on from here, whatever heap holds the memory -/
def am_WW (X : am_X) (T : am_T) (p : Program) (l : Launch) (e : Env) (R : Room) (s : State) (m : MethodId) (args : Array Value) (below : List Frame) (meth : Method) (c : Code) (n0 z0 : Nat) (lim : Nat × Nat) (Q : State → Prop) : am_R := fun pc L st M =>
  ∀ (H : Heap) (ls : Array Slot) (locs : List Loc) (cells slots : Nat), xRep X T M H → va_S (xNew X) s.heap H locs → am_LH (xB X) (xV X) ls L → L.length = c.maxLocals → n0 + cells = M.1.1.length → z0 + slots = am_sz (tP T) M → M.1.1.length ≤ lim.1 → am_sz (tP T) M ≤ lim.2 →
    W p l e R s m args below meth c H locs cells slots Q (F0 m pc ls (st.map (xcv X)))
/-- where a body runs -/
def am_Cx (X : am_X) (T : am_T) (p : Program) (s : State) (m : MethodId) (args : Array Value) (meth : Method) (c : Code) (y : Nat) : Prop :=
  p.tables.exec = Jvm.exec ∧ c.code = tB T y ∧ s.vm.findClass (pNm (tP T) (iOwn (pInf (tP T) y))) = some m.cls ∧ (∀ w ∈ tW T, w.before args s = true) ∧ meth.locks = false ∧ (iKnd (pInf (tP T) y) = 2 → meth.name = "<init>") ∧ am_Wd X T s s.heap ∧ meth.sig.returnType = iRet (pInf (tP T) y)
def am_prim (i : Instr) : Bool := match i with
  | .iconst _ | .bipush _ | .sipush _ | .lconst _ | .iload_n _ | .iload _ | .lload_n _ | .lload _ | .aload_n _ | .aload _ | .istore_n _ | .istore _ | .lstore_n _ | .lstore _ | .astore_n _ | .astore _ | .iinc _ _ => true
  | .iadd | .isub | .imul | .iand | .ior | .ixor | .ishl | .ishr | .iushr | .idiv | .irem | .ladd | .lsub | .lmul | .land | .lor | .ldiv | .lrem | .lshl | .lcmp | .i2l | .i2b | .i2s | .i2c | .l2i | .dup | .dup2 | .pop => true
  | .goto _ | .ifCond _ _ | .if_icmp _ _ | .tableswitch _ _ _ _ | .lookupswitch _ _ => true
  | _ => false
set_option maxHeartbeats 4000000 in
theorem am_sound1 {X : am_X} {T : am_T} {y n0 z0 : Nat} {lim : Nat × Nat} {C : am_C} {K : am_K} (hG : am_G T) (hX : am_Xok X T) (hcx : am_Cx X T p s m args meth c y) {pc : Nat} {L st : List Value} {M : am_M} {i : Instr} {n t : Nat} (hc : pCode (tP T) y pc = some (i, n, t)) (hp : am_prim i = true)
    (h : am_step (tP T) (xE X) (iOwn (pInf (tP T) y)) (iKnd (pInf (tP T) y)) (iRet (pInf (tP T) y)) lim C K (am_WW X T p l e R s m args below meth c n0 z0 lim Q) i t pc L st M) : am_WW X T p l e R s m args below meth c n0 z0 lim Q pc L st M := by
  intro H ls locs cells slots hR hS hL hN h1 h2 h3 h4
  obtain ⟨hx, hb, hown, hts, hlk, hin, hw, hret⟩ := hcx
  obtain ⟨hd, htg⟩ := hG.1 y pc i n t hc
  have ht := hX.1
  cases i <;> first | cases hp | skip
  case iconst v => exact lv_iconst hx hb hd rfl (h H ls locs cells slots hR hS hL hN h1 h2 h3 h4)
  case bipush v => exact lv_bipush hx hb hd rfl (h H ls locs cells slots hR hS hL hN h1 h2 h3 h4)
  case sipush v => exact lv_sipush hx hb hd rfl (h H ls locs cells slots hR hS hL hN h1 h2 h3 h4)
  case lconst v => exact lv_lconst hx hb hd rfl (h H ls locs cells slots hR hS hL hN h1 h2 h3 h4)
  case iload_n k =>
    obtain ⟨x, e1, h⟩ := am_ldI_inv (by unfold am_step at h; exact h)
    exact lv_iload_n hx hb hd rfl (hL.2.2 _ _ e1 rfl) (h H ls locs cells slots hR hS hL hN h1 h2 h3 h4)
  case iload k =>
    obtain ⟨x, e1, h⟩ := am_ldI_inv (by unfold am_step at h; exact h)
    exact lv_iload hx hb hd (hL.2.2 _ _ e1 rfl) (h H ls locs cells slots hR hS hL hN h1 h2 h3 h4)
  case lload_n k =>
    obtain ⟨x, e1, h⟩ := am_ldL_inv (by unfold am_step at h; exact h)
    exact lv_lload_n hx hb hd rfl (hL.2.2 _ _ e1 rfl) (h H ls locs cells slots hR hS hL hN h1 h2 h3 h4)
  case lload k =>
    obtain ⟨x, e1, h⟩ := am_ldL_inv (by unfold am_step at h; exact h)
    exact lv_lload hx hb hd (hL.2.2 _ _ e1 rfl) (h H ls locs cells slots hR hS hL hN h1 h2 h3 h4)
  case aload_n k =>
    rcases am_ldA_inv (by unfold am_step at h; exact h) with ⟨x, e1, h⟩ | ⟨x, e1, h⟩
    · exact lv_aload_n hx hb hd rfl (hL.2.2 _ _ e1 rfl) (h H ls locs cells slots hR hS hL hN h1 h2 h3 h4)
    · have g := h H ls locs cells slots hR hS hL hN h1 h2 h3 h4
      have e2 := hL.2.2 _ _ e1 rfl
      have e3 : (.retAddr x :: st).map (xcv X) = xV X x :: st.map (xcv X) := rfl
      have e4 : am_cv (xB X) (xV X) (.retAddr x) = xV X x := rfl
      rw [e3] at g
      rw [e4] at e2
      rcases ht x with z | ⟨a, z⟩
      · rw [z] at g e2
        exact lv_aload_nN hx hb hd rfl e2 g
      · rw [z] at g e2
        exact lv_aload_n hx hb hd rfl e2 g
  case aload k =>
    rcases am_ldA_inv (by unfold am_step at h; exact h) with ⟨x, e1, h⟩ | ⟨x, e1, h⟩
    · exact lv_aload hx hb hd (hL.2.2 _ _ e1 rfl) (h H ls locs cells slots hR hS hL hN h1 h2 h3 h4)
    · have g := h H ls locs cells slots hR hS hL hN h1 h2 h3 h4
      have e2 := hL.2.2 _ _ e1 rfl
      have e3 : (.retAddr x :: st).map (xcv X) = xV X x :: st.map (xcv X) := rfl
      have e4 : am_cv (xB X) (xV X) (.retAddr x) = xV X x := rfl
      rw [e3] at g
      rw [e4] at e2
      rcases ht x with z | ⟨a, z⟩
      · rw [z] at g e2
        exact lv_aloadN hx hb hd e2 g
      · rw [z] at g e2
        exact lv_aload hx hb hd e2 g
  case istore_n k =>
    obtain ⟨x, st, hk, rfl, hh⟩ := am_stI_inv (by unfold am_step at h; exact h)
    exact lv_istore_n hx hb hd rfl hL.has hk rfl (fun ls' hl => hh H ls' locs cells slots hR hS (am_LH.set (v := .int x) ht rfl hl) ((by unfold am_set; split; simp; split <;> simp : (am_set L k (.int x)).length = L.length).trans hN) h1 h2 h3 h4)
  case istore k =>
    obtain ⟨x, st, hk, rfl, hh⟩ := am_stI_inv (by unfold am_step at h; exact h)
    exact lv_istore hx hb hd hL.has hk rfl (fun ls' hl => hh H ls' locs cells slots hR hS (am_LH.set (v := .int x) ht rfl hl) ((by unfold am_set; split; simp; split <;> simp : (am_set L k (.int x)).length = L.length).trans hN) h1 h2 h3 h4)
  case lstore_n k =>
    obtain ⟨x, st, hk, rfl, hh⟩ := am_stL_inv (by unfold am_step at h; exact h)
    exact lv_lstore_n hx hb hd rfl hL.has hk rfl (fun ls' hl => hh H ls' locs cells slots hR hS (am_LH.set2 (v := .long x) ht rfl hl) ((by unfold am_set2 am_set; split; simp; split <;> simp : (am_set2 L k (.long x)).length = L.length).trans hN) h1 h2 h3 h4)
  case lstore k =>
    obtain ⟨x, st, hk, rfl, hh⟩ := am_stL_inv (by unfold am_step at h; exact h)
    exact lv_lstore hx hb hd hL.has hk rfl (fun ls' hl => hh H ls' locs cells slots hR hS (am_LH.set2 (v := .long x) ht rfl hl) ((by unfold am_set2 am_set; split; simp; split <;> simp : (am_set2 L k (.long x)).length = L.length).trans hN) h1 h2 h3 h4)
  case astore_n k =>
    obtain ⟨v, st, hk, rfl, hv, hh⟩ := am_stA_inv (by unfold am_step at h; exact h)
    have hlen : (am_set L k v).length = L.length := by unfold am_set; split; simp; split <;> simp
    rcases hv with ⟨x, rfl⟩ | ⟨x, rfl⟩
    · exact lv_astore_n hx hb hd rfl hL.has hk rfl (fun ls' hl => hh H ls' locs cells slots hR hS (am_LH.set (v := .ref x) ht rfl hl) (hlen.trans hN) h1 h2 h3 h4)
    · have e3 : (.retAddr x :: st).map (xcv X) = xV X x :: st.map (xcv X) := rfl
      have key := fun (ls' : Array Slot) hl => hh H ls' locs cells slots hR hS (am_LH.set (v := .retAddr x) ht rfl hl) (hlen.trans hN) h1 h2 h3 h4
      have e4 : am_cv (xB X) (xV X) (.retAddr x) = xV X x := rfl
      rw [e4] at key
      rw [e3]
      rcases ht x with z | ⟨a, z⟩
      · rw [z] at key ⊢
        exact lv_astore_nN hx hb hd rfl hL.has hk rfl key
      · rw [z] at key ⊢
        exact lv_astore_n hx hb hd rfl hL.has hk rfl key
  case astore k =>
    obtain ⟨v, st, hk, rfl, hv, hh⟩ := am_stA_inv (by unfold am_step at h; exact h)
    have hlen : (am_set L k v).length = L.length := by unfold am_set; split; simp; split <;> simp
    rcases hv with ⟨x, rfl⟩ | ⟨x, rfl⟩
    · exact lv_astore hx hb hd hL.has hk rfl (fun ls' hl => hh H ls' locs cells slots hR hS (am_LH.set (v := .ref x) ht rfl hl) (hlen.trans hN) h1 h2 h3 h4)
    · have e3 : (.retAddr x :: st).map (xcv X) = xV X x :: st.map (xcv X) := rfl
      have key := fun (ls' : Array Slot) hl => hh H ls' locs cells slots hR hS (am_LH.set (v := .retAddr x) ht rfl hl) (hlen.trans hN) h1 h2 h3 h4
      have e4 : am_cv (xB X) (xV X) (.retAddr x) = xV X x := rfl
      rw [e4] at key
      rw [e3]
      rcases ht x with z | ⟨a, z⟩
      · rw [z] at key ⊢
        exact lv_astoreN hx hb hd hL.has hk rfl key
      · rw [z] at key ⊢
        exact lv_astore hx hb hd hL.has hk rfl key
  case iinc k v =>
    have h' : (match Nat.blt k L.length, L[k]? with
      | true, some (.int x) => am_WW X T p l e R s m args below meth c n0 z0 lim Q (pc + 3) (am_set L k (.int (x + Int32.ofInt v))) st M
      | _, _ => False) := h
    split at h'
    · next x hk hx' =>
      have hk : k < L.length := by simpa [Nat.blt_eq] using hk
      have hmem := am_prs_mem (base := xB X) (tv := xV X) hx' rfl
      obtain ⟨q, hq⟩ := List.getElem?_of_mem hmem
      exact lv_iinc hx hb hd hL.has hq rfl hk rfl (fun ls' hl => h' H ls' locs cells slots hR hS (am_LH.set (v := .int (x + Int32.ofInt v)) ht rfl hl) ((by unfold am_set; split; simp; split <;> simp : (am_set L k (.int (x + Int32.ofInt v))).length = L.length).trans hN) h1 h2 h3 h4)
    · exact h'.elim
  case iadd => obtain ⟨x, y', st, rfl, h⟩ := am_i2_inv h; exact lv_iadd hx hb hd (h H ls locs cells slots hR hS hL hN h1 h2 h3 h4)
  case isub => obtain ⟨x, y', st, rfl, h⟩ := am_i2_inv h; exact lv_isub hx hb hd (h H ls locs cells slots hR hS hL hN h1 h2 h3 h4)
  case imul => obtain ⟨x, y', st, rfl, h⟩ := am_i2_inv h; exact lv_imul hx hb hd (h H ls locs cells slots hR hS hL hN h1 h2 h3 h4)
  case iand => obtain ⟨x, y', st, rfl, h⟩ := am_i2_inv h; exact lv_iand hx hb hd (h H ls locs cells slots hR hS hL hN h1 h2 h3 h4)
  case ior => obtain ⟨x, y', st, rfl, h⟩ := am_i2_inv h; exact lv_ior hx hb hd (h H ls locs cells slots hR hS hL hN h1 h2 h3 h4)
  case ixor => obtain ⟨x, y', st, rfl, h⟩ := am_i2_inv h; exact lv_ixor hx hb hd (h H ls locs cells slots hR hS hL hN h1 h2 h3 h4)
  case ishl => obtain ⟨x, y', st, rfl, h⟩ := am_i2_inv h; exact lv_ishl hx hb hd (h H ls locs cells slots hR hS hL hN h1 h2 h3 h4)
  case ishr => obtain ⟨x, y', st, rfl, h⟩ := am_i2_inv h; exact lv_ishr hx hb hd (h H ls locs cells slots hR hS hL hN h1 h2 h3 h4)
  case iushr => obtain ⟨x, y', st, rfl, h⟩ := am_i2_inv h; exact lv_iushr hx hb hd rfl (h H ls locs cells slots hR hS hL hN h1 h2 h3 h4)
  case idiv => obtain ⟨x, y', st, rfl, h0, h⟩ := am_i2_inv h; exact lv_idiv hx hb hd h0 (h H ls locs cells slots hR hS hL hN h1 h2 h3 h4)
  case irem => obtain ⟨x, y', st, rfl, h0, h⟩ := am_i2_inv h; exact lv_irem hx hb hd h0 (h H ls locs cells slots hR hS hL hN h1 h2 h3 h4)
  case ladd => obtain ⟨x, y', st, rfl, h⟩ := am_l2_inv h; exact lv_ladd hx hb hd (h H ls locs cells slots hR hS hL hN h1 h2 h3 h4)
  case lsub => obtain ⟨x, y', st, rfl, h⟩ := am_l2_inv h; exact lv_lsub hx hb hd (h H ls locs cells slots hR hS hL hN h1 h2 h3 h4)
  case lmul => obtain ⟨x, y', st, rfl, h⟩ := am_l2_inv h; exact lv_lmul hx hb hd (h H ls locs cells slots hR hS hL hN h1 h2 h3 h4)
  case land => obtain ⟨x, y', st, rfl, h⟩ := am_l2_inv h; exact lv_land hx hb hd (h H ls locs cells slots hR hS hL hN h1 h2 h3 h4)
  case lor => obtain ⟨x, y', st, rfl, h⟩ := am_l2_inv h; exact lv_lor hx hb hd (h H ls locs cells slots hR hS hL hN h1 h2 h3 h4)
  case ldiv => obtain ⟨x, y', st, rfl, h0, h⟩ := am_l2_inv h; exact lv_ldiv hx hb hd h0 (h H ls locs cells slots hR hS hL hN h1 h2 h3 h4)
  case lrem => obtain ⟨x, y', st, rfl, h0, h⟩ := am_l2_inv h; exact lv_lrem hx hb hd h0 (h H ls locs cells slots hR hS hL hN h1 h2 h3 h4)
  case lshl => obtain ⟨x, y', st, rfl, h⟩ := am_li_inv h; exact lv_lshl hx hb hd rfl (h H ls locs cells slots hR hS hL hN h1 h2 h3 h4)
  case lcmp => obtain ⟨x, y', st, rfl, h⟩ := am_l2_inv h; exact W.lcmp hx hb hd (h H ls locs cells slots hR hS hL hN h1 h2 h3 h4)
  case i2l => obtain ⟨x, st, rfl, h⟩ := am_i1_inv h; exact lv_i2l hx hb hd rfl (h H ls locs cells slots hR hS hL hN h1 h2 h3 h4)
  case i2b => obtain ⟨x, st, rfl, h⟩ := am_i1_inv h; exact lv_i2b hx hb hd rfl (h H ls locs cells slots hR hS hL hN h1 h2 h3 h4)
  case i2s => obtain ⟨x, st, rfl, h⟩ := am_i1_inv h; exact lv_i2s hx hb hd rfl (h H ls locs cells slots hR hS hL hN h1 h2 h3 h4)
  case i2c => obtain ⟨x, st, rfl, h⟩ := am_i1_inv h; exact lv_i2c hx hb hd rfl (h H ls locs cells slots hR hS hL hN h1 h2 h3 h4)
  case l2i => obtain ⟨x, st, rfl, h⟩ := am_l1_inv h; exact lv_l2i hx hb hd rfl (h H ls locs cells slots hR hS hL hN h1 h2 h3 h4)
  case dup =>
    unfold am_step at h
    dsimp only at h
    split at h
    · exact lv_dup hx hb hd rfl (h H ls locs cells slots hR hS hL hN h1 h2 h3 h4)
    · exact lv_dup hx hb hd rfl (h H ls locs cells slots hR hS hL hN h1 h2 h3 h4)
    · exact h.elim
  case dup2 =>
    unfold am_step at h
    dsimp only at h
    split at h
    · exact lv_dup2_11 hx hb hd rfl rfl (h H ls locs cells slots hR hS hL hN h1 h2 h3 h4)
    · exact lv_dup2_11 hx hb hd rfl rfl (h H ls locs cells slots hR hS hL hN h1 h2 h3 h4)
    · exact h.elim
  case pop =>
    unfold am_step at h
    dsimp only at h
    split at h
    · exact lv_pop hx hb hd rfl (h H ls locs cells slots hR hS hL hN h1 h2 h3 h4)
    · exact lv_pop hx hb hd rfl (h H ls locs cells slots hR hS hL hN h1 h2 h3 h4)
    · exact h.elim
  case goto off => exact lv_goto hx hb hd htg (h H ls locs cells slots hR hS hL hN h1 h2 h3 h4)
  case ifCond cd off =>
    obtain ⟨x, st, rfl, ha, hb'⟩ := am_i1_inv h
    cases cd
    · exact lv_if_eq hx hb hd htg (fun z => ha z H ls locs cells slots hR hS hL hN h1 h2 h3 h4) (fun z => hb' z H ls locs cells slots hR hS hL hN h1 h2 h3 h4)
    · exact lv_if_ne hx hb hd htg (fun z => ha z H ls locs cells slots hR hS hL hN h1 h2 h3 h4) (fun z => hb' (fun w => w z) H ls locs cells slots hR hS hL hN h1 h2 h3 h4)
    · exact lv_if_lt hx hb hd htg (fun z => ha z H ls locs cells slots hR hS hL hN h1 h2 h3 h4) (fun z => hb' z H ls locs cells slots hR hS hL hN h1 h2 h3 h4)
    · exact lv_if_ge hx hb hd htg (fun z => ha z H ls locs cells slots hR hS hL hN h1 h2 h3 h4) (fun z => hb' z H ls locs cells slots hR hS hL hN h1 h2 h3 h4)
    · exact lv_if_gt hx hb hd htg (fun z => ha z H ls locs cells slots hR hS hL hN h1 h2 h3 h4) (fun z => hb' z H ls locs cells slots hR hS hL hN h1 h2 h3 h4)
    · exact lv_if_le hx hb hd htg (fun z => ha z H ls locs cells slots hR hS hL hN h1 h2 h3 h4) (fun z => hb' z H ls locs cells slots hR hS hL hN h1 h2 h3 h4)
  case if_icmp cd off =>
    obtain ⟨x, y', st, rfl, ha, hb'⟩ := am_i2_inv h
    cases cd
    · exact lv_icmp_eq hx hb hd htg (fun z => ha z H ls locs cells slots hR hS hL hN h1 h2 h3 h4) (fun z => hb' z H ls locs cells slots hR hS hL hN h1 h2 h3 h4)
    · exact lv_icmp_ne hx hb hd htg (fun z => ha z H ls locs cells slots hR hS hL hN h1 h2 h3 h4) (fun z => hb' (fun w => w z) H ls locs cells slots hR hS hL hN h1 h2 h3 h4)
    · exact lv_icmp_lt hx hb hd htg (fun z => ha z H ls locs cells slots hR hS hL hN h1 h2 h3 h4) (fun z => hb' z H ls locs cells slots hR hS hL hN h1 h2 h3 h4)
    · exact lv_icmp_ge hx hb hd htg (fun z => ha z H ls locs cells slots hR hS hL hN h1 h2 h3 h4) (fun z => hb' z H ls locs cells slots hR hS hL hN h1 h2 h3 h4)
    · exact lv_icmp_gt hx hb hd htg (fun z => ha z H ls locs cells slots hR hS hL hN h1 h2 h3 h4) (fun z => hb' z H ls locs cells slots hR hS hL hN h1 h2 h3 h4)
    · exact lv_icmp_le hx hb hd htg (fun z => ha z H ls locs cells slots hR hS hL hN h1 h2 h3 h4) (fun z => hb' z H ls locs cells slots hR hS hL hN h1 h2 h3 h4)
  case tableswitch dd lo hi o =>
    obtain ⟨x, st, rfl, t', hsw, h⟩ := am_i1_inv h
    rcases hsw with ⟨q1, q2⟩ | ⟨q1, q2, off, q3, q4⟩
    · exact lv_tableOut hx hb hd q1 q2 (h H ls locs cells slots hR hS hL hN h1 h2 h3 h4)
    · exact lv_tableIn hx hb hd q1 q2 q3 q4 (h H ls locs cells slots hR hS hL hN h1 h2 h3 h4)
  case lookupswitch dd ps =>
    obtain ⟨x, st, rfl, t', q1, q2, h⟩ := am_i1_inv h
    exact lv_lookup hx hb hd q1 rfl q2 (h H ls locs cells slots hR hS hL hN h1 h2 h3 h4)
end
end
section
/-! Steps that read and write the heap. -/
section
variable {p : Program} {l : Launch} {e : Env} {R : Room} {s : State} {m : MethodId} {args : Array Value} {below : List Frame} {meth : Method} {c : Code} {Q : State → Prop}
variable {X : am_X} {T : am_T} {y n0 z0 : Nat} {lim : Nat × Nat} {C : am_C} {K : am_K} {pc : Nat} {L st : List Value} {M : am_M}
theorem am_arr {H : Heap} {k n : Nat} {ty : FieldType} (hR : xRep X T M H) (hk : M.1.1[k]? = some (.inr (ty, n))) : ∃ cA, xA X ty = some cA ∧ H[xB X + k]? = some (arrV cA n (fun j => am_val (xB X) ty M k j)) := hR.2.1 k _ hk
/-- a place of an array of ints, bytes or truths is written -/
theorem am_Rep_ui {H H' : Heap} {k n j : Nat} {ty : FieldType} {x : Int32} {cA : ClassId} (hR : xRep X T M H) (hk : M.1.1[k]? = some (.inr (ty, n))) (hkd : am_kd ty = 0) (hA : xA X ty = some cA)
    (e1 : H'[xB X + k]? = some ((arrV cA n (fun j => am_val (xB X) ty M k j)).setSlot j (.int x))) (e2 : H'.size = H.size) (e3 : ∀ q, q ≠ xB X + k → H'[q]? = H[q]?) : xRep X T (am_ui M k j x) H' := by
  refine am_Rep.put hR rfl hk (fun k' hk' j' => ⟨?_, rfl, rfl⟩) e2 e3 ⟨cA, hA, ?_⟩
  · show (if k' = k then _ else _) = _
    rw [if_neg hk']
  · rw [e1, arrV_store]
    congr 2
    funext j'
    unfold updV am_val
    rw [hkd]
    by_cases h : j' = j
    · subst h; simp [am_ui]
    · simp [am_ui, h]
theorem am_Rep_ul {H H' : Heap} {k n j : Nat} {ty : FieldType} {x : Int64} {cA : ClassId} (hR : xRep X T M H) (hk : M.1.1[k]? = some (.inr (ty, n))) (hkd : am_kd ty = 1) (hA : xA X ty = some cA)
    (e1 : H'[xB X + k]? = some ((arrV cA n (fun j => am_val (xB X) ty M k j)).setSlot j (.long x))) (e2 : H'.size = H.size) (e3 : ∀ q, q ≠ xB X + k → H'[q]? = H[q]?) : xRep X T (am_ul M k j x) H' := by
  refine am_Rep.put hR rfl hk (fun k' hk' j' => ⟨rfl, ?_, rfl⟩) e2 e3 ⟨cA, hA, ?_⟩
  · show (if k' = k then _ else _) = _
    rw [if_neg hk']
  · rw [e1, arrV_store]
    congr 2
    funext j'
    unfold updV am_val
    rw [hkd]
    by_cases h : j' = j
    · subst h; simp [am_ul]
    · simp [am_ul, h]
theorem am_Rep_ur {H H' : Heap} {k n j : Nat} {ty : FieldType} {x : Nat} {cA : ClassId} (hR : xRep X T M H) (hk : M.1.1[k]? = some (.inr (ty, n))) (hkd : am_kd ty = 2) (hA : xA X ty = some cA)
    (e1 : H'[xB X + k]? = some ((arrV cA n (fun j => am_val (xB X) ty M k j)).setSlot j (.ref (xB X + x)))) (e2 : H'.size = H.size) (e3 : ∀ q, q ≠ xB X + k → H'[q]? = H[q]?) : xRep X T (am_ur M k j x) H' := by
  refine am_Rep.put hR rfl hk (fun k' hk' j' => ⟨rfl, rfl, ?_⟩) e2 e3 ⟨cA, hA, ?_⟩
  · show (if k' = k then _ else _) = _
    rw [if_neg hk']
  · rw [e1, arrV_store]
    congr 2
    funext j'
    unfold updV am_val
    rw [hkd]
    by_cases h : j' = j
    · subst h; simp [am_ur]
    · simp [am_ur, h]
theorem am_S_put {H H' : Heap} {locs : List Loc} {k j : Nat} (hS : va_S (xNew X) s.heap H locs) (e2 : H'.size = H.size) (e3 : ∀ q, q ≠ xB X + k → H'[q]? = H[q]?) : va_S (xNew X) s.heap H' (locs ++ [⟨xB X + k, j⟩]) := hS.put e2 e3 (Nat.le_add_right _ _)
/-- a field of an object is read -/
theorem am_fld {H : Heap} {k : Nat} {f : Nat × Nat} {own idx : Nat} (hG : am_G T) (hw : am_Wd X T s s.heap) (hts : ∀ w ∈ tW T, w.before args s = true) (hf : pFld (tP T) own idx = some f) (hR : xRep X T M H) (hk : M.1.1[k]? = some (.inl f.1)) :
    ∃ (F : u_T) (N : Nat) (cell : Cell) (cf : Nat) (kf : Class) (fi : Nat) (fd : Field), (tC T)[f.1]? = some (pNm (tP T) f.1, F, N) ∧ f.2 < N ∧ Cond.fieldLink (pNm (tP T) own) idx (F f.2).1 (F f.2).2.1 (F f.2).2.2.1 ∈ tW T ∧ pFin (tP T) f.1 f.2 = (F f.2).2.2.2 ∧ (F f.2).1 = pNm (tP T) f.1 ∧
      H[xB X + k]? = some cell ∧ cell.cls = (xD X).1 f.1 ∧ cell.vm = .none ∧ (∀ j, j < N → cell.slots[(xD X).2 f.1 j]? = some (am_val (xB X) (pTy (tP T) f.1 j) M k j)) ∧ s.fieldFound? (F f.2).1 (F f.2).2.1 (F f.2).2.2.1 = some (cf, kf, fi, fd) ∧ fd.slot = (xD X).2 f.1 f.2 := by
  obtain ⟨F, N, h1, h2, h3, h4, h5⟩ := hG.2.1 own idx f hf
  obtain ⟨r, h6, cell, q1, q2, q3, q4⟩ := hR.2.1 k _ hk
  have hr : r = (pNm (tP T) f.1, F, N) := Option.some.inj (h6.symm.trans h1)
  subst hr
  obtain ⟨hs, -⟩ := hw.1 _ _ h1
  obtain ⟨cf, kf, fi, fd, hi, hsl⟩ := hs f.2 h2
  exact ⟨F, N, cell, cf, kf, fi, fd, h1, h2, h3, h4, h5, q1, q2, q3, q4, hi, hsl⟩
theorem am_getf {H : Heap} {ls : Array Slot} {locs : List Loc} {cells slots : Nat} {k : Nat} {f : Nat × Nat} {own idx : Nat} {rest : List Value} {cc : ByteArray} (hG : am_G T) (hw : am_Wd X T s s.heap) (hts : ∀ w ∈ tW T, w.before args s = true) (hx : p.tables.exec = Jvm.exec) (hb : c.code = cc) (hown : s.vm.findClass (pNm (tP T) own) = some m.cls) (hf : pFld (tP T) own idx = some f) (hR : xRep X T M H) (hk : M.1.1[k]? = some (.inl f.1)) (hd : decode cc pc = .ok (.getfield idx, 3))
    (kk : W p l e R s m args below meth c H locs cells slots Q (F0 m (pc + 3) ls (am_val (xB X) (pTy (tP T) f.1 f.2) M k f.2 :: rest))) : W p l e R s m args below meth c H locs cells slots Q (F0 m pc ls (.ref (xB X + k) :: rest)) := by
  obtain ⟨F, N, cell, cf, kf, fi, fd, h1, h2, h3, h4, h5, q1, q2, q3, q4, hi, hsl⟩ := am_fld hG hw hts hf hR hk
  obtain ⟨-, -, hin, -⟩ := hG.2.2.1 _ _ _ _ h1
  obtain ⟨-, hfc, kC, hkC, hkind⟩ := hw.1 _ _ h1
  exact W.getf hx hb hown (hts _ h3) hi (u_facts hfc hkC (u_lays hts hin h2) hi).1 q1 (by rw [q3]; exact fun h => by cases h) (by rw [hsl]; exact q4 _ h2) rfl rfl hd kk
/-- a field of an object is written -/
theorem am_putf {H : Heap} {ls : Array Slot} {locs : List Loc} {cells slots : Nat} {k : Nat} {f : Nat × Nat} {own idx : Nat} {rest : List Value} {cc : ByteArray} {v : Value} {M' : am_M} (hG : am_G T) (hw : am_Wd X T s s.heap) (hts : ∀ w ∈ tW T, w.before args s = true) (hx : p.tables.exec = Jvm.exec) (hb : c.code = cc) (hown : s.vm.findClass (pNm (tP T) own) = some m.cls) (hf : pFld (tP T) own idx = some f) (hR : xRep X T M H) (hS : va_S (xNew X) s.heap H locs) (hk : M.1.1[k]? = some (.inl f.1)) (hd : decode cc pc = .ok (.putfield idx, 3))
    (hfin : pFin (tP T) f.1 f.2 = false ∨ (meth.name = "<init>" ∧ own = f.1)) (hn : narrow (pTy (tP T) f.1 f.2) v = v) (hfit : fits (pTy (tP T) f.1 f.2) v = true)
    (hs : M'.1.1 = M.1.1) (hv : ∀ k', k' ≠ k → ∀ j, M'.2.1 k' j = M.2.1 k' j ∧ M'.2.2 k' j = M.2.2 k' j ∧ M'.1.2 k' j = M.1.2 k' j) (hsame : ∀ (ty : FieldType) (j : Nat), j ≠ f.2 → am_val (xB X) ty M' k j = am_val (xB X) ty M k j) (hnew : am_val (xB X) (pTy (tP T) f.1 f.2) M' k f.2 = v)
    (kk : ∀ (H1 : Heap) (locs1 : List Loc), xRep X T M' H1 → va_S (xNew X) s.heap H1 locs1 → W p l e R s m args below meth c H1 locs1 cells slots Q (F0 m (pc + 3) ls rest)) : W p l e R s m args below meth c H locs cells slots Q (F0 m pc ls (v :: .ref (xB X + k) :: rest)) := by
  obtain ⟨F, N, cell, cf, kf, fi, fd, h1, h2, h3, h4, h5, q1, q2, q3, q4, hi, hsl⟩ := am_fld hG hw hts hf hR hk
  obtain ⟨-, -, hin, hty, hnm, -⟩ := hG.2.2.1 _ _ _ _ h1
  obtain ⟨hSl, hfc, kC, hkC, hkind⟩ := hw.1 _ _ h1
  have hlays := u_lays hts hin h2
  have hap : ∀ x y, x < N → y < N → x ≠ y → ((xD X).2 f.1) x ≠ ((xD X).2 f.1) y := by
    intro x y hx' hy' hne
    obtain ⟨_, _, _, fa, hia, ea⟩ := hSl x hx'
    obtain ⟨_, _, _, fb, hib, eb⟩ := hSl y hy'
    rw [← ea, ← eb]
    refine u_apart (u_lays hts hin hx') (u_lays hts hin hy') hia hib ?_
    rw [(State.fieldFound?_type hia (hty x hx')).1, (State.fieldFound?_type hib (hty y hy')).1]
    exact hnm x hx' y hy' hne
  have hst := (u_facts hfc hkC hlays hi).1
  have fin : ∀ H' : Heap, H'[xB X + k]? = some (cell.setSlot fd.slot v) → H'.size = H.size → (∀ q, q ≠ xB X + k → H'[q]? = H[q]?) → W p l e R s m args below meth c H' (locs ++ [⟨xB X + k, fd.slot⟩]) cells slots Q (F0 m (pc + 3) ls rest) := by
    intro H' e1 e2 e3
    refine kk H' _ (am_Rep.put hR hs hk hv e2 e3 ⟨_, h1, ?_⟩) (am_S_put hS e2 e3)
    rw [hsl] at e1
    have hob : t_OB (xB X + k) ((xD X).1 f.1) N ((xD X).2 f.1) H' (updV (fun j => am_val (xB X) (pTy (tP T) f.1 j) M k j) f.2 v) := ⟨_, e1, q2, q3, t_set q4 hap h2 v⟩
    refine hob.to fun j hj => ?_
    unfold updV
    by_cases hjf : j = f.2
    · subst hjf; simp [hnew]
    · simp [hjf, hsame _ j hjf]
  rcases hfin with hfin | ⟨hin2, hof⟩
  · have hlay := hts _ (hin _ (u_in_lay h2))
    unfold u_lay at hlay
    rw [if_neg (by rw [← h4, hfin]; decide)] at hlay
    have h6 := u_store hfc hkC hkind hlay hi (hty _ h2) hn hfit
    exact W.putK hx hb (f := fd) ⟨hown, hts _ h3, ⟨_, _, _, hi⟩, hst⟩ (by rw [q2]; exact h6) q1 q3 (by rw [hsl]; exact k2_hasslot (q4 _ h2)) rfl rfl hd fin
  · by_cases hF : (F f.2).2.2.2 = true
    · have hlay := hts _ (hin _ (u_in_lay h2))
      unfold u_lay at hlay
      rw [if_pos hF] at hlay
      have hcf : m.cls = cf := by
        obtain ⟨_, _, c', _, _, _, -, -, hf', -, -, -, hown2, -⟩ := Cond.laysFinal_spec hlay
        have e1 : c' = cf := by have := hi.symm.trans hf'; simp at this; exact this.1.symm
        rw [h5, ← hof] at hown2
        rw [← e1]; exact Option.some.inj (hown.symm.trans hown2)
      have h6 := u_fits hfc hkC hkind (Or.inr hlay) hi (hty _ h2) hn hfit
      exact W.putFinK hx hb hown (hts _ h3) hi hst hcf hin2 (by rw [q2]; exact h6) q1 q3 (by rw [hsl]; exact k2_hasslot (q4 _ h2)) rfl rfl hd fin
    · have hlay := hts _ (hin _ (u_in_lay h2))
      unfold u_lay at hlay
      rw [if_neg hF] at hlay
      have h6 := u_store hfc hkC hkind hlay hi (hty _ h2) hn hfit
      exact W.putK hx hb (f := fd) ⟨hown, hts _ h3, ⟨_, _, _, hi⟩, hst⟩ (by rw [q2]; exact h6) q1 q3 (by rw [hsl]; exact k2_hasslot (q4 _ h2)) rfl rfl hd fin
theorem am_fit_ok {ty : FieldType} {x : Int32} (h : am_fit ty x) : narrow ty (.int x) = .int x ∧ fits ty (.int x) = true := by
  cases ty with
  | int => exact ⟨rfl, rfl⟩
  | boolean =>
    rcases h with rfl | rfl
    · exact ⟨by decide, by decide⟩
    · exact ⟨by decide, by decide⟩
  | char =>
    refine ⟨h, ?_⟩
    have h' : narrow .char (.int x) = .int x := h
    rw [← h']
    exact pk_fc x
  | byte =>
    refine ⟨h, ?_⟩
    have h' : narrow .byte (.int x) = .int x := h
    rw [← h']
    exact pk_fb x
  | _ => exact h.elim
set_option maxHeartbeats 4000000 in
theorem am_sound_fld (hG : am_G T) (hX : am_Xok X T) (hcx : am_Cx X T p s m args meth c y) {k n t : Nat} (hc : pCode (tP T) y pc = some (.getfield k, n, t))
    (h : am_step (tP T) (xE X) (iOwn (pInf (tP T) y)) (iKnd (pInf (tP T) y)) (iRet (pInf (tP T) y)) lim C K (am_WW X T p l e R s m args below meth c n0 z0 lim Q) (.getfield k) t pc L st M) : am_WW X T p l e R s m args below meth c n0 z0 lim Q pc L st M := by
  intro H ls locs cells slots hR hS hL hN h1 h2 h3 h4
  obtain ⟨hx, hb, hown, hts, hlk, hin, hw, hret⟩ := hcx
  obtain ⟨hd, htg⟩ := hG.1 y pc _ n t hc
  unfold am_step at h
  dsimp only at h
  split at h
  · next f hf =>
    unfold am_get at h
    split at h
    · next a st =>
      obtain ⟨hk, h⟩ := h
      refine am_getf hG hw hts hx hb hown hf hR hk hd ?_
      split at h
      · next z => have e1 : am_val (xB X) (pTy (tP T) f.1 f.2) M a f.2 = .int (M.2.1 a f.2) := by unfold am_val; rw [z]; rfl
                  rw [e1]; exact h H ls locs cells slots hR hS hL hN h1 h2 h3 h4
      · next z => have e1 : am_val (xB X) (pTy (tP T) f.1 f.2) M a f.2 = .long (M.2.2 a f.2) := by unfold am_val; rw [z]; rfl
                  rw [e1]; exact h H ls locs cells slots hR hS hL hN h1 h2 h3 h4
      · next z =>
        obtain ⟨b, hb2, h⟩ := h
        have e1 : am_val (xB X) (pTy (tP T) f.1 f.2) M a f.2 = .ref (xB X + b) := by unfold am_val; rw [z, hb2]; rfl
        rw [e1]; exact h H ls locs cells slots hR hS hL hN h1 h2 h3 h4
      · exact h.elim
    · exact h.elim
  · next hf hcs =>
    have hl := hG.2.2.2.1 _ _ _ hcs
    unfold am_getS at h
    split at h
    · next a st =>
      obtain ⟨i, rfl, hi, h⟩ := h
      have e1 := (hX.2.2.2.1 i hi).1
      have hE := (hw.2.2.2.1.1 i hi).2.1
      have g := h H ls locs cells slots hR hS hL hN h1 h2 h3 h4
      have e2 : (Value.retAddr (2 * i + 2) :: st).map (xcv X) = .ref (xK X i) :: st.map (xcv X) := by rw [← e1]; rfl
      rw [e2]
      exact vk_getf hx hb hE hS hown (hts _ hl) (fun _ z => z) hd g
    · exact h.elim
  · next hf hcs =>
    have hl := hG.2.2.2.1 _ _ _ hcs
    unfold am_getS at h
    split at h
    · next a st =>
      obtain ⟨i, rfl, hi, h⟩ := h
      have e1 := (hX.2.2.2.1 i hi).1
      have e3 := (hX.2.2.2.1 i hi).2.1
      have hE := (hw.2.2.2.1.1 i hi).2.2.1
      have g := h H ls locs cells slots hR hS hL hN h1 h2 h3 h4
      have e2 : (Value.retAddr (2 * i + 2) :: st).map (xcv X) = .ref (xK X i) :: st.map (xcv X) := by rw [← e1]; rfl
      have e4 : (Value.retAddr (2 * i + 2 + 1) :: st).map (xcv X) = .ref (xW X i) :: st.map (xcv X) := by rw [← e3]; rfl
      rw [e2]
      rw [e4] at g
      exact vk_getf hx hb hE hS hown (hts _ hl) (fun _ z => z) hd g
    · exact h.elim
  · exact h.elim
set_option maxHeartbeats 4000000 in
theorem am_sound_put (hG : am_G T) (hX : am_Xok X T) (hcx : am_Cx X T p s m args meth c y) {k n t : Nat} (hc : pCode (tP T) y pc = some (.putfield k, n, t))
    (h : am_step (tP T) (xE X) (iOwn (pInf (tP T) y)) (iKnd (pInf (tP T) y)) (iRet (pInf (tP T) y)) lim C K (am_WW X T p l e R s m args below meth c n0 z0 lim Q) (.putfield k) t pc L st M) : am_WW X T p l e R s m args below meth c n0 z0 lim Q pc L st M := by
  intro H ls locs cells slots hR hS hL hN h1 h2 h3 h4
  obtain ⟨hx, hb, hown, hts, hlk, hin, hw, hret⟩ := hcx
  obtain ⟨hd, htg⟩ := hG.1 y pc _ n t hc
  unfold am_step at h
  dsimp only at h
  split at h
  · next f hf =>
    unfold am_put at h
    split at h
    · next hfb =>
      have hfin : pFin (tP T) f.1 f.2 = false ∨ (meth.name = "<init>" ∧ iOwn (pInf (tP T) y) = f.1) := by
        simp only [Bool.or_eq_true, Bool.not_eq_true', Bool.and_eq_true] at hfb
        rcases hfb with z | ⟨z1, z2⟩
        · exact Or.inl z
        · exact Or.inr ⟨hin (Nat.eq_of_beq_eq_true z1), Nat.eq_of_beq_eq_true z2⟩
      split at h
      · next x a st z =>
        obtain ⟨hk, hft, h⟩ := h
        obtain ⟨g1, g2⟩ := am_fit_ok hft
        refine am_putf (M' := am_ui M a f.2 x) hG hw hts hx hb hown hf hR hS hk hd hfin g1 g2 rfl (fun k' hk' j => ⟨?_, rfl, rfl⟩) (fun ty j hj => am_val_congr ?_ rfl rfl) ?_ (fun H1 locs1 hR1 hS1 => h H1 ls locs1 cells slots hR1 hS1 hL hN h1 h2 h3 h4)
        · simp [am_ui, hk']
        · simp [am_ui, hj]
        · unfold am_val; rw [z]; simp [am_ui]; rfl
      · next x a st z =>
        obtain ⟨hk, h⟩ := h
        have hty : pTy (tP T) f.1 f.2 = .long := by
          revert z; cases pTy (tP T) f.1 f.2 <;> simp [am_kd]
        refine am_putf (M' := am_ul M a f.2 x) hG hw hts hx hb hown hf hR hS hk hd hfin (by rw [hty]; rfl) (by rw [hty]; rfl) rfl (fun k' hk' j => ⟨rfl, ?_, rfl⟩) (fun ty j hj => am_val_congr rfl ?_ rfl) ?_ (fun H1 locs1 hR1 hS1 => h H1 ls locs1 cells slots hR1 hS1 hL hN h1 h2 h3 h4)
        · simp [am_ul, hk']
        · simp [am_ul, hj]
        · unfold am_val; rw [z]; simp [am_ul]; rfl
      · next x a st z =>
        obtain ⟨hk, h⟩ := h
        have hty : (∃ C, pTy (tP T) f.1 f.2 = .object C) ∨ ∃ t', pTy (tP T) f.1 f.2 = .array t' := by
          revert z; cases pTy (tP T) f.1 f.2 <;> simp [am_kd]
        refine am_putf (M' := am_ur M a f.2 x) (v := .ref (xB X + x)) hG hw hts hx hb hown hf hR hS hk hd hfin (by rcases hty with ⟨C, q⟩ | ⟨t', q⟩ <;> rw [q] <;> rfl) (by rcases hty with ⟨C, q⟩ | ⟨t', q⟩ <;> rw [q] <;> rfl) rfl (fun k' hk' j => ⟨rfl, rfl, ?_⟩) (fun ty j hj => am_val_congr rfl rfl ?_) ?_ (fun H1 locs1 hR1 hS1 => h H1 ls locs1 cells slots hR1 hS1 hL hN h1 h2 h3 h4)
        · simp [am_ur, hk']
        · simp [am_ur, hj]
        · unfold am_val; rw [z]; simp [am_ur]
      · exact h.elim
    · exact h.elim
  · exact h.elim
end
end
section
/-! Arrays, constants, new cells, returns. -/
section
variable {p : Program} {l : Launch} {e : Env} {R : Room} {s : State} {m : MethodId} {args : Array Value} {below : List Frame} {meth : Method} {c : Code} {Q : State → Prop}
variable {X : am_X} {T : am_T} {y n0 z0 : Nat} {lim : Nat × Nat} {C : am_C} {K : am_K} {pc : Nat} {L st : List Value} {M : am_M}
theorem am_in {i : Int32} {n : Nat} {cA : ClassId} {f : Nat → Value} (h : vp_in i n) : ¬ (i < 0 ∨ (arrV cA n f).slots.size ≤ i.toNatClampNeg) := by rw [arrV_size]; exact h
theorem am_rd {i : Int32} {n : Nat} {cA : ClassId} {f : Nat → Value} (h : vp_in i n) : (arrV cA n f).slots[i.toNatClampNeg]? = some (f i.toNatClampNeg) := arrV_read _ _ (Nat.not_le.mp fun q => h (Or.inr q))
def am_arrI (i : Instr) : Bool := match i with
  | .iaload | .laload | .baload | .aaload | .iastore | .lastore | .bastore | .aastore | .arraylength | .ldc _ | .ldc_w _ | .ldc2_w _ | .getstatic _ => true
  | _ => false
set_option maxHeartbeats 4000000 in
theorem am_sound_arr (hG : am_G T) (hX : am_Xok X T) (hcx : am_Cx X T p s m args meth c y) {i : Instr} {n t : Nat} (hc : pCode (tP T) y pc = some (i, n, t)) (hp : am_arrI i = true)
    (h : am_step (tP T) (xE X) (iOwn (pInf (tP T) y)) (iKnd (pInf (tP T) y)) (iRet (pInf (tP T) y)) lim C K (am_WW X T p l e R s m args below meth c n0 z0 lim Q) i t pc L st M) : am_WW X T p l e R s m args below meth c n0 z0 lim Q pc L st M := by
  intro H ls locs cells slots hR hS hL hN h1 h2 h3 h4
  obtain ⟨hx, hb, hown, hts, hlk, hin, hw, hret⟩ := hcx
  obtain ⟨hd, htg⟩ := hG.1 y pc i n t hc
  cases i <;> first | cases hp | skip
  all_goals (unfold am_step at h; dsimp only at h)
  case iaload =>
    split at h
    · next i k st =>
      obtain ⟨N, hk, hi, h⟩ := h
      obtain ⟨cA, hA, hcell⟩ := am_arr hR hk
      exact W.iald (v := .int (M.2.1 k i.toNatClampNeg)) hx hb hcell ((hw.2.1 _ _ hA).1 N _) (fun q => by cases q) (am_in hi) (am_rd hi) rfl rfl hd (h H ls locs cells slots hR hS hL hN h1 h2 h3 h4)
    · next i st =>
      obtain ⟨hi, h⟩ := h
      have e1 : (Value.int i :: Value.retAddr 0 :: st).map (xcv X) = .int i :: .ref (xb X) :: st.map (xcv X) := by rw [← hX.2.1]; rfl
      rw [e1]
      have hbl : xb X < s.heap.size := by
        obtain ⟨scr, q1, -⟩ := hw.2.2.2.2.2.2.1
        exact (Array.getElem?_eq_some_iff.mp q1).1
      exact va_sld hx hb hw.2.2.2.2.2.2.1 hbl (Nat.not_le.mpr hX.2.2.1) hS hi hd (h H ls locs cells slots hR hS hL hN h1 h2 h3 h4)
    · exact h.elim
  case laload =>
    split at h
    · next i k st =>
      obtain ⟨N, hk, hi, h⟩ := h
      obtain ⟨cA, hA, hcell⟩ := am_arr hR hk
      exact W.lald (v := .long (M.2.2 k i.toNatClampNeg)) hx hb hcell ((hw.2.1 _ _ hA).1 N _) (fun q => by cases q) (am_in hi) (am_rd hi) rfl rfl hd (h H ls locs cells slots hR hS hL hN h1 h2 h3 h4)
    · exact h.elim
  case baload =>
    split at h
    · next i k st =>
      obtain ⟨N, ty, hty, hk, hi, h⟩ := h
      obtain ⟨cA, hA, hcell⟩ := am_arr hR hk
      rcases hty with rfl | rfl
      · exact W.bald (v := .int (M.2.1 k i.toNatClampNeg)) hx hb hcell ((hw.2.1 _ _ hA).1 N _) (fun q => by cases q) (am_in hi) (am_rd hi) rfl rfl hd (h H ls locs cells slots hR hS hL hN h1 h2 h3 h4)
      · exact W.zald (v := .int (M.2.1 k i.toNatClampNeg)) hx hb hcell ((hw.2.1 _ _ hA).1 N _) (fun q => by cases q) (am_in hi) (am_rd hi) rfl rfl hd (h H ls locs cells slots hR hS hL hN h1 h2 h3 h4)
    · next i a st =>
      obtain ⟨j, rfl, hj, hi, h⟩ := h
      obtain ⟨-, e2, e3, e4⟩ := hX.2.2.2.1 j hj
      have e1 : (Value.int i :: Value.retAddr (2 * j + 3) :: st).map (xcv X) = .int i :: .ref (xW X j) :: st.map (xcv X) := by rw [← e2]; rfl
      rw [e1]
      rw [e3] at hi
      refine va_tb hx hb (hw.2.2.2.1.1 j hj).2.2.2 hS hi rfl hd ?_
      have g := h H ls locs cells slots hR hS hL hN h1 h2 h3 h4
      rw [e4] at g
      exact g
    · exact h.elim
  case aaload =>
    split at h
    · next i k st =>
      obtain ⟨N, ty, a, hkd, hk, hi, ha, h⟩ := h
      obtain ⟨cA, hA, hcell⟩ := am_arr hR hk
      have hty : ty.isReference = true := by revert hkd; cases ty <;> simp [am_kd, FieldType.isReference]
      refine W.aald (v := .ref (xB X + a)) hx hb hcell ((hw.2.1 _ _ hA).1 N _) hty (fun q => by cases q) (am_in hi) ?_ rfl rfl hd (h H ls locs cells slots hR hS hL hN h1 h2 h3 h4)
      rw [am_rd hi]
      unfold am_val
      rw [hkd, ha]
      rfl
    · exact h.elim
  case iastore =>
    split at h
    · next x i k st =>
      obtain ⟨N, hk, hi, h⟩ := h
      obtain ⟨cA, hA, hcell⟩ := am_arr hR hk
      exact W.iast hx hb hcell ((hw.2.1 _ _ hA).1 N _) (fun q => by cases q) (am_in hi) rfl rfl hd fun H' e1 e2 e3 => h H' ls _ cells slots (am_Rep_ui hR hk rfl hA e1 e2 e3) (am_S_put hS e2 e3) hL hN h1 h2 h3 h4
    · exact h.elim
  case lastore =>
    split at h
    · next x i k st =>
      obtain ⟨N, hk, hi, h⟩ := h
      obtain ⟨cA, hA, hcell⟩ := am_arr hR hk
      exact W.last hx hb hcell ((hw.2.1 _ _ hA).1 N _) (fun q => by cases q) (am_in hi) rfl rfl hd fun H' e1 e2 e3 => h H' ls _ cells slots (am_Rep_ul hR hk rfl hA e1 e2 e3) (am_S_put hS e2 e3) hL hN h1 h2 h3 h4
    · exact h.elim
  case bastore =>
    split at h
    · next x i k st =>
      obtain ⟨N, ty, hty, hk, hi, h⟩ := h
      obtain ⟨cA, hA, hcell⟩ := am_arr hR hk
      rcases hty with rfl | rfl
      · exact W.bast hx hb hcell ((hw.2.1 _ _ hA).1 N _) (fun q => by cases q) (am_in hi) rfl rfl hd fun H' e1 e2 e3 => h H' ls _ cells slots (am_Rep_ui (x := vp_nar .byte x) hR hk rfl hA e1 e2 e3) (am_S_put hS e2 e3) hL hN h1 h2 h3 h4
      · exact W.zast hx hb hcell ((hw.2.1 _ _ hA).1 N _) (fun q => by cases q) (am_in hi) rfl rfl hd fun H' e1 e2 e3 => h H' ls _ cells slots (am_Rep_ui (x := vp_nar .boolean x) hR hk rfl hA e1 e2 e3) (am_S_put hS e2 e3) hL hN h1 h2 h3 h4
    · exact h.elim
  case aastore =>
    split at h
    · next x i k st =>
      obtain ⟨N, ci, hk, hv, hi, h⟩ := h
      obtain ⟨cA, hA, hcell⟩ := am_arr hR hk
      obtain ⟨r, hr, cellV, g1, g2, g3, -⟩ := hR.2.1 x _ hv
      obtain ⟨rC, rF, rN⟩ := r
      have hnm := (hG.2.2.1 _ _ _ _ hr).1
      have hcls := (hw.1 ci _ hr).2
      obtain ⟨kA, comp, k1, k2, k3, -⟩ := (hw.2.1 _ _ hA).2
      have hcomp : comp = (xD X).1 ci := by
        have z := hcls.1
        rw [hnm] at z
        exact Option.some.inj (k3.symm.trans z)
      subst hcomp
      obtain ⟨kC, hkC, -⟩ := hcls.2
      have hlt : i.toNatClampNeg < N := Nat.not_le.mp fun q => hi (Or.inr q)
      refine W.aast hx hb hcell (fun q z => by cases z) (fun z => by cases z) k1 k2 rfl hkC ⟨fun q => hi (Or.inl q), by rw [arrV_size]; exact hlt⟩ g1 (fun q z => by rw [g3] at z; cases z) (by rw [g2]; exact hkC) (by rw [g2]; exact va_assign hcls) rfl rfl hd fun H' e1 e2 e3 => ?_
      exact h H' ls _ cells slots (am_Rep_ur hR hk rfl hA e1 e2 e3) (am_S_put hS e2 e3) hL hN h1 h2 h3 h4
    · exact h.elim
  case arraylength =>
    split at h
    · next k st =>
      obtain ⟨N, ty, hk, h⟩ := h
      obtain ⟨cA, hA, hcell⟩ := am_arr hR hk
      exact W.alen hx hb hcell ((hw.2.1 _ _ hA).1 N _) (by rw [arrV_size]) rfl rfl hd (h H ls locs cells slots hR hS hL hN h1 h2 h3 h4)
    · next a st =>
      rcases h with ⟨rfl, h⟩ | ⟨j, rfl, hj, h⟩
      · have e1 : (Value.retAddr 0 :: st).map (xcv X) = .ref (xb X) :: st.map (xcv X) := by rw [← hX.2.1]; rfl
        rw [e1]
        have hbl : xb X < s.heap.size := by
          obtain ⟨scr, q1, -⟩ := hw.2.2.2.2.2.2.1
          exact (Array.getElem?_eq_some_iff.mp q1).1
        exact va_slen hx hb hw.2.2.2.2.2.2.1 hbl (Nat.not_le.mpr hX.2.2.1) hS hd (h H ls locs cells slots hR hS hL hN h1 h2 h3 h4)
      · obtain ⟨-, e2, e3, e4⟩ := hX.2.2.2.1 j hj
        have e1 : (Value.retAddr (2 * j + 3) :: st).map (xcv X) = .ref (xW X j) :: st.map (xcv X) := by rw [← e2]; rfl
        rw [e1]
        rw [e3] at h
        exact va_tlen hx hb (hw.2.2.2.1.1 j hj).2.2.2 hS rfl hd (h H ls locs cells slots hR hS hL hN h1 h2 h3 h4)
    · exact h.elim
  case ldc k =>
    split at h
    · next v hv => exact lv_ldc hx hb hown (hts _ (hG.2.2.2.1 _ _ _ hv)) hd (h H ls locs cells slots hR hS hL hN h1 h2 h3 h4)
    · next v hv =>
      obtain ⟨tx, a, q1, q2⟩ := hw.2.2.1 _ _ _ hv
      have g := h H ls locs cells slots hR hS hL hN h1 h2 h3 h4
      have e1 : (Value.retAddr v :: st).map (xcv X) = .ref a :: st.map (xcv X) := by rw [← q2]; rfl
      rw [e1] at g
      exact va_ldcS hx hb hown q1 hd g
    · exact h.elim
  case ldc_w k =>
    split at h
    · next v hv => exact lv_ldcw hx hb hown (hts _ (hG.2.2.2.1 _ _ _ hv)) hd (h H ls locs cells slots hR hS hL hN h1 h2 h3 h4)
    · exact h.elim
  case ldc2_w k =>
    split at h
    · next v hv => exact lv_ldc2 hx hb hown (hts _ (hG.2.2.2.1 _ _ _ hv)) hd (h H ls locs cells slots hR hS hL hN h1 h2 h3 h4)
    · exact h.elim
  case getstatic k =>
    split at h
    · next hv => exact va_gets hx hb hw.2.2.2.2.1 hS hown (hts _ (hG.2.2.2.1 _ _ _ hv)) (fun _ z => z) hd (h H ls locs cells slots hR hS hL hN h1 h2 h3 h4)
    · next hv => exact va_gets hx hb hw.2.2.2.2.2.1 hS hown (hts _ (hG.2.2.2.1 _ _ _ hv)) (fun _ z => z) hd (h H ls locs cells slots hR hS hL hN h1 h2 h3 h4)
    · exact h.elim
/-- a cell is made -/
theorem am_S_new {H H' : Heap} {locs : List Loc} (hS : va_S (xNew X) s.heap H locs) (e2 : H'.size = H.size + 1) (e3 : ∀ q, q < H.size → H'[q]? = H[q]?) : va_S (xNew X) s.heap H' locs :=
  ⟨Nat.le_trans hS.1 (by omega), fun q g1 g2 => (e3 q (Nat.lt_of_lt_of_le g1 hS.1)).trans (hS.2.1 q g1 g2), hS.2.2⟩
theorem am_val_0 {base : Nat} {ty : FieldType} {k j : Nat} (h : M.2.1 k j = 0 ∧ M.2.2 k j = 0 ∧ M.1.2 k j = none) (hf : am_kd ty ≠ 3) : am_val base ty M k j = defaultValue ty := by
  unfold am_val
  rw [h.1, h.2.1, h.2.2]
  cases ty <;> first | rfl | exact absurd rfl hf
def am_newI (i : Instr) : Bool := match i with
  | .new _ | .newarray _ | .anewarray _ => true
  | _ => false
theorem am_cb (a : ArrayType) : componentBytes (newarray.typeOf a) ≤ 8 := by cases a <;> decide
set_option maxHeartbeats 4000000 in
theorem am_sound_new (hG : am_G T) (hX : am_Xok X T) (hcx : am_Cx X T p s m args meth c y) (hl1 : lim.1 ≤ n0 + R.cells) (hl2 : lim.2 ≤ z0 + R.slots) (hno : ∀ ci j, am_kd (pTy (tP T) ci j) ≠ 3) (hna : ∀ y pc a n t, pCode (tP T) y pc = some (.newarray a, n, t) → am_kd (newarray.typeOf a) ≠ 3) {i : Instr} {n t : Nat} (hc : pCode (tP T) y pc = some (i, n, t)) (hp : am_newI i = true)
    (h : am_step (tP T) (xE X) (iOwn (pInf (tP T) y)) (iKnd (pInf (tP T) y)) (iRet (pInf (tP T) y)) lim C K (am_WW X T p l e R s m args below meth c n0 z0 lim Q) i t pc L st M) : am_WW X T p l e R s m args below meth c n0 z0 lim Q pc L st M := by
  intro H ls locs cells slots hR hS hL hN h1 h2 h3 h4
  obtain ⟨hx, hb, hown, hts, hlk, hin, hw, hret⟩ := hcx
  obtain ⟨hd, htg⟩ := hG.1 y pc i n t hc
  have hz := hR.1
  cases i <;> first | cases hp | skip
  all_goals (unfold am_step at h; dsimp only at h)
  case new k =>
    split at h
    · next ci hci =>
      obtain ⟨g1, g2, h⟩ := h
      obtain ⟨F, N, q1, q2⟩ := hG.2.2.2.2.1 _ _ _ hci
      obtain ⟨-, q3, q4, q5, q6, q7, q8⟩ := hG.2.2.1 _ _ _ _ q1
      have hKn := hw.1 _ _ q1
      subst q3
      refine W.newcK hx hb hown (hts _ q2) (hts _ q7) (hts _ q8) rfl hd (by omega) (by omega) hKn.2.1 rfl fun H1 kC hkC e1 z1 o1 => ?_
      have hsz : am_sz (tP T) (am_push M (.inl ci)) = am_sz (tP T) M + pNf (tP T) ci := am_sz_push _ _ _
      have hlen : (am_push M (.inl ci)).1.1.length = M.1.1.length + 1 := by simp [am_push]
      have g := h H1 ls locs (cells + 1) (slots + pNf (tP T) ci) (am_Rep.new hR z1 o1 ⟨_, q1, ?_⟩) (am_S_new hS z1 o1) hL hN (by omega) (by omega) (by omega) (by omega)
      · have e2 : (Value.ref M.1.1.length :: st).map (xcv X) = .ref H.size :: st.map (xcv X) := by rw [hz]; rfl
        rw [e2] at g
        exact g
      · rw [← hz]
        exact (u_born _ hts q4 hKn hkC e1 q5).to fun j _ => (am_val_0 (hR.2.2 _ (Nat.le_refl _) j) (hno _ _)).symm
    · exact h.elim
  case newarray a =>
    obtain ⟨v, st, rfl, g1, g2, g3, g4, h⟩ := am_i1_inv h
    have hac := hG.2.2.2.2.2.2.2.2.2 _ _ _ _ _ hc
    obtain ⟨cA', hA'⟩ := hX.2.2.2.2.1 _ hac
    refine W.newa hx hb (hts _ hac) rfl hd rfl g1 (by have := am_cb a; have h8 : v.toNatClampNeg * componentBytes (newarray.typeOf a) ≤ 100000 * 8 := Nat.mul_le_mul g2 this; omega) (by omega) (by omega) fun cA kA comp f1 f2 f3 => ?_
    have hcA : cA' = cA := by
      have z := (hw.2.1 _ _ hA').2
      have z2 : s.vm.findClass ("[" ++ (newarray.typeOf a).toString) = some cA' := by
        revert z
        cases a <;> exact id
      exact Option.some.inj (z2.symm.trans f1)
    subst hcA
    have hsz : am_sz (tP T) (am_push M (.inr (newarray.typeOf a, v.toNatClampNeg))) = am_sz (tP T) M + v.toNatClampNeg := am_sz_push _ _ _
    have hlen : (am_push M (.inr (newarray.typeOf a, v.toNatClampNeg))).1.1.length = M.1.1.length + 1 := by simp [am_push]
    have z1 : (H.push ({ cls := cA', slots := Array.replicate v.toNatClampNeg (defaultValue (newarray.typeOf a)), vm := .none } : Cell)).size = H.size + 1 := by simp
    have o1 : ∀ q, q < H.size → (H.push ({ cls := cA', slots := Array.replicate v.toNatClampNeg (defaultValue (newarray.typeOf a)), vm := .none } : Cell))[q]? = H[q]? := fun q hq => by rw [Array.getElem?_push, if_neg (Nat.ne_of_lt hq)]
    have g := h _ ls locs (cells + 1) (slots + v.toNatClampNeg) (am_Rep.new hR z1 o1 ⟨cA', hA', ?_⟩) (am_S_new hS z1 o1) hL hN (by omega) (by omega) (by omega) (by omega)
    · have e2 : (Value.ref M.1.1.length :: st).map (xcv X) = .ref H.size :: st.map (xcv X) := by rw [hz]; rfl
      rw [e2] at g
      exact g
    · rw [← hz, arrV_new]
      simp only [Array.getElem?_push_size]
      congr 2
      funext j
      exact (am_val_0 (hR.2.2 _ (Nat.le_refl _) j) (hna _ _ _ _ _ hc)).symm
  case anewarray k =>
    split at h
    · next ci hci =>
      obtain ⟨v, st, rfl, g1, g2, g3, g4, h⟩ := am_i1_inv h
      obtain ⟨F, N, q1, q2⟩ := hG.2.2.2.2.1 _ _ _ hci
      have hO := hG.2.2.2.2.2.2.2.2.1 _ _ _ _ _ _ hc hci
      obtain ⟨cA', hA'⟩ := hX.2.2.2.2.2 _ hO
      refine W.anew hx hb hown (hts _ q2) (va_AO.use (hw.2.2.2.2.2.2.2.1 _ hO)) rfl hd rfl g1 (by omega) (by omega) (by omega) fun cA kA comp f1 f2 f3 f4 => ?_
      have hcA : cA' = cA := by
        obtain ⟨_, _, -, -, -, z⟩ := (hw.2.1 _ _ hA').2
        exact Option.some.inj (z.symm.trans f1)
      subst hcA
      have hsz : am_sz (tP T) (am_push M (.inr (.object (pNm (tP T) ci), v.toNatClampNeg))) = am_sz (tP T) M + v.toNatClampNeg := am_sz_push _ _ _
      have hlen : (am_push M (.inr (.object (pNm (tP T) ci), v.toNatClampNeg))).1.1.length = M.1.1.length + 1 := by simp [am_push]
      have z1 : (H.push ({ cls := cA', slots := Array.replicate v.toNatClampNeg .null, vm := .none } : Cell)).size = H.size + 1 := by simp
      have o1 : ∀ q, q < H.size → (H.push ({ cls := cA', slots := Array.replicate v.toNatClampNeg .null, vm := .none } : Cell))[q]? = H[q]? := fun q hq => by rw [Array.getElem?_push, if_neg (Nat.ne_of_lt hq)]
      have g := h _ ls locs (cells + 1) (slots + v.toNatClampNeg) (am_Rep.new hR z1 o1 ⟨cA', hA', ?_⟩) (am_S_new hS z1 o1) hL hN (by omega) (by omega) (by omega) (by omega)
      · have e2 : (Value.ref M.1.1.length :: st).map (xcv X) = .ref H.size :: st.map (xcv X) := by rw [hz]; rfl
        rw [e2] at g
        exact g
      · rw [← hz, arrV_new]
        simp only [Array.getElem?_push_size]
        congr 2
        funext j
        exact (am_val_0 (ty := .object (pNm (tP T) ci)) (hR.2.2 _ (Nat.le_refl _) j) (fun z => by cases z)).symm
    · exact h.elim
end
end
section
/-! Calls and returns; the contract of every method out of its meaning. -/
section
variable {p : Program} {l : Launch} {e : Env} {R : Room} {s : State} {m : MethodId} {args : Array Value} {below : List Frame} {meth : Method} {c : Code} {Q : State → Prop}
variable {X : am_X} {T : am_T} {y n0 z0 : Nat} {lim : Nat × Nat} {C : am_C} {K : am_K} {pc : Nat} {L st : List Value} {M : am_M}
theorem am_cat (ht : am_tvok (xV X)) (v : Value) : (xcv X v).category = v.category := by
  cases v with
  | retAddr n =>
    show (xV X n).category = 1
    rcases ht n with h | ⟨a, h⟩ <;> rw [h] <;> rfl
  | _ => rfl
theorem am_cats (ht : am_tvok (xV X)) (st : List Value) : ((st.map (xcv X)).map fun v => v.category) = st.map fun v => v.category := by
  rw [List.map_map]
  exact List.map_congr_left fun v _ => am_cat ht v
theorem am_good (hG : am_G T) {ws : List Cond} (h : ∀ w ∈ ws, w ∈ tW T) : GoodIn (tW T) ws := fun w hw => ⟨h w hw, good_of_word (hG.2.2.2.2.2.2.2.1 w (h w hw))⟩
theorem am_pre {H : Heap} {locs : List Loc} {as : List Value} (hX : am_Xok X T) (hw : am_Wd X T s s.heap) (hR : xRep X T M H) (hS : va_S (xNew X) s.heap H locs) {U : State} (hU : U.heap = H) (hW : s.WarmedH U.vm) : am_Pc X T as M (as.map (xcv X)).toArray U :=
  ⟨rfl, by rw [hU]; exact hR, by rw [hU]; exact am_Wd.kept hX.2.2.1 (am_Wd.mv hW hw) hS.2.1⟩
theorem am_rcv1 {E : am_E} {P : am_P} {as : List Value} (h : am_rcv P E y as M) (hk : iKnd (pInf P y) = 1) : (∃ k as', as = .ref k :: as' ∧ M.1.1[k]? = some (.inl (iOwn (pInf P y)))) ∨ ∃ i as', as = .retAddr (2 * i + 2) :: as' ∧ i < E.2.1 ∧ pNm P (iOwn (pInf P y)) = "java/lang/String" := by
  unfold am_rcv at h
  rw [hk] at h
  cases as with
  | nil => exact (show False from h).elim
  | cons a t =>
    cases a with
    | ref k => exact Or.inl ⟨k, t, rfl, h⟩
    | retAddr z =>
      obtain ⟨i, rfl, h1, h2⟩ := (show ∃ i, z = 2 * i + 2 ∧ i < E.2.1 ∧ pNm P (iOwn (pInf P y)) = "java/lang/String" from h)
      exact Or.inr ⟨i, t, rfl, h1, h2⟩
    | _ => exact (show False from h).elim
theorem am_rcv2 {E : am_E} {P : am_P} {as : List Value} (h : am_rcv P E y as M) (hk : iKnd (pInf P y) = 2) : ∃ k as', as = .ref k :: as' := by
  unfold am_rcv at h
  rw [hk] at h
  cases as with
  | nil => exact (show False from h).elim
  | cons a t =>
    cases a with
    | ref k => exact ⟨k, t, rfl⟩
    | _ => exact (show False from h).elim
set_option maxHeartbeats 4000000 in
theorem am_sound_inv (hG : am_G T) (hX : am_Xok X T) (hcx : am_Cx X T p s m args meth c y) (hl1 : lim.1 ≤ n0 + R.cells) (hl2 : lim.2 ≤ z0 + R.slots) {d : Nat} (hfr : d + 1 ≤ R.frames) (hlo : 32 * d + 32 ≤ R.locals) (hC : ∀ y as M K, am_mok T y → C y as M K → as.length = iArg (pInf (tP T) y) ∧ am_Met X T l d y as M K) {k y' kn n t : Nat} {i : Instr}
    (hi : (i = .invokestatic k ∧ kn = 0) ∨ (i = .invokevirtual k ∧ kn = 1) ∨ (i = .invokespecial k ∧ kn = 2)) (hm : pMth (tP T) (iOwn (pInf (tP T) y)) k = some y') (hy2 : 4 ≤ y') (hc : pCode (tP T) y pc = some (i, n, t))
    (h : am_inv (tP T) (xE X) lim C (am_WW X T p l e R s m args below meth c n0 z0 lim Q) y' kn pc L st M) : am_WW X T p l e R s m args below meth c n0 z0 lim Q pc L st M := by
  intro H ls locs cells slots hR hS hL hN h1 h2 h3 h4
  obtain ⟨hx, hb, hown, hts, hlk, hin, hw, hret⟩ := hcx
  obtain ⟨hd, -⟩ := hG.1 y pc _ n t hc
  have hlnk := hG.2.2.2.2.2.1 _ _ _ hm
  have hmok := hG.2.2.2.2.2.2.1 _ _ _ hm hy2
  obtain ⟨m1, m2, m3, m4, m5, ⟨m6, m7, m8⟩, m9⟩ := id hmok
  have hlink : Cond.methodLink (pNm (tP T) (iOwn (pInf (tP T) y))) k (tN T y') ∈ tW T ∨ (iKnd (pInf (tP T) y') = 2 ∧ ∃ host, (pNm (tP T) (iOwn (pInf (tP T) y)), k, tN T y', host) ∈ tH T) := by
    match y', hy2, hlnk with
    | y'' + 4, _, hlnk => exact hlnk
  unfold am_inv at h
  split at h
  · next b1 b2 b3 =>
    have b1 : iArg (pInf (tP T) y') ≤ st.length := Nat.le_of_ble_eq_true b1
    have b2 := Nat.le_of_ble_eq_true b2
    have b3 : kn = iKnd (pInf (tP T) y') := Nat.eq_of_beq_eq_true b3
    obtain ⟨hrcv, hbud, h⟩ := h
    generalize has : (st.take (iArg (pInf (tP T) y'))).reverse = as at h hrcv
    generalize hrs : st.drop (iArg (pInf (tP T) y')) = rest at h b2
    obtain ⟨hal, hM⟩ := hC _ _ _ _ hmok h
    have hst : st = as.reverse ++ rest := by rw [← has, ← hrs, List.reverse_reverse, List.take_append_drop]
    have hroom : 2 * (F0 m pc ls (st.map (xcv X))).monitorRoom + ((rest.map (xcv X)).map fun v => v.category).sum ≤ 8 := lv_room (by rw [am_cats hX.1]; exact b2)
    have hsz : ls.size = c.maxLocals := hL.1.trans hN
    have hbd : cells + iCel (pInf (tP T) y') ≤ R.cells ∧ slots + iSlt (pInf (tP T) y') ≤ R.slots ∧ M.1.1.length + iCel (pInf (tP T) y') ≤ lim.1 ∧ am_sz (tP T) M + iSlt (pInf (tP T) y') ≤ lim.2 := by
      unfold am_bud at hbud
      split at hbud
      · next z1 z2 => rw [z1, z2]; omega
      · obtain ⟨u1, u2⟩ := hbud; omega
    have hRoom : (am_rm d (pInf (tP T) y')).frames + 1 ≤ R.frames ∧ 8 + (iMax (pInf (tP T) y') + 11) + (am_rm d (pInf (tP T) y')).locals ≤ R.locals := ⟨hfr, by show 8 + (_ + 11) + 32 * d ≤ _; omega⟩
    have next : ∀ (r : Option Value) (M' : am_M) (H1 : Heap) (locs1 : List Loc), am_WW X T p l e R s m args below meth c n0 z0 lim Q (pc + 3) L (r.toList ++ rest) M' → M'.1.1.length = M.1.1.length + iCel (pInf (tP T) y') → am_sz (tP T) M' = am_sz (tP T) M + iSlt (pInf (tP T) y') → xRep X T M' H1 → va_S (xNew X) s.heap H1 locs1 →
        W p l e R s m args below meth c H1 locs1 (cells + iCel (pInf (tP T) y')) (slots + iSlt (pInf (tP T) y')) Q (F0 m (pc + 3) ls ((r.map (xcv X)).toList ++ rest.map (xcv X))) := by
      intro r M' H1 locs1 hk hlen hs' hrep hS1
      have g := hk H1 ls locs1 (cells + iCel (pInf (tP T) y')) (slots + iSlt (pInf (tP T) y')) hrep hS1 hL hN (by omega) (by omega) (by omega) (by omega)
      have e2 : (r.toList ++ rest).map (xcv X) = (r.map (xcv X)).toList ++ rest.map (xcv X) := by cases r <;> simp
      rw [e2] at g
      exact g
    rcases hi with ⟨rfl, rfl⟩ | ⟨rfl, rfl⟩ | ⟨rfl, rfl⟩
    · rw [← b3] at m8 m9
      rw [if_pos rfl] at m8
      have hl : Cond.methodLink (pNm (tP T) (iOwn (pInf (tP T) y))) k (tN T y') ∈ tW T := by
        rcases hlink with z | ⟨z, -⟩
        · exact z
        · rw [← b3] at z; cases z
      have hgd : GoodIn (tW T) (va_wsS (pNm (tP T) (iOwn (pInf (tP T) y))) k (tN T y') (am_ws T y')) := am_good hG (by
        intro w hw'
        unfold va_wsS at hw'
        simp only [List.cons_append, List.nil_append, List.mem_cons] at hw'
        rcases hw' with rfl | rfl | rfl | rfl | z
        · exact hl
        · exact m9
        · exact m2
        · exact m1
        · exact z)
      exact am_after (va_runS (As := as.map (xcv X)) (rest := rest.map (xcv X)) ⟨hx, hb, rfl, hown, hts⟩ hM (va_cwS _ hts hgd rfl rfl rfl ⟨m6, m7, m8⟩ hRoom) ⟨am_blind X T as M, fun U hU hW => am_pre hX hw hR hS hU hW⟩ rfl (by simpa using hal) hsz (by show st.map (xcv X) = _; rw [hst]; simp) hroom hd ⟨hbd.1, hbd.2.1⟩) hS next
    · rw [← b3] at m8 m9
      rw [if_neg (by decide)] at m8
      obtain ⟨u1, u2, u3⟩ := m9
      have hl : Cond.methodLink (pNm (tP T) (iOwn (pInf (tP T) y))) k (tN T y') ∈ tW T := by
        rcases hlink with z | ⟨z, -⟩
        · exact z
        · rw [← b3] at z; cases z
      have hgd : GoodIn (tW T) (wsV (pNm (tP T) (iOwn (pInf (tP T) y))) k (tN T y').cls (tN T y') (am_ws T y')) := am_good hG (by
        intro w hw'
        unfold wsV at hw'
        simp only [List.cons_append, List.nil_append, List.mem_cons] at hw'
        rcases hw' with rfl | rfl | rfl | rfl | rfl | z
        · exact hl
        · exact u2
        · exact u3
        · exact m2
        · exact m1
        · exact z)
      have key : ∀ (b : Addr) (As : List Value), as.map (xcv X) = .ref b :: As → (∃ cellB : Cell, H[b]? = some cellB ∧ cellB.vm.isStatics = false ∧ s.vm.findClass (tN T y').cls = some cellB.cls) → W p l e R s m args below meth c H locs cells slots Q (F0 m pc ls (st.map (xcv X))) := by
        intro b As eA hB
        have hAl : As.length = iArg (pInf (tP T) y') - 1 := by
          have := congrArg List.length eA
          simp at this
          omega
        have hM' : Met l (tN T y') (am_ws T y') (am_rm d (pInf (tP T) y')) (am_Pc X T as M) (am_Qc X T y' M _) (iCel (pInf (tP T) y')) (iSlt (pInf (tP T) y')) (xNew X) := hM
        refine am_after (va_runV (As := As) (rest := rest.map (xcv X)) ⟨hx, hb, rfl, hown, hts⟩ hM' (cwV _ hts hgd rfl rfl rfl ⟨rfl, m6, m7, m8⟩ hRoom) ⟨am_blind X T as M, hB, fun U hU hW => ?_⟩ rfl hAl hsz ?_ hroom hd ⟨hbd.1, hbd.2.1⟩) hS next
        · rw [← eA]; exact am_pre hX hw hR hS hU hW
        · show st.map (xcv X) = _
          rw [hst, List.map_append, List.map_reverse, eA]
          simp
      rcases am_rcv1 hrcv b3.symm with ⟨k', as', rfl, hrk⟩ | ⟨i, as', rfl, hi', hnm⟩
      · refine key (xB X + k') (as'.map (xcv X)) rfl ?_
        obtain ⟨r, hr, cellV, g1, g2, g3, -⟩ := hR.2.1 _ _ hrk
        obtain ⟨rC, rF, rN⟩ := r
        have hnm := (hG.2.2.1 _ _ _ _ hr).1
        have hcls := (hw.1 _ _ hr).2.1
        rw [hnm] at hcls
        exact ⟨cellV, g1, by rw [g3]; rfl, by rw [m3, g2]; exact hcls⟩
      · have e1 := (hX.2.2.2.1 i hi').1
        refine key (xK X i) (as'.map (xcv X)) (by rw [← e1]; rfl) ?_
        rw [m3, hnm]
        exact vk_recv hw.2.2.2.1 hi' hS
    · rw [← b3] at m8 m9
      rw [if_neg (by decide)] at m8
      obtain ⟨u1, u2, u3, u4⟩ := m9
      have hgd : GoodIn (tW T) (am_ws T y') := am_good hG (by
        intro w hw'
        rcases List.mem_cons.mp hw' with rfl | z
        · exact m1
        · exact z)
      obtain ⟨k', as', rfl⟩ := am_rcv2 hrcv b3.symm
      · have hAl : (as'.map (xcv X)).length = iArg (pInf (tP T) y') - 1 := by simp at hal ⊢; omega
        have hM' : Met l (tN T y') (Cond.code (tN T y') (tB T y') (iMax (pInf (tP T) y')) none :: tW T) (am_rm d (pInf (tP T) y')) (am_Pc X T (.ref k' :: as') M) (am_Qc X T y' M (fun r M' => am_WW X T p l e R s m args below meth c n0 z0 lim Q (pc + 3) L (r.toList ++ rest) M')) (iCel (pInf (tP T) y')) (iSlt (pInf (tP T) y')) (xNew X) := by rw [← u4]; exact hM
        have hgd' : GoodIn (tW T) (Cond.code (tN T y') (tB T y') (iMax (pInf (tP T) y')) none :: tW T) := by rw [← u4]; exact hgd
        have hstk : (F0 m pc ls (st.map (xcv X))).stack = (as'.map (xcv X)).reverse ++ .ref (xB X + k') :: rest.map (xcv X) := by
          show st.map (xcv X) = _
          rw [hst]
          simp
          rfl
        rcases hlink with hl | ⟨-, host, hh⟩
        · exact am_after (va_runI (b := xB X + k') (As := as'.map (xcv X)) (rest := rest.map (xcv X)) ⟨hx, hb, rfl, hown, hts⟩ hM' (cwI _ hts hgd' rfl rfl rfl (hts _ m2) (hts _ hl) (hts _ u2) u3 ⟨m6, m7, m8⟩ hRoom) ⟨am_blind X T _ M, fun U hU hW => am_pre hX hw hR hS hU hW⟩ rfl hAl hsz hstk hroom hd ⟨hbd.1, hbd.2.1⟩) hS next
        · exact am_after (va_runIN (b := xB X + k') (As := as'.map (xcv X)) (rest := rest.map (xcv X)) ⟨hx, hb, rfl, hown, hts⟩ hM' ⟨va_cnB _ hts hgd' rfl rfl rfl (hw.2.2.2.2.2.2.2.2 _ hh) (hts _ m2) ⟨m6, m7, m8⟩ hRoom, u3, hts _ u2⟩ ⟨am_blind X T _ M, fun U hU hW => am_pre hX hw hR hS hU hW⟩ rfl hAl hsz hstk hroom hd ⟨hbd.1, hbd.2.1⟩) hS next
  · exact h.elim
set_option maxHeartbeats 4000000 in
theorem am_sound_obj (hG : am_G T) (hX : am_Xok X T) (hcx : am_Cx X T p s m args meth c y) (hfr : 1 ≤ R.frames) (hlo : 32 ≤ R.locals) {k n t : Nat} (hm : pMth (tP T) (iOwn (pInf (tP T) y)) k = some 0) (hc : pCode (tP T) y pc = some (.invokespecial k, n, t))
    (h : am_obj (am_WW X T p l e R s m args below meth c n0 z0 lim Q) pc L st M) : am_WW X T p l e R s m args below meth c n0 z0 lim Q pc L st M := by
  intro H ls locs cells slots hR hS hL hN h1 h2 h3 h4
  obtain ⟨hx, hb, hown, hts, hlk, hin, hw, hret⟩ := hcx
  obtain ⟨hd, -⟩ := hG.1 y pc _ n t hc
  obtain ⟨q1, q2, q3⟩ := hG.2.2.2.2.2.1 _ _ _ hm
  unfold am_obj at h
  split at h
  · next a st =>
    split at h
    · next b =>
      have b := Nat.le_of_ble_eq_true b
      refine W.objInit hx hb hown (hts _ q1) (hts _ q2) (hts _ q3) rfl (hL.1.trans hN) rfl hd hfr ?_ (h H ls locs cells slots hR hS hL hN h1 h2 h3 h4)
      rw [am_cats hX.1]
      show 2 * 0 + _ + 12 ≤ _
      omega
    · exact h.elim
  · exact h.elim
set_option maxHeartbeats 4000000 in
theorem am_sound_mm (hG : am_G T) (hX : am_Xok X T) (hcx : am_Cx X T p s m args meth c y) (hl1 : lim.1 ≤ n0 + R.cells) (hl2 : lim.2 ≤ z0 + R.slots) (hfr : 1 ≤ R.frames) (hlo : 32 ≤ R.locals) {k n t : Nat} (hc : pCode (tP T) y pc = some (.invokestatic k, n, t))
    (h : (pMth (tP T) (iOwn (pInf (tP T) y)) k = some 2 ∧ am_mm (am_WW X T p l e R s m args below meth c n0 z0 lim Q) (fun x y => if x < y then y else x) pc L st M) ∨ (pMth (tP T) (iOwn (pInf (tP T) y)) k = some 3 ∧ am_mm (am_WW X T p l e R s m args below meth c n0 z0 lim Q) (fun x y => if y < x then y else x) pc L st M)) : am_WW X T p l e R s m args below meth c n0 z0 lim Q pc L st M := by
  intro H ls locs cells slots hR hS hL hN h1 h2 h3 h4
  obtain ⟨hx, hb, hown, hts, hlk, hin, hw, hret⟩ := hcx
  obtain ⟨hd, -⟩ := hG.1 y pc _ n t hc
  have hml : c.maxLocals = ls.size := (hL.1.trans hN).symm
  rcases h with ⟨hm, h⟩ | ⟨hm, h⟩
  · obtain ⟨q1, q2, q3, q4⟩ := hG.2.2.2.2.2.1 _ _ _ hm
    unfold am_mm at h
    split at h
    · next y' x st =>
      split at h
      · next b =>
        have b := Nat.le_of_ble_eq_true b
        exact va_mmax hx hb hml hown (hts _ q1) (hts _ q2) (hts _ q3) (hts _ q4) hfr (by rw [am_cats hX.1]; omega) (by omega) (by omega) hd (h H ls locs cells slots hR hS hL hN h1 h2 h3 h4)
      · exact h.elim
    · exact h.elim
  · obtain ⟨q1, q2, q3, q4⟩ := hG.2.2.2.2.2.1 _ _ _ hm
    unfold am_mm at h
    split at h
    · next y' x st =>
      split at h
      · next b =>
        have b := Nat.le_of_ble_eq_true b
        exact va_mmin hx hb hml hown (hts _ q1) (hts _ q2) (hts _ q3) (hts _ q4) hfr (by rw [am_cats hX.1]; omega) (by omega) (by omega) hd (h H ls locs cells slots hR hS hL hN h1 h2 h3 h4)
      · exact h.elim
    · exact h.elim
set_option maxHeartbeats 4000000 in
theorem am_sound_cpy (hG : am_G T) (hX : am_Xok X T) (hcx : am_Cx X T p s m args meth c y) (hfr : 1 ≤ R.frames) (hlo : 32 ≤ R.locals) {k n t : Nat} (hm : pMth (tP T) (iOwn (pInf (tP T) y)) k = some 1) (hc : pCode (tP T) y pc = some (.invokestatic k, n, t))
    (h : am_cpy (am_WW X T p l e R s m args below meth c n0 z0 lim Q) pc L st M) : am_WW X T p l e R s m args below meth c n0 z0 lim Q pc L st M := by
  intro H ls locs cells slots hR hS hL hN h1 h2 h3 h4
  obtain ⟨hx, hb, hown, hts, hlk, hin, hw, hret⟩ := hcx
  obtain ⟨hd, -⟩ := hG.1 y pc _ n t hc
  obtain ⟨q1, q2, q3, q4⟩ := hG.2.2.2.2.2.1 _ _ _ hm
  have hml : c.maxLocals = ls.size := (hL.1.trans hN).symm
  unfold am_cpy at h
  split at h
  · next v dp dd sp ss st =>
    split at h
    · next b =>
      have b := Nat.le_of_ble_eq_true b
      have hlo' : ((st.map (xcv X)).map fun v => v.category).sum + (nativeFrameWords "java/lang/System" "arraycopy" 5 + 11) ≤ R.locals := by
        rw [am_cats hX.1]
        have e9 : nativeFrameWords "java/lang/System" "arraycopy" 5 = 7 := by decide
        rw [e9]
        omega
      obtain ⟨r1, r2, r3, h⟩ := h
      have hSx : ∀ (H1 : Heap) (locs1 : List Loc), H1.size = H.size → (∀ q, q ≠ xB X + dd → H1[q]? = H[q]?) → (∀ q ∈ locs1, q ∈ locs ∨ q.base = xB X + dd) → va_S (xNew X) s.heap H1 locs1 := by
        intro H1 locs1 e2 e3 hl
        refine ⟨by rw [e2]; exact hS.1, fun q g1 g2 => ?_, fun q hq => ?_⟩
        · rw [e3 q (fun z => g2 (by rw [z]; exact Nat.le_add_right _ _))]
          exact hS.2.1 q g1 g2
        · rcases hl q hq with z | z
          · exact hS.2.2 q z
          · rw [z]; exact Nat.le_add_right _ _
      rcases h with ⟨a0, a1, g0, g1, g2, g3, h⟩ | ⟨a0, a1, g0, g1, g2, g3, h⟩
      · obtain ⟨cA, hA, hc0⟩ := am_arr hR g0
        obtain ⟨cA', hA', hc1⟩ := am_arr hR g1
        cases hA.symm.trans hA'
        refine am_Wcopy (fun z : Int32 => Value.int z) .int rfl (fun _ => rfl) (fun _ _ _ => trivial) hx hb hml hown (hts _ q1) (hts _ q2) (hts _ q3) (hts _ q4) (hw.2.1 _ _ hA).1 hc0 hc1 r1 r2 r3 g2 g3 hfr hlo' hd fun H1 locs1 e1 e2 e3 hl => ?_
        refine h H1 ls locs1 cells slots (am_Rep.put hR rfl g1 (fun k' hk' j => ⟨?_, rfl, rfl⟩) e2 e3 ⟨cA, hA, ?_⟩) (hSx H1 locs1 e2 e3 hl) hL hN h1 h2 h3 h4
        · simp [am_ci, hk']
        · rw [e1]
          congr 2
          funext j
          simp [am_val, am_kd, am_ci]
      · obtain ⟨cA, hA, hc0⟩ := am_arr hR g0
        obtain ⟨cA', hA', hc1⟩ := am_arr hR g1
        cases hA.symm.trans hA'
        refine am_Wcopy (fun z : Int64 => Value.long z) .long rfl (fun _ => rfl) (fun _ _ _ => trivial) hx hb hml hown (hts _ q1) (hts _ q2) (hts _ q3) (hts _ q4) (hw.2.1 _ _ hA).1 hc0 hc1 r1 r2 r3 g2 g3 hfr hlo' hd fun H1 locs1 e1 e2 e3 hl => ?_
        refine h H1 ls locs1 cells slots (am_Rep.put hR rfl g1 (fun k' hk' j => ⟨rfl, ?_, rfl⟩) e2 e3 ⟨cA, hA, ?_⟩) (hSx H1 locs1 e2 e3 hl) hL hN h1 h2 h3 h4
        · simp [am_cl, hk']
        · rw [e1]
          congr 2
          funext j
          simp [am_val, am_kd, am_cl]
    · exact h.elim
  · exact h.elim
end
end
section
/-! All steps; all methods. -/
def am_retI (i : Instr) : Bool := match i with
  | .ireturn | .lreturn | .return_ => true
  | _ => false
section
variable {p : Program} {l : Launch} {e : Env} {R : Room} {s : State} {m : MethodId} {args : Array Value} {below : List Frame} {meth : Method} {c : Code} {Q : State → Prop}
variable {X : am_X} {T : am_T} {y n0 z0 : Nat} {lim : Nat × Nat} {C : am_C} {K : am_K}
/-- a step that we take as sound -/
def am_ok1 (X : am_X) (T : am_T) (p : Program) (l : Launch) (e : Env) (R : Room) (s : State) (m : MethodId) (args : Array Value) (below : List Frame) (meth : Method) (c : Code) (Q : State → Prop) (y n0 z0 : Nat) (lim : Nat × Nat) (C : am_C) (K : am_K) (i : Instr) : Prop :=
  ∀ (pc : Nat) (L st : List Value) (M : am_M) (n t : Nat), pCode (tP T) y pc = some (i, n, t) → am_step (tP T) (xE X) (iOwn (pInf (tP T) y)) (iKnd (pInf (tP T) y)) (iRet (pInf (tP T) y)) lim C K (am_WW X T p l e R s m args below meth c n0 z0 lim Q) i t pc L st M → am_WW X T p l e R s m args below meth c n0 z0 lim Q pc L st M
theorem am_inv_2 {P : am_P} {E : am_E} {R' : am_R} {kn pc : Nat} {L st : List Value} {M : am_M} (h0 : ∀ y, y < 4 → iKnd (pInf P y) = 3) (hk : kn < 3) (h : am_inv P E lim C R' y kn pc L st M) : 4 ≤ y := by
  unfold am_inv at h
  split at h
  · next b1 b2 b3 =>
    have b3 : kn = iKnd (pInf P y) := Nat.eq_of_beq_eq_true b3
    rcases Nat.lt_or_ge y 4 with z | z
    · have := h0 y z
      omega
    · exact z
  · exact h.elim
set_option maxHeartbeats 4000000 in
theorem am_sound (h01 : ∀ y, y < 4 → iKnd (pInf (tP T) y) = 3) (hG : am_G T) (hX : am_Xok X T) (hcx : am_Cx X T p s m args meth c y) (hl1 : lim.1 ≤ n0 + R.cells) (hl2 : lim.2 ≤ z0 + R.slots) (hno : ∀ ci j, am_kd (pTy (tP T) ci j) ≠ 3) (hna : ∀ y pc a n t, pCode (tP T) y pc = some (.newarray a, n, t) → am_kd (newarray.typeOf a) ≠ 3) {d : Nat} (hfr : d + 1 ≤ R.frames) (hlo : 32 * d + 32 ≤ R.locals) (hC : ∀ y as M K, am_mok T y → C y as M K → as.length = iArg (pInf (tP T) y) ∧ am_Met X T l d y as M K)
    (hRet : ∀ i, am_retI i = true → am_ok1 X T p l e R s m args below meth c Q y n0 z0 lim C K i) (hMul : ∀ k j, am_ok1 X T p l e R s m args below meth c Q y n0 z0 lim C K (.multianewarray k j))
    {pc : Nat} {L st : List Value} {M : am_M} (h : am_wp (tP T) (xE X) y lim C K pc L st M) : am_WW X T p l e R s m args below meth c n0 z0 lim Q pc L st M := by
  refine h _ fun pc L st M i n t hc hs => ?_
  cases i
  all_goals first
    | exact am_sound1 hG hX hcx hc rfl hs
    | exact am_sound_arr hG hX hcx hc rfl hs
    | exact am_sound_new hG hX hcx hl1 hl2 hno hna hc rfl hs
    | exact am_sound_fld hG hX hcx hc hs
    | exact am_sound_put hG hX hcx hc hs
    | exact hRet _ rfl _ _ _ _ _ _ hc hs
    | exact hMul _ _ _ _ _ _ _ _ hc hs
    | exact (show False from hs).elim
    | skip
  case invokestatic k =>
    unfold am_step at hs
    dsimp only at hs
    split at hs
    · next hm => exact am_sound_cpy hG hX hcx (by omega) (by omega) hm hc hs
    · next hm => exact am_sound_mm hG hX hcx hl1 hl2 (by omega) (by omega) hc (Or.inl ⟨hm, hs⟩)
    · next hm => exact am_sound_mm hG hX hcx hl1 hl2 (by omega) (by omega) hc (Or.inr ⟨hm, hs⟩)
    · next y' _ _ _ hm => exact am_sound_inv hG hX hcx hl1 hl2 hfr hlo hC (Or.inl ⟨rfl, rfl⟩) hm (am_inv_2 h01 (by omega) hs) hc hs
    · exact hs.elim
  case invokevirtual k =>
    unfold am_step at hs
    dsimp only at hs
    split at hs
    · next y' hm =>
      exact am_sound_inv hG hX hcx hl1 hl2 hfr hlo hC (Or.inr (Or.inl ⟨rfl, rfl⟩)) hm (am_inv_2 h01 (by omega) hs) hc hs
    · exact hs.elim
  case invokespecial k =>
    unfold am_step at hs
    dsimp only at hs
    split at hs
    · next hm => exact am_sound_obj hG hX hcx (by omega) (by omega) hm hc hs
    · next y' hne hm => exact am_sound_inv hG hX hcx hl1 hl2 hfr hlo hC (Or.inr (Or.inr ⟨rfl, rfl⟩)) hm (am_inv_2 h01 (by omega) hs) hc hs
    · exact hs.elim
/-- the return of a method, as its contract has it -/
theorem am_ret {M0 : am_M} {K0 : am_K} (hG : am_G T) (hcx : am_Cx X T p s m args meth c y)
    (hK : K = fun r M' => M'.1.1.length = M0.1.1.length + iCel (pInf (tP T) y) ∧ am_sz (tP T) M' = am_sz (tP T) M0 + iSlt (pInf (tP T) y) ∧ K0 r M') (i : Instr) (hi : am_retI i = true) :
    am_ok1 X T p l e R s m args below meth c (MQ below (am_Qc X T y M0 K0) args s (iCel (pInf (tP T) y)) (iSlt (pInf (tP T) y)) (xNew X)) y M0.1.1.length (am_sz (tP T) M0) lim C K i := by
  intro pc L st M n t hc h H ls locs cells slots hR hS hL hN h1 h2 h3 h4
  obtain ⟨hx, hb, hown, hts, hlk, hin, hw, hret⟩ := hcx
  obtain ⟨hd, -⟩ := hG.1 y pc i n t hc
  have fin : ∀ (r : Option Value) (v : Option Value), K r M → v = r.map (xcv X) → cells = iCel (pInf (tP T) y) ∧ slots = iSlt (pInf (tP T) y) ∧ ∀ t : State, t.heap = H → s.WarmedH t.vm → am_Qc X T y M0 K0 args s (.returned v) t := by
    intro r v hk hv
    rw [hK] at hk
    obtain ⟨k1, k2, k3⟩ := hk
    refine ⟨by omega, by omega, fun t ht _ => ⟨⟨r, M, by rw [hv], k3, k1, k2, by rw [ht]; exact hR⟩, hS.F ht⟩⟩
  cases i <;> first | cases hi | skip
  all_goals (unfold am_step at h; dsimp only at h)
  case ireturn =>
    split at h
    · next ty x hr =>
      obtain ⟨hf, hk⟩ := h
      obtain ⟨rfl, rfl, hq⟩ := fin (some (.int x)) (some (.int x)) hk rfl
      exact W.zret hx hb (hret.trans hr) (am_fit_ok hf).1 hq hS.2.2 hd hlk
    · exact h.elim
  case lreturn =>
    split at h
    · next x hr =>
      obtain ⟨rfl, rfl, hq⟩ := fin (some (.long x)) (some (.long x)) h rfl
      exact W.lret hx hb (hret.trans hr) hq hS.2.2 hd hlk
    · exact h.elim
  case return_ =>
    split at h
    · next hr =>
      obtain ⟨rfl, rfl, hq⟩ := fin none none h rfl
      exact W.vret hx hb (hret.trans hr) hq hS.2.2 hd hlk
    · exact h.elim
end
/-- what is still wanted of 'new T[n][m]' -/
def am_mul (X : am_X) (T : am_T) (l : Launch) : Prop := ∀ (p : Program) (e : Env) (R : Room) (s : State) (m : MethodId) (args : Array Value) (below : List Frame) (meth : Method) (c : Code) (Q : State → Prop) (y n0 z0 : Nat) (lim : Nat × Nat) (C : am_C) (K : am_K) (k j : Nat),
  am_Cx X T p s m args meth c y → lim.1 ≤ n0 + R.cells → lim.2 ≤ z0 + R.slots → am_ok1 X T p l e R s m args below meth c Q y n0 z0 lim C K (.multianewarray k j)
set_option maxHeartbeats 4000000 in
/-- every method meets what its meaning says -/
theorem am_sound_call {X : am_X} {T : am_T} {l : Launch} (h01 : ∀ y, y < 4 → iKnd (pInf (tP T) y) = 3) (hG : am_G T) (hX : am_Xok X T) (hno : ∀ ci j, am_kd (pTy (tP T) ci j) ≠ 3) (hna : ∀ y pc a n t, pCode (tP T) y pc = some (.newarray a, n, t) → am_kd (newarray.typeOf a) ≠ 3) (hMul : am_mul X T l) :
    ∀ (d y : Nat) (as : List Value) (M : am_M) (K : am_K), am_mok T y → am_call (tP T) (xE X) d y as M K → as.length = iArg (pInf (tP T) y) ∧ am_Met X T l d y as M K
  | 0, _, _, _, _, _, h => h.elim
  | d + 1, y, as, M, K, hmok, h => by
    obtain ⟨c1, c2, c3, h⟩ := h
    refine ⟨c2, ?_⟩
    obtain ⟨m1, m2, m3, m4, m5, -, m9⟩ := hmok
    refine Met.ofW (cc := tB T y) (maxL := iMax (pInf (tP T) y)) (ret := iRet (pInf (tP T) y)) m5 rfl ?_
    intro p e s m args below meth c s₁ B hml hv
    obtain ⟨rfl, hrep, hwd⟩ := hv
    have hts := atoms_spec (ws := am_ws T y) B.pre
    have hcx : am_Cx X T p s m (as.map (xcv X)).toArray meth c y := by
      refine ⟨B.exec, B.bytes, ?_, fun w hw => hts w (List.mem_cons_of_mem _ hw), B.notSynchronized, fun hk => ?_, hwd, B.returns⟩
      · rw [← m3]; exact findClass_of_methodNamed B.named
      · rw [hk] at m9
        rw [(name_of_methodNamed B.named B.method).1]
        exact m9.2.2.1
    rw [lg_entry_eq]
    have hLH := am_LH.ent (base := xB X) (n := iMax (pInf (tP T) y)) hX.1 c3 c1
    have hlen : (am_ent (iMax (pInf (tP T) y)) as).length = c.maxLocals := by
      rw [hml]; unfold am_ent; simp; omega
    refine am_sound (R := (headSpec (am_ws T y) (am_rm (d + 1) (pInf (tP T) y))).room) (d := d) h01 hG hX hcx (Nat.le_refl _) (Nat.le_refl _) hno hna (Nat.le_refl _) (by show 32 * d + 32 ≤ 32 * (d + 1); omega) (fun y as M K hm hc => am_sound_call h01 hG hX hno hna hMul d y as M K hm hc) (fun i hi => ?_) (fun k j => hMul _ _ _ _ _ _ _ _ _ _ _ _ _ _ _ _ _ _ hcx (Nat.le_refl _) (Nat.le_refl _)) h s.heap _ [] 0 0 hrep va_S.rf hLH hlen (by omega) (by omega) (by omega) (by omega)
    exact am_ret hG hcx rfl i hi
end
section
/-! Locals that nobody reads may hold anything. -/
def am_le (L L' : List Value) : Prop := L.length = L'.length ∧ ∀ (i : Nat) (v : Value), L[i]? = some v → am_isv v = true → L'[i]? = some v
theorem am_le_rf (L : List Value) : am_le L L := ⟨rfl, fun _ _ h _ => h⟩
theorem am_le_nil : am_le [] [] := am_le_rf []
theorem am_le_cons {a : Value} {L L' : List Value} (h : am_le L L') : am_le (a :: L) (a :: L') := by
  refine ⟨by simp [h.1], fun i v hi hv => ?_⟩
  match i, hi with
  | 0, hi => exact hi
  | i + 1, hi => exact h.2 i v hi hv
theorem am_le_mk {a : Value} {L L' : List Value} (h : am_le L L') : am_le (am_mk :: L) (a :: L') := by
  refine ⟨by simp [h.1], fun i v hi hv => ?_⟩
  match i, hi with
  | 0, hi => simp at hi; subst hi; cases hv
  | i + 1, hi => exact h.2 i v hi hv
theorem am_le_set {L L' : List Value} (h : am_le L L') (k : Nat) (v : Value) : am_le (am_set L k v) (am_set L' k v) := by
  have hl : ∀ (A : List Value), (am_set A k v).length = A.length := fun A => by unfold am_set; split; simp; split <;> simp
  refine ⟨by rw [hl, hl]; exact h.1, fun i u hi hu => ?_⟩
  have hlt : i < L.length := by have := (List.getElem?_eq_some_iff.mp hi).1; rw [hl] at this; exact this
  have hlt' : i < L'.length := by rw [← h.1]; exact hlt
  cases k with
  | zero =>
    unfold am_set at hi ⊢
    dsimp only at hi ⊢
    rw [List.getElem?_set] at hi ⊢
    by_cases e : 0 = i
    · subst e; simp only [if_true] at hi ⊢; simp [hlt] at hi; simp [hlt', hi]
    · simp only [e, if_false] at hi ⊢; exact h.2 i u hi hu
  | succ j =>
    by_cases e : j + 1 = i
    · subst e
      have e1 : (am_set L (j + 1) v)[j + 1]? = some v := by
        unfold am_set; dsimp only; split <;> (rw [List.getElem?_set]; simp [hlt])
      have e2 : (am_set L' (j + 1) v)[j + 1]? = some v := by
        unfold am_set; dsimp only; split <;> (rw [List.getElem?_set]; simp [hlt'])
      rw [e1] at hi
      rw [e2]
      exact hi
    · by_cases e' : j = i
      · subst e'
        unfold am_set at hi
        dsimp only at hi
        split at hi
        · rw [List.getElem?_set_ne e, List.getElem?_set] at hi
          simp [hlt] at hi
          subst hi
          cases hu
        · next hno =>
          rw [List.getElem?_set_ne e] at hi
          have h2 := h.2 _ u hi hu
          unfold am_set
          dsimp only
          split
          · next x hx =>
            rw [h2] at hx
            cases hx
            exact absurd hi (hno x)
          · rw [List.getElem?_set_ne e]; exact h2
      · have e1 : (am_set L (j + 1) v)[i]? = L[i]? := by
          unfold am_set; dsimp only; split
          · rw [List.getElem?_set_ne e, List.getElem?_set_ne e']
          · rw [List.getElem?_set_ne e]
        have e2 : (am_set L' (j + 1) v)[i]? = L'[i]? := by
          unfold am_set; dsimp only; split
          · rw [List.getElem?_set_ne e, List.getElem?_set_ne e']
          · rw [List.getElem?_set_ne e]
        rw [e1] at hi
        rw [e2]
        exact h.2 i u hi hu
theorem am_le_set2 {L L' : List Value} (h : am_le L L') (k : Nat) (v : Value) : am_le (am_set2 L k v) (am_set2 L' k v) := by
  obtain ⟨h1, h2⟩ := am_le_set h k v
  refine ⟨by simp [am_set2, h1], fun i u hi hu => ?_⟩
  unfold am_set2 at hi ⊢
  by_cases e : k + 1 = i
  · subst e
    rw [List.getElem?_set] at hi
    simp at hi
    obtain ⟨-, rfl⟩ := hi
    cases hu
  · rw [List.getElem?_set_ne e] at hi ⊢
    exact h2 i u hi hu
section
variable {P : am_P} {E : am_E} {own kn : Nat} {ret : Option FieldType} {lim : Nat × Nat} {C : am_C} {K : am_K} {R R' : am_R} {L L' : List Value}
theorem am_stI_weak {st : List Value} {k : Nat} {F F' : List Value → List Value → Prop} (hl : am_le L L') (h : ∀ A A' b, am_le A A' → F A b → F' A' b) : am_stI L k st F → am_stI L' k st F' := by
  unfold am_stI; rw [hl.1]; split
  · exact h _ _ _ (am_le_set hl _ _)
  · exact id
theorem am_stL_weak {st : List Value} {k : Nat} {F F' : List Value → List Value → Prop} (hl : am_le L L') (h : ∀ A A' b, am_le A A' → F A b → F' A' b) : am_stL L k st F → am_stL L' k st F' := by
  unfold am_stL; rw [hl.1]; split
  · exact h _ _ _ (am_le_set2 hl _ _)
  · exact id
theorem am_stA_weak {st : List Value} {k : Nat} {F F' : List Value → List Value → Prop} (hl : am_le L L') (h : ∀ A A' b, am_le A A' → F A b → F' A' b) : am_stA L k st F → am_stA L' k st F' := by
  unfold am_stA; rw [hl.1]; split
  · exact h _ _ _ (am_le_set hl _ _)
  · exact h _ _ _ (am_le_set hl _ _)
  · exact id
theorem am_ldI_weak {k : Nat} {F F' : Value → Prop} (hl : am_le L L') (h : ∀ v, F v → F' v) (g : am_ldI L k F) : am_ldI L' k F' := by
  obtain ⟨x, e1, g⟩ := am_ldI_inv g
  unfold am_ldI; rw [hl.2 _ _ e1 rfl]; exact h _ g
theorem am_ldL_weak {k : Nat} {F F' : Value → Prop} (hl : am_le L L') (h : ∀ v, F v → F' v) (g : am_ldL L k F) : am_ldL L' k F' := by
  obtain ⟨x, e1, g⟩ := am_ldL_inv g
  unfold am_ldL; rw [hl.2 _ _ e1 rfl]; exact h _ g
theorem am_ldA_weak {k : Nat} {F F' : Value → Prop} (hl : am_le L L') (h : ∀ v, F v → F' v) (g : am_ldA L k F) : am_ldA L' k F' := by
  rcases am_ldA_inv g with ⟨x, e1, g⟩ | ⟨x, e1, g⟩
  · unfold am_ldA; rw [hl.2 _ _ e1 rfl]; exact h _ g
  · unfold am_ldA; rw [hl.2 _ _ e1 rfl]; exact h _ g
def am_locI (i : Instr) : Bool := match i with
  | .iload_n _ | .iload _ | .lload_n _ | .lload _ | .aload_n _ | .aload _ | .istore_n _ | .istore _ | .lstore_n _ | .lstore _ | .astore_n _ | .astore _ | .iinc _ _ => true
  | _ => false
/-- a step that does not touch the locals, seen with other locals -/
theorem am_step_L {i : Instr} {t pc : Nat} {st : List Value} {M : am_M} (hi : am_locI i = false) (hl : am_le L L') (hC : am_mC C) (hR : ∀ pc st M, R pc L st M → R' pc L' st M) :
    am_step P E own kn ret lim C K R i t pc L st M → am_step P E own kn ret lim C K R' i t pc L' st M := by
  have key : ∀ Q : am_R, am_step P E own kn ret lim C K (fun pc _ st M => Q pc L st M) i t pc L st M ↔ am_step P E own kn ret lim C K (fun pc _ st M => Q pc L st M) i t pc L' st M := by
    intro Q
    cases i <;> first | exact absurd (show true = false from hi) (by decide) | exact Iff.rfl
  intro h
  have h1 : am_step P E own kn ret lim C K (fun pc _ st M => R pc L st M) i t pc L st M := by
    cases i <;> first | exact absurd (show true = false from hi) (by decide) | exact h
  have h2 := (key R).mp h1
  have h3 : am_step P E own kn ret lim C K (fun pc _ st M => R' pc L' st M) i t pc L' st M := am_step_mono hC (fun _ _ h => h) (fun pc _ st M g => hR pc st M g) h2
  cases i <;> first | exact absurd (show true = false from hi) (by decide) | exact h3
theorem am_wp_weak {y : Nat} (hC : am_mC C) {pc : Nat} {st : List Value} {M : am_M} (hl : am_le L L') (h : am_wp P E y lim C K pc L st M) : am_wp P E y lim C K pc L' st M := by
  intro R hR
  refine h (fun pc L st M => ∀ L', am_le L L' → R pc L' st M) (fun pc L st M i n t hc hs L' hl => hR _ _ _ _ _ _ _ hc ?_) L' hl
  by_cases hi : am_locI i = true
  · cases i <;> first | exact absurd (show false = true from hi) (by decide) | skip
    all_goals (unfold am_step at hs ⊢; dsimp only at hs ⊢)
    case iload_n => exact am_ldI_weak hl (fun v g => g L' hl) hs
    case iload => exact am_ldI_weak hl (fun v g => g L' hl) hs
    case lload_n => exact am_ldL_weak hl (fun v g => g L' hl) hs
    case lload => exact am_ldL_weak hl (fun v g => g L' hl) hs
    case aload_n => exact am_ldA_weak hl (fun v g => g L' hl) hs
    case aload => exact am_ldA_weak hl (fun v g => g L' hl) hs
    case istore_n => exact am_stI_weak hl (fun A A' b ha g => g A' ha) hs
    case istore => exact am_stI_weak hl (fun A A' b ha g => g A' ha) hs
    case lstore_n => exact am_stL_weak hl (fun A A' b ha g => g A' ha) hs
    case lstore => exact am_stL_weak hl (fun A A' b ha g => g A' ha) hs
    case astore_n => exact am_stA_weak hl (fun A A' b ha g => g A' ha) hs
    case astore => exact am_stA_weak hl (fun A A' b ha g => g A' ha) hs
    case iinc k v =>
      split at hs
      · next x hb hx =>
        rw [← hl.1, hb, hl.2 _ _ hx rfl]
        exact hs _ (am_le_set hl _ _)
      · exact hs.elim
  · have hi' : am_locI i = false := by cases h9 : am_locI i <;> simp_all
    exact am_step_L hi' hl hC (fun pc st M g => g L' hl) hs
end
end
section
-- ===== PART A: goes FIRST, ahead of the names: the tables' words, and 'selects' of the private methods out of them =====
/-- a private method of a class that the tables say can be made, by its rows of tables_1 -/
def lw_okq (q : MethodName × Nat) : Prop := (q.1.cls ≠ "java/lang/invoke/MethodHandle" ∧ q.1.cls ≠ "java/lang/invoke/VarHandle") ∧ Cond.instantiable q.1.cls q.2 ∈ tables_1 ∧ Cond.privateMethod q.1 ∈ tables_1 ∧ Cond.instanceMethod q.1 ∈ tables_1
theorem lw_p0 : lw_okq (⟨"IslandCall", "grant", "(I)Z"⟩, 18) := ⟨⟨by decide +kernel, by decide +kernel⟩, List.mem_of_getElem? (i := 20) (by decide +kernel), List.mem_of_getElem? (i := 479) (by decide +kernel), List.mem_of_getElem? (i := 480) (by decide +kernel)⟩
theorem lw_p1 : lw_okq (⟨"IslandCall", "feedFour", "(I)V"⟩, 18) := ⟨⟨by decide +kernel, by decide +kernel⟩, List.mem_of_getElem? (i := 20) (by decide +kernel), List.mem_of_getElem? (i := 535) (by decide +kernel), List.mem_of_getElem? (i := 536) (by decide +kernel)⟩
theorem lw_p2 : lw_okq (⟨"IslandCall", "refuse", "(I)I"⟩, 18) := ⟨⟨by decide +kernel, by decide +kernel⟩, List.mem_of_getElem? (i := 20) (by decide +kernel), List.mem_of_getElem? (i := 543) (by decide +kernel), List.mem_of_getElem? (i := 544) (by decide +kernel)⟩
theorem lw_p3 : lw_okq (⟨"IslandCall$Tokens", "takeWord", "()V"⟩, 11) := ⟨⟨by decide +kernel, by decide +kernel⟩, List.mem_of_getElem? (i := 207) (by decide +kernel), List.mem_of_getElem? (i := 560) (by decide +kernel), List.mem_of_getElem? (i := 561) (by decide +kernel)⟩
theorem lw_p4 : lw_okq (⟨"IslandCall$Tokens", "takeNumber", "()Z"⟩, 11) := ⟨⟨by decide +kernel, by decide +kernel⟩, List.mem_of_getElem? (i := 207) (by decide +kernel), List.mem_of_getElem? (i := 564) (by decide +kernel), List.mem_of_getElem? (i := 565) (by decide +kernel)⟩
theorem lw_p5 : lw_okq (⟨"IslandCall$BoatReader", "readPart", "()Z"⟩, 3) := ⟨⟨by decide +kernel, by decide +kernel⟩, List.mem_of_getElem? (i := 306) (by decide +kernel), List.mem_of_getElem? (i := 576) (by decide +kernel), List.mem_of_getElem? (i := 577) (by decide +kernel)⟩
theorem lw_p6 : lw_okq (⟨"IslandCall$BoatReader", "readRule", "(III)Z"⟩, 3) := ⟨⟨by decide +kernel, by decide +kernel⟩, List.mem_of_getElem? (i := 306) (by decide +kernel), List.mem_of_getElem? (i := 580) (by decide +kernel), List.mem_of_getElem? (i := 581) (by decide +kernel)⟩
theorem lw_p7 : lw_okq (⟨"IslandCall$BoatReader", "readSign", "()Z"⟩, 3) := ⟨⟨by decide +kernel, by decide +kernel⟩, List.mem_of_getElem? (i := 306) (by decide +kernel), List.mem_of_getElem? (i := 602) (by decide +kernel), List.mem_of_getElem? (i := 603) (by decide +kernel)⟩
theorem lw_p8 : lw_okq (⟨"IslandCall$BoatReader", "isTaken", "(J)Z"⟩, 3) := ⟨⟨by decide +kernel, by decide +kernel⟩, List.mem_of_getElem? (i := 306) (by decide +kernel), List.mem_of_getElem? (i := 614) (by decide +kernel), List.mem_of_getElem? (i := 615) (by decide +kernel)⟩
theorem lw_p9 : lw_okq (⟨"IslandCall$BoatReader", "readPerson", "()Z"⟩, 3) := ⟨⟨by decide +kernel, by decide +kernel⟩, List.mem_of_getElem? (i := 306) (by decide +kernel), List.mem_of_getElem? (i := 635) (by decide +kernel), List.mem_of_getElem? (i := 636) (by decide +kernel)⟩
theorem lw_p10 : lw_okq (⟨"IslandCall$BoatReader", "readExcuses", "(I)Z"⟩, 3) := ⟨⟨by decide +kernel, by decide +kernel⟩, List.mem_of_getElem? (i := 306) (by decide +kernel), List.mem_of_getElem? (i := 643) (by decide +kernel), List.mem_of_getElem? (i := 644) (by decide +kernel)⟩
theorem lw_p11 : lw_okq (⟨"IslandCall$BoatReader", "readBlind", "()Z"⟩, 3) := ⟨⟨by decide +kernel, by decide +kernel⟩, List.mem_of_getElem? (i := 306) (by decide +kernel), List.mem_of_getElem? (i := 648) (by decide +kernel), List.mem_of_getElem? (i := 649) (by decide +kernel)⟩
theorem lw_p12 : lw_okq (⟨"IslandCall", "answer", "(I)I"⟩, 18) := ⟨⟨by decide +kernel, by decide +kernel⟩, List.mem_of_getElem? (i := 20) (by decide +kernel), List.mem_of_getElem? (i := 661) (by decide +kernel), List.mem_of_getElem? (i := 662) (by decide +kernel)⟩
theorem lw_p13 : lw_okq (⟨"IslandCall$YearsReader", "closeBlock", "()Z"⟩, 5) := ⟨⟨by decide +kernel, by decide +kernel⟩, List.mem_of_getElem? (i := 322) (by decide +kernel), List.mem_of_getElem? (i := 678) (by decide +kernel), List.mem_of_getElem? (i := 679) (by decide +kernel)⟩
theorem lw_p14 : lw_okq (⟨"IslandCall$YearsReader", "addStep", "(I)Z"⟩, 5) := ⟨⟨by decide +kernel, by decide +kernel⟩, List.mem_of_getElem? (i := 322) (by decide +kernel), List.mem_of_getElem? (i := 686) (by decide +kernel), List.mem_of_getElem? (i := 687) (by decide +kernel)⟩
theorem lw_p15 : lw_okq (⟨"IslandCall$YearsReader", "readTest", "(I)Z"⟩, 5) := ⟨⟨by decide +kernel, by decide +kernel⟩, List.mem_of_getElem? (i := 322) (by decide +kernel), List.mem_of_getElem? (i := 690) (by decide +kernel), List.mem_of_getElem? (i := 691) (by decide +kernel)⟩
def lw_privs_1 : List (MethodName × Nat) := [(⟨"IslandCall", "grant", "(I)Z"⟩, 18), (⟨"IslandCall", "feedFour", "(I)V"⟩, 18), (⟨"IslandCall", "refuse", "(I)I"⟩, 18), (⟨"IslandCall$Tokens", "takeWord", "()V"⟩, 11), (⟨"IslandCall$Tokens", "takeNumber", "()Z"⟩, 11), (⟨"IslandCall$BoatReader", "readPart", "()Z"⟩, 3), (⟨"IslandCall$BoatReader", "readRule", "(III)Z"⟩, 3), (⟨"IslandCall$BoatReader", "readSign", "()Z"⟩, 3), (⟨"IslandCall$BoatReader", "isTaken", "(J)Z"⟩, 3), (⟨"IslandCall$BoatReader", "readPerson", "()Z"⟩, 3), (⟨"IslandCall$BoatReader", "readExcuses", "(I)Z"⟩, 3), (⟨"IslandCall$BoatReader", "readBlind", "()Z"⟩, 3), (⟨"IslandCall", "answer", "(I)I"⟩, 18), (⟨"IslandCall$YearsReader", "closeBlock", "()Z"⟩, 5), (⟨"IslandCall$YearsReader", "addStep", "(I)Z"⟩, 5), (⟨"IslandCall$YearsReader", "readTest", "(I)Z"⟩, 5)]
theorem lw_r1 : ∀ q ∈ lw_privs_1, lw_okq q := List.forall_mem_cons.mpr ⟨lw_p0, List.forall_mem_cons.mpr ⟨lw_p1, List.forall_mem_cons.mpr ⟨lw_p2, List.forall_mem_cons.mpr ⟨lw_p3, List.forall_mem_cons.mpr ⟨lw_p4, List.forall_mem_cons.mpr ⟨lw_p5, List.forall_mem_cons.mpr ⟨lw_p6, List.forall_mem_cons.mpr ⟨lw_p7, List.forall_mem_cons.mpr ⟨lw_p8, List.forall_mem_cons.mpr ⟨lw_p9, List.forall_mem_cons.mpr ⟨lw_p10, List.forall_mem_cons.mpr ⟨lw_p11, List.forall_mem_cons.mpr ⟨lw_p12, List.forall_mem_cons.mpr ⟨lw_p13, List.forall_mem_cons.mpr ⟨lw_p14, List.forall_mem_cons.mpr ⟨lw_p15, fun _ h => absurd h List.not_mem_nil⟩⟩⟩⟩⟩⟩⟩⟩⟩⟩⟩⟩⟩⟩⟩⟩
theorem lw_p16 : lw_okq (⟨"IslandCall$YearsReader", "readPerson", "(I)Z"⟩, 5) := ⟨⟨by decide +kernel, by decide +kernel⟩, List.mem_of_getElem? (i := 322) (by decide +kernel), List.mem_of_getElem? (i := 694) (by decide +kernel), List.mem_of_getElem? (i := 695) (by decide +kernel)⟩
theorem lw_p17 : lw_okq (⟨"IslandCall$YearsReader", "readOmen", "(I)Z"⟩, 5) := ⟨⟨by decide +kernel, by decide +kernel⟩, List.mem_of_getElem? (i := 322) (by decide +kernel), List.mem_of_getElem? (i := 700) (by decide +kernel), List.mem_of_getElem? (i := 701) (by decide +kernel)⟩
theorem lw_p18 : lw_okq (⟨"IslandCall$YearsReader", "readCompare", "(I)Z"⟩, 5) := ⟨⟨by decide +kernel, by decide +kernel⟩, List.mem_of_getElem? (i := 322) (by decide +kernel), List.mem_of_getElem? (i := 705) (by decide +kernel), List.mem_of_getElem? (i := 706) (by decide +kernel)⟩
theorem lw_p19 : lw_okq (⟨"IslandCall$YearsReader", "readNumber", "(III)Z"⟩, 5) := ⟨⟨by decide +kernel, by decide +kernel⟩, List.mem_of_getElem? (i := 322) (by decide +kernel), List.mem_of_getElem? (i := 713) (by decide +kernel), List.mem_of_getElem? (i := 714) (by decide +kernel)⟩
theorem lw_p20 : lw_okq (⟨"IslandCall$YearsReader", "readDetails", "(II)Z"⟩, 5) := ⟨⟨by decide +kernel, by decide +kernel⟩, List.mem_of_getElem? (i := 322) (by decide +kernel), List.mem_of_getElem? (i := 718) (by decide +kernel), List.mem_of_getElem? (i := 719) (by decide +kernel)⟩
theorem lw_p21 : lw_okq (⟨"IslandCall", "troubleWith", "(II)I"⟩, 18) := ⟨⟨by decide +kernel, by decide +kernel⟩, List.mem_of_getElem? (i := 20) (by decide +kernel), List.mem_of_getElem? (i := 864) (by decide +kernel), List.mem_of_getElem? (i := 865) (by decide +kernel)⟩
theorem lw_p22 : lw_okq (⟨"IslandCall", "tryCalls", "(I)V"⟩, 18) := ⟨⟨by decide +kernel, by decide +kernel⟩, List.mem_of_getElem? (i := 20) (by decide +kernel), List.mem_of_getElem? (i := 1004) (by decide +kernel), List.mem_of_getElem? (i := 1005) (by decide +kernel)⟩
theorem lw_p23 : lw_okq (⟨"IslandCall", "troubleWithSeen", "(III)I"⟩, 18) := ⟨⟨by decide +kernel, by decide +kernel⟩, List.mem_of_getElem? (i := 20) (by decide +kernel), List.mem_of_getElem? (i := 1024) (by decide +kernel), List.mem_of_getElem? (i := 1025) (by decide +kernel)⟩
theorem lw_p24 : lw_okq (⟨"IslandCall", "fittingHolds", "(III)I"⟩, 18) := ⟨⟨by decide +kernel, by decide +kernel⟩, List.mem_of_getElem? (i := 20) (by decide +kernel), List.mem_of_getElem? (i := 1033) (by decide +kernel), List.mem_of_getElem? (i := 1034) (by decide +kernel)⟩
theorem lw_p25 : lw_okq (⟨"IslandCall$Study", "areLookouts", "(I)Z"⟩, 3) := ⟨⟨by decide +kernel, by decide +kernel⟩, List.mem_of_getElem? (i := 385) (by decide +kernel), List.mem_of_getElem? (i := 1062) (by decide +kernel), List.mem_of_getElem? (i := 1063) (by decide +kernel)⟩
theorem lw_p26 : lw_okq (⟨"IslandCall$Study", "playTurn", "(Z)V"⟩, 3) := ⟨⟨by decide +kernel, by decide +kernel⟩, List.mem_of_getElem? (i := 385) (by decide +kernel), List.mem_of_getElem? (i := 1087) (by decide +kernel), List.mem_of_getElem? (i := 1088) (by decide +kernel)⟩
theorem lw_p27 : lw_okq (⟨"IslandCall$Life", "behindEnd", "(LIslandCall$Years;I)I"⟩, 9) := ⟨⟨by decide +kernel, by decide +kernel⟩, List.mem_of_getElem? (i := 344) (by decide +kernel), List.mem_of_getElem? (i := 1133) (by decide +kernel), List.mem_of_getElem? (i := 1134) (by decide +kernel)⟩
theorem lw_p28 : lw_okq (⟨"IslandCall$Life", "doStep", "(LIslandCall$Boat;LIslandCall$Years;I)I"⟩, 9) := ⟨⟨by decide +kernel, by decide +kernel⟩, List.mem_of_getElem? (i := 344) (by decide +kernel), List.mem_of_getElem? (i := 1137) (by decide +kernel), List.mem_of_getElem? (i := 1138) (by decide +kernel)⟩
theorem lw_p29 : lw_okq (⟨"IslandCall$Life", "tryCall", "(LIslandCall$Boat;Z)V"⟩, 9) := ⟨⟨by decide +kernel, by decide +kernel⟩, List.mem_of_getElem? (i := 344) (by decide +kernel), List.mem_of_getElem? (i := 1141) (by decide +kernel), List.mem_of_getElem? (i := 1142) (by decide +kernel)⟩
theorem lw_p30 : lw_okq (⟨"IslandCall$Life", "drawBelow", "(I)Z"⟩, 9) := ⟨⟨by decide +kernel, by decide +kernel⟩, List.mem_of_getElem? (i := 344) (by decide +kernel), List.mem_of_getElem? (i := 1148) (by decide +kernel), List.mem_of_getElem? (i := 1149) (by decide +kernel)⟩
theorem lw_p31 : lw_okq (⟨"IslandCall$Life", "count", "(Z)V"⟩, 9) := ⟨⟨by decide +kernel, by decide +kernel⟩, List.mem_of_getElem? (i := 344) (by decide +kernel), List.mem_of_getElem? (i := 1154) (by decide +kernel), List.mem_of_getElem? (i := 1155) (by decide +kernel)⟩
def lw_privs_2 : List (MethodName × Nat) := [(⟨"IslandCall$YearsReader", "readPerson", "(I)Z"⟩, 5), (⟨"IslandCall$YearsReader", "readOmen", "(I)Z"⟩, 5), (⟨"IslandCall$YearsReader", "readCompare", "(I)Z"⟩, 5), (⟨"IslandCall$YearsReader", "readNumber", "(III)Z"⟩, 5), (⟨"IslandCall$YearsReader", "readDetails", "(II)Z"⟩, 5), (⟨"IslandCall", "troubleWith", "(II)I"⟩, 18), (⟨"IslandCall", "tryCalls", "(I)V"⟩, 18), (⟨"IslandCall", "troubleWithSeen", "(III)I"⟩, 18), (⟨"IslandCall", "fittingHolds", "(III)I"⟩, 18), (⟨"IslandCall$Study", "areLookouts", "(I)Z"⟩, 3), (⟨"IslandCall$Study", "playTurn", "(Z)V"⟩, 3), (⟨"IslandCall$Life", "behindEnd", "(LIslandCall$Years;I)I"⟩, 9), (⟨"IslandCall$Life", "doStep", "(LIslandCall$Boat;LIslandCall$Years;I)I"⟩, 9), (⟨"IslandCall$Life", "tryCall", "(LIslandCall$Boat;Z)V"⟩, 9), (⟨"IslandCall$Life", "drawBelow", "(I)Z"⟩, 9), (⟨"IslandCall$Life", "count", "(Z)V"⟩, 9)]
theorem lw_r2 : ∀ q ∈ lw_privs_2, lw_okq q := List.forall_mem_cons.mpr ⟨lw_p16, List.forall_mem_cons.mpr ⟨lw_p17, List.forall_mem_cons.mpr ⟨lw_p18, List.forall_mem_cons.mpr ⟨lw_p19, List.forall_mem_cons.mpr ⟨lw_p20, List.forall_mem_cons.mpr ⟨lw_p21, List.forall_mem_cons.mpr ⟨lw_p22, List.forall_mem_cons.mpr ⟨lw_p23, List.forall_mem_cons.mpr ⟨lw_p24, List.forall_mem_cons.mpr ⟨lw_p25, List.forall_mem_cons.mpr ⟨lw_p26, List.forall_mem_cons.mpr ⟨lw_p27, List.forall_mem_cons.mpr ⟨lw_p28, List.forall_mem_cons.mpr ⟨lw_p29, List.forall_mem_cons.mpr ⟨lw_p30, List.forall_mem_cons.mpr ⟨lw_p31, fun _ h => absurd h List.not_mem_nil⟩⟩⟩⟩⟩⟩⟩⟩⟩⟩⟩⟩⟩⟩⟩⟩
theorem lw_p32 : lw_okq (⟨"IslandCallModel", "plain", "(I)V"⟩, 37) := ⟨⟨by decide +kernel, by decide +kernel⟩, List.mem_of_getElem? (i := 1179) (by decide +kernel), List.mem_of_getElem? (i := 1185) (by decide +kernel), List.mem_of_getElem? (i := 1186) (by decide +kernel)⟩
theorem lw_p33 : lw_okq (⟨"IslandCallModel", "is", "(I)Z"⟩, 37) := ⟨⟨by decide +kernel, by decide +kernel⟩, List.mem_of_getElem? (i := 1179) (by decide +kernel), List.mem_of_getElem? (i := 1320) (by decide +kernel), List.mem_of_getElem? (i := 1321) (by decide +kernel)⟩
theorem lw_p34 : lw_okq (⟨"IslandCallModel", "wrongPlace", "(II)I"⟩, 37) := ⟨⟨by decide +kernel, by decide +kernel⟩, List.mem_of_getElem? (i := 1179) (by decide +kernel), List.mem_of_getElem? (i := 1328) (by decide +kernel), List.mem_of_getElem? (i := 1329) (by decide +kernel)⟩
theorem lw_p35 : lw_okq (⟨"IslandCallModel", "four", "(I)V"⟩, 37) := ⟨⟨by decide +kernel, by decide +kernel⟩, List.mem_of_getElem? (i := 1179) (by decide +kernel), List.mem_of_getElem? (i := 1348) (by decide +kernel), List.mem_of_getElem? (i := 1349) (by decide +kernel)⟩
theorem lw_p36 : lw_okq (⟨"IslandCallModel", "begins", "(II)Z"⟩, 37) := ⟨⟨by decide +kernel, by decide +kernel⟩, List.mem_of_getElem? (i := 1179) (by decide +kernel), List.mem_of_getElem? (i := 1360) (by decide +kernel), List.mem_of_getElem? (i := 1361) (by decide +kernel)⟩
theorem lw_p37 : lw_okq (⟨"IslandCallModel", "ahead", "()V"⟩, 37) := ⟨⟨by decide +kernel, by decide +kernel⟩, List.mem_of_getElem? (i := 1179) (by decide +kernel), List.mem_of_getElem? (i := 1364) (by decide +kernel), List.mem_of_getElem? (i := 1365) (by decide +kernel)⟩
theorem lw_p38 : lw_okq (⟨"IslandCallModel", "byteAt", "(I)I"⟩, 37) := ⟨⟨by decide +kernel, by decide +kernel⟩, List.mem_of_getElem? (i := 1179) (by decide +kernel), List.mem_of_getElem? (i := 1368) (by decide +kernel), List.mem_of_getElem? (i := 1369) (by decide +kernel)⟩
theorem lw_p39 : lw_okq (⟨"IslandCallModel", "refuse", "(I)I"⟩, 37) := ⟨⟨by decide +kernel, by decide +kernel⟩, List.mem_of_getElem? (i := 1179) (by decide +kernel), List.mem_of_getElem? (i := 1380) (by decide +kernel), List.mem_of_getElem? (i := 1381) (by decide +kernel)⟩
theorem lw_p40 : lw_okq (⟨"IslandCallModel", "boatPart", "()Z"⟩, 37) := ⟨⟨by decide +kernel, by decide +kernel⟩, List.mem_of_getElem? (i := 1179) (by decide +kernel), List.mem_of_getElem? (i := 1384) (by decide +kernel), List.mem_of_getElem? (i := 1385) (by decide +kernel)⟩
theorem lw_p41 : lw_okq (⟨"IslandCallModel", "inWords", "(Ljava/lang/String;)I"⟩, 37) := ⟨⟨by decide +kernel, by decide +kernel⟩, List.mem_of_getElem? (i := 1179) (by decide +kernel), List.mem_of_getElem? (i := 1389) (by decide +kernel), List.mem_of_getElem? (i := 1390) (by decide +kernel)⟩
theorem lw_p42 : lw_okq (⟨"IslandCallModel", "fails", "(I)Z"⟩, 37) := ⟨⟨by decide +kernel, by decide +kernel⟩, List.mem_of_getElem? (i := 1179) (by decide +kernel), List.mem_of_getElem? (i := 1395) (by decide +kernel), List.mem_of_getElem? (i := 1396) (by decide +kernel)⟩
theorem lw_p43 : lw_okq (⟨"IslandCallModel", "number", "(III)Z"⟩, 37) := ⟨⟨by decide +kernel, by decide +kernel⟩, List.mem_of_getElem? (i := 1179) (by decide +kernel), List.mem_of_getElem? (i := 1399) (by decide +kernel), List.mem_of_getElem? (i := 1400) (by decide +kernel)⟩
theorem lw_p44 : lw_okq (⟨"IslandCallModel", "anOmen", "()Z"⟩, 37) := ⟨⟨by decide +kernel, by decide +kernel⟩, List.mem_of_getElem? (i := 1179) (by decide +kernel), List.mem_of_getElem? (i := 1403) (by decide +kernel), List.mem_of_getElem? (i := 1404) (by decide +kernel)⟩
theorem lw_p45 : lw_okq (⟨"IslandCallModel", "newOne", "(III)Z"⟩, 37) := ⟨⟨by decide +kernel, by decide +kernel⟩, List.mem_of_getElem? (i := 1179) (by decide +kernel), List.mem_of_getElem? (i := 1407) (by decide +kernel), List.mem_of_getElem? (i := 1408) (by decide +kernel)⟩
theorem lw_p46 : lw_okq (⟨"IslandCallModel", "isName", "(Ljava/lang/String;)Z"⟩, 37) := ⟨⟨by decide +kernel, by decide +kernel⟩, List.mem_of_getElem? (i := 1179) (by decide +kernel), List.mem_of_getElem? (i := 1411) (by decide +kernel), List.mem_of_getElem? (i := 1412) (by decide +kernel)⟩
theorem lw_p47 : lw_okq (⟨"IslandCallModel", "findHere", "(II)I"⟩, 37) := ⟨⟨by decide +kernel, by decide +kernel⟩, List.mem_of_getElem? (i := 1179) (by decide +kernel), List.mem_of_getElem? (i := 1415) (by decide +kernel), List.mem_of_getElem? (i := 1416) (by decide +kernel)⟩
def lw_privs_3 : List (MethodName × Nat) := [(⟨"IslandCallModel", "plain", "(I)V"⟩, 37), (⟨"IslandCallModel", "is", "(I)Z"⟩, 37), (⟨"IslandCallModel", "wrongPlace", "(II)I"⟩, 37), (⟨"IslandCallModel", "four", "(I)V"⟩, 37), (⟨"IslandCallModel", "begins", "(II)Z"⟩, 37), (⟨"IslandCallModel", "ahead", "()V"⟩, 37), (⟨"IslandCallModel", "byteAt", "(I)I"⟩, 37), (⟨"IslandCallModel", "refuse", "(I)I"⟩, 37), (⟨"IslandCallModel", "boatPart", "()Z"⟩, 37), (⟨"IslandCallModel", "inWords", "(Ljava/lang/String;)I"⟩, 37), (⟨"IslandCallModel", "fails", "(I)Z"⟩, 37), (⟨"IslandCallModel", "number", "(III)Z"⟩, 37), (⟨"IslandCallModel", "anOmen", "()Z"⟩, 37), (⟨"IslandCallModel", "newOne", "(III)Z"⟩, 37), (⟨"IslandCallModel", "isName", "(Ljava/lang/String;)Z"⟩, 37), (⟨"IslandCallModel", "findHere", "(II)I"⟩, 37)]
theorem lw_r3 : ∀ q ∈ lw_privs_3, lw_okq q := List.forall_mem_cons.mpr ⟨lw_p32, List.forall_mem_cons.mpr ⟨lw_p33, List.forall_mem_cons.mpr ⟨lw_p34, List.forall_mem_cons.mpr ⟨lw_p35, List.forall_mem_cons.mpr ⟨lw_p36, List.forall_mem_cons.mpr ⟨lw_p37, List.forall_mem_cons.mpr ⟨lw_p38, List.forall_mem_cons.mpr ⟨lw_p39, List.forall_mem_cons.mpr ⟨lw_p40, List.forall_mem_cons.mpr ⟨lw_p41, List.forall_mem_cons.mpr ⟨lw_p42, List.forall_mem_cons.mpr ⟨lw_p43, List.forall_mem_cons.mpr ⟨lw_p44, List.forall_mem_cons.mpr ⟨lw_p45, List.forall_mem_cons.mpr ⟨lw_p46, List.forall_mem_cons.mpr ⟨lw_p47, fun _ h => absurd h List.not_mem_nil⟩⟩⟩⟩⟩⟩⟩⟩⟩⟩⟩⟩⟩⟩⟩⟩
theorem lw_p48 : lw_okq (⟨"IslandCallModel", "nameHere", "()J"⟩, 37) := ⟨⟨by decide +kernel, by decide +kernel⟩, List.mem_of_getElem? (i := 1179) (by decide +kernel), List.mem_of_getElem? (i := 1419) (by decide +kernel), List.mem_of_getElem? (i := 1420) (by decide +kernel)⟩
theorem lw_p49 : lw_okq (⟨"IslandCallModel", "wantWord", "(Ljava/lang/String;I)Z"⟩, 37) := ⟨⟨by decide +kernel, by decide +kernel⟩, List.mem_of_getElem? (i := 1179) (by decide +kernel), List.mem_of_getElem? (i := 1423) (by decide +kernel), List.mem_of_getElem? (i := 1424) (by decide +kernel)⟩
theorem lw_p50 : lw_okq (⟨"IslandCallModel", "isThere", "(I)Z"⟩, 37) := ⟨⟨by decide +kernel, by decide +kernel⟩, List.mem_of_getElem? (i := 1179) (by decide +kernel), List.mem_of_getElem? (i := 1427) (by decide +kernel), List.mem_of_getElem? (i := 1428) (by decide +kernel)⟩
theorem lw_p51 : lw_okq (⟨"IslandCallModel", "aPerson", "()Z"⟩, 37) := ⟨⟨by decide +kernel, by decide +kernel⟩, List.mem_of_getElem? (i := 1179) (by decide +kernel), List.mem_of_getElem? (i := 1431) (by decide +kernel), List.mem_of_getElem? (i := 1432) (by decide +kernel)⟩
theorem lw_p52 : lw_okq (⟨"IslandCallModel", "excuses", "(I)Z"⟩, 37) := ⟨⟨by decide +kernel, by decide +kernel⟩, List.mem_of_getElem? (i := 1179) (by decide +kernel), List.mem_of_getElem? (i := 1438) (by decide +kernel), List.mem_of_getElem? (i := 1439) (by decide +kernel)⟩
theorem lw_p53 : lw_okq (⟨"IslandCallModel", "aBlindness", "()Z"⟩, 37) := ⟨⟨by decide +kernel, by decide +kernel⟩, List.mem_of_getElem? (i := 1179) (by decide +kernel), List.mem_of_getElem? (i := 1442) (by decide +kernel), List.mem_of_getElem? (i := 1443) (by decide +kernel)⟩
theorem lw_p54 : lw_okq (⟨"IslandCallModel", "newPersonTo", "(I)Z"⟩, 37) := ⟨⟨by decide +kernel, by decide +kernel⟩, List.mem_of_getElem? (i := 1179) (by decide +kernel), List.mem_of_getElem? (i := 1446) (by decide +kernel), List.mem_of_getElem? (i := 1447) (by decide +kernel)⟩
theorem lw_p55 : lw_okq (⟨"IslandCallModel", "oldOne", "(III)Z"⟩, 37) := ⟨⟨by decide +kernel, by decide +kernel⟩, List.mem_of_getElem? (i := 1179) (by decide +kernel), List.mem_of_getElem? (i := 1450) (by decide +kernel), List.mem_of_getElem? (i := 1451) (by decide +kernel)⟩
theorem lw_p56 : lw_okq (⟨"IslandCallModel", "wantSign", "(I)Z"⟩, 37) := ⟨⟨by decide +kernel, by decide +kernel⟩, List.mem_of_getElem? (i := 1179) (by decide +kernel), List.mem_of_getElem? (i := 1454) (by decide +kernel), List.mem_of_getElem? (i := 1455) (by decide +kernel)⟩
theorem lw_p57 : lw_okq (⟨"IslandCallModel", "isSign", "(I)Z"⟩, 37) := ⟨⟨by decide +kernel, by decide +kernel⟩, List.mem_of_getElem? (i := 1179) (by decide +kernel), List.mem_of_getElem? (i := 1458) (by decide +kernel), List.mem_of_getElem? (i := 1459) (by decide +kernel)⟩
theorem lw_p58 : lw_okq (⟨"IslandCallModel", "taken", "(I)I"⟩, 37) := ⟨⟨by decide +kernel, by decide +kernel⟩, List.mem_of_getElem? (i := 1179) (by decide +kernel), List.mem_of_getElem? (i := 1462) (by decide +kernel), List.mem_of_getElem? (i := 1463) (by decide +kernel)⟩
theorem lw_p59 : lw_okq (⟨"IslandCallModel", "gives", "(I)I"⟩, 37) := ⟨⟨by decide +kernel, by decide +kernel⟩, List.mem_of_getElem? (i := 1179) (by decide +kernel), List.mem_of_getElem? (i := 1466) (by decide +kernel), List.mem_of_getElem? (i := 1467) (by decide +kernel)⟩
theorem lw_p60 : lw_okq (⟨"IslandCallModel", "yearStep", "()Z"⟩, 37) := ⟨⟨by decide +kernel, by decide +kernel⟩, List.mem_of_getElem? (i := 1179) (by decide +kernel), List.mem_of_getElem? (i := 1474) (by decide +kernel), List.mem_of_getElem? (i := 1475) (by decide +kernel)⟩
theorem lw_p61 : lw_okq (⟨"IslandCallModel", "yearOrder", "(II)Z"⟩, 37) := ⟨⟨by decide +kernel, by decide +kernel⟩, List.mem_of_getElem? (i := 1179) (by decide +kernel), List.mem_of_getElem? (i := 1478) (by decide +kernel), List.mem_of_getElem? (i := 1479) (by decide +kernel)⟩
theorem lw_p62 : lw_okq (⟨"IslandCallModel", "omenTo", "(I)Z"⟩, 37) := ⟨⟨by decide +kernel, by decide +kernel⟩, List.mem_of_getElem? (i := 1179) (by decide +kernel), List.mem_of_getElem? (i := 1482) (by decide +kernel), List.mem_of_getElem? (i := 1483) (by decide +kernel)⟩
theorem lw_p63 : lw_okq (⟨"IslandCallModel", "personTo", "(I)Z"⟩, 37) := ⟨⟨by decide +kernel, by decide +kernel⟩, List.mem_of_getElem? (i := 1179) (by decide +kernel), List.mem_of_getElem? (i := 1486) (by decide +kernel), List.mem_of_getElem? (i := 1487) (by decide +kernel)⟩
def lw_privs_4 : List (MethodName × Nat) := [(⟨"IslandCallModel", "nameHere", "()J"⟩, 37), (⟨"IslandCallModel", "wantWord", "(Ljava/lang/String;I)Z"⟩, 37), (⟨"IslandCallModel", "isThere", "(I)Z"⟩, 37), (⟨"IslandCallModel", "aPerson", "()Z"⟩, 37), (⟨"IslandCallModel", "excuses", "(I)Z"⟩, 37), (⟨"IslandCallModel", "aBlindness", "()Z"⟩, 37), (⟨"IslandCallModel", "newPersonTo", "(I)Z"⟩, 37), (⟨"IslandCallModel", "oldOne", "(III)Z"⟩, 37), (⟨"IslandCallModel", "wantSign", "(I)Z"⟩, 37), (⟨"IslandCallModel", "isSign", "(I)Z"⟩, 37), (⟨"IslandCallModel", "taken", "(I)I"⟩, 37), (⟨"IslandCallModel", "gives", "(I)I"⟩, 37), (⟨"IslandCallModel", "yearStep", "()Z"⟩, 37), (⟨"IslandCallModel", "yearOrder", "(II)Z"⟩, 37), (⟨"IslandCallModel", "omenTo", "(I)Z"⟩, 37), (⟨"IslandCallModel", "personTo", "(I)Z"⟩, 37)]
theorem lw_r4 : ∀ q ∈ lw_privs_4, lw_okq q := List.forall_mem_cons.mpr ⟨lw_p48, List.forall_mem_cons.mpr ⟨lw_p49, List.forall_mem_cons.mpr ⟨lw_p50, List.forall_mem_cons.mpr ⟨lw_p51, List.forall_mem_cons.mpr ⟨lw_p52, List.forall_mem_cons.mpr ⟨lw_p53, List.forall_mem_cons.mpr ⟨lw_p54, List.forall_mem_cons.mpr ⟨lw_p55, List.forall_mem_cons.mpr ⟨lw_p56, List.forall_mem_cons.mpr ⟨lw_p57, List.forall_mem_cons.mpr ⟨lw_p58, List.forall_mem_cons.mpr ⟨lw_p59, List.forall_mem_cons.mpr ⟨lw_p60, List.forall_mem_cons.mpr ⟨lw_p61, List.forall_mem_cons.mpr ⟨lw_p62, List.forall_mem_cons.mpr ⟨lw_p63, fun _ h => absurd h List.not_mem_nil⟩⟩⟩⟩⟩⟩⟩⟩⟩⟩⟩⟩⟩⟩⟩⟩
theorem lw_p64 : lw_okq (⟨"IslandCallModel", "test", "(I)Z"⟩, 37) := ⟨⟨by decide +kernel, by decide +kernel⟩, List.mem_of_getElem? (i := 1179) (by decide +kernel), List.mem_of_getElem? (i := 1490) (by decide +kernel), List.mem_of_getElem? (i := 1491) (by decide +kernel)⟩
theorem lw_p65 : lw_okq (⟨"IslandCallModel", "aboard", "()I"⟩, 37) := ⟨⟨by decide +kernel, by decide +kernel⟩, List.mem_of_getElem? (i := 1179) (by decide +kernel), List.mem_of_getElem? (i := 1498) (by decide +kernel), List.mem_of_getElem? (i := 1499) (by decide +kernel)⟩
theorem lw_p66 : lw_okq (⟨"IslandCallModel", "allPeople", "()I"⟩, 37) := ⟨⟨by decide +kernel, by decide +kernel⟩, List.mem_of_getElem? (i := 1179) (by decide +kernel), List.mem_of_getElem? (i := 1502) (by decide +kernel), List.mem_of_getElem? (i := 1503) (by decide +kernel)⟩
theorem lw_p67 : lw_okq (⟨"IslandCallModel", "allSat", "()I"⟩, 37) := ⟨⟨by decide +kernel, by decide +kernel⟩, List.mem_of_getElem? (i := 1179) (by decide +kernel), List.mem_of_getElem? (i := 1506) (by decide +kernel), List.mem_of_getElem? (i := 1507) (by decide +kernel)⟩
theorem lw_p68 : lw_okq (⟨"IslandCallModel", "personOf", "(II)I"⟩, 37) := ⟨⟨by decide +kernel, by decide +kernel⟩, List.mem_of_getElem? (i := 1179) (by decide +kernel), List.mem_of_getElem? (i := 1510) (by decide +kernel), List.mem_of_getElem? (i := 1511) (by decide +kernel)⟩
theorem lw_p69 : lw_okq (⟨"IslandCallModel", "isOmen", "(I)Z"⟩, 37) := ⟨⟨by decide +kernel, by decide +kernel⟩, List.mem_of_getElem? (i := 1179) (by decide +kernel), List.mem_of_getElem? (i := 1518) (by decide +kernel), List.mem_of_getElem? (i := 1519) (by decide +kernel)⟩
theorem lw_p70 : lw_okq (⟨"IslandCallModel", "excusedFrom", "(I)I"⟩, 37) := ⟨⟨by decide +kernel, by decide +kernel⟩, List.mem_of_getElem? (i := 1179) (by decide +kernel), List.mem_of_getElem? (i := 1522) (by decide +kernel), List.mem_of_getElem? (i := 1523) (by decide +kernel)⟩
theorem lw_p71 : lw_okq (⟨"IslandCallModel", "isIn", "(II)Z"⟩, 37) := ⟨⟨by decide +kernel, by decide +kernel⟩, List.mem_of_getElem? (i := 1179) (by decide +kernel), List.mem_of_getElem? (i := 1526) (by decide +kernel), List.mem_of_getElem? (i := 1527) (by decide +kernel)⟩
theorem lw_p72 : lw_okq (⟨"IslandCallModel", "isPerson", "(I)Z"⟩, 37) := ⟨⟨by decide +kernel, by decide +kernel⟩, List.mem_of_getElem? (i := 1179) (by decide +kernel), List.mem_of_getElem? (i := 1534) (by decide +kernel), List.mem_of_getElem? (i := 1535) (by decide +kernel)⟩
theorem lw_p73 : lw_okq (⟨"IslandCallModel", "needOf", "(II)I"⟩, 37) := ⟨⟨by decide +kernel, by decide +kernel⟩, List.mem_of_getElem? (i := 1179) (by decide +kernel), List.mem_of_getElem? (i := 1538) (by decide +kernel), List.mem_of_getElem? (i := 1539) (by decide +kernel)⟩
theorem lw_p74 : lw_okq (⟨"IslandCallModel", "pullOn", "(II)I"⟩, 37) := ⟨⟨by decide +kernel, by decide +kernel⟩, List.mem_of_getElem? (i := 1179) (by decide +kernel), List.mem_of_getElem? (i := 1542) (by decide +kernel), List.mem_of_getElem? (i := 1543) (by decide +kernel)⟩
theorem lw_p75 : lw_okq (⟨"IslandCallModel", "isOut", "(I)Z"⟩, 37) := ⟨⟨by decide +kernel, by decide +kernel⟩, List.mem_of_getElem? (i := 1179) (by decide +kernel), List.mem_of_getElem? (i := 1547) (by decide +kernel), List.mem_of_getElem? (i := 1548) (by decide +kernel)⟩
theorem lw_p76 : lw_okq (⟨"IslandCallModel", "seenBy", "(I)I"⟩, 37) := ⟨⟨by decide +kernel, by decide +kernel⟩, List.mem_of_getElem? (i := 1179) (by decide +kernel), List.mem_of_getElem? (i := 1551) (by decide +kernel), List.mem_of_getElem? (i := 1552) (by decide +kernel)⟩
theorem lw_p77 : lw_okq (⟨"IslandCallModel", "whoSee", "(I)I"⟩, 37) := ⟨⟨by decide +kernel, by decide +kernel⟩, List.mem_of_getElem? (i := 1179) (by decide +kernel), List.mem_of_getElem? (i := 1555) (by decide +kernel), List.mem_of_getElem? (i := 1556) (by decide +kernel)⟩
theorem lw_p78 : lw_okq (⟨"IslandCallModel", "calling", "()I"⟩, 37) := ⟨⟨by decide +kernel, by decide +kernel⟩, List.mem_of_getElem? (i := 1179) (by decide +kernel), List.mem_of_getElem? (i := 1563) (by decide +kernel), List.mem_of_getElem? (i := 1564) (by decide +kernel)⟩
theorem lw_p79 : lw_okq (⟨"IslandCallModel", "outOf", "(II)I"⟩, 37) := ⟨⟨by decide +kernel, by decide +kernel⟩, List.mem_of_getElem? (i := 1179) (by decide +kernel), List.mem_of_getElem? (i := 1567) (by decide +kernel), List.mem_of_getElem? (i := 1568) (by decide +kernel)⟩
def lw_privs_5 : List (MethodName × Nat) := [(⟨"IslandCallModel", "test", "(I)Z"⟩, 37), (⟨"IslandCallModel", "aboard", "()I"⟩, 37), (⟨"IslandCallModel", "allPeople", "()I"⟩, 37), (⟨"IslandCallModel", "allSat", "()I"⟩, 37), (⟨"IslandCallModel", "personOf", "(II)I"⟩, 37), (⟨"IslandCallModel", "isOmen", "(I)Z"⟩, 37), (⟨"IslandCallModel", "excusedFrom", "(I)I"⟩, 37), (⟨"IslandCallModel", "isIn", "(II)Z"⟩, 37), (⟨"IslandCallModel", "isPerson", "(I)Z"⟩, 37), (⟨"IslandCallModel", "needOf", "(II)I"⟩, 37), (⟨"IslandCallModel", "pullOn", "(II)I"⟩, 37), (⟨"IslandCallModel", "isOut", "(I)Z"⟩, 37), (⟨"IslandCallModel", "seenBy", "(I)I"⟩, 37), (⟨"IslandCallModel", "whoSee", "(I)I"⟩, 37), (⟨"IslandCallModel", "calling", "()I"⟩, 37), (⟨"IslandCallModel", "outOf", "(II)I"⟩, 37)]
theorem lw_r5 : ∀ q ∈ lw_privs_5, lw_okq q := List.forall_mem_cons.mpr ⟨lw_p64, List.forall_mem_cons.mpr ⟨lw_p65, List.forall_mem_cons.mpr ⟨lw_p66, List.forall_mem_cons.mpr ⟨lw_p67, List.forall_mem_cons.mpr ⟨lw_p68, List.forall_mem_cons.mpr ⟨lw_p69, List.forall_mem_cons.mpr ⟨lw_p70, List.forall_mem_cons.mpr ⟨lw_p71, List.forall_mem_cons.mpr ⟨lw_p72, List.forall_mem_cons.mpr ⟨lw_p73, List.forall_mem_cons.mpr ⟨lw_p74, List.forall_mem_cons.mpr ⟨lw_p75, List.forall_mem_cons.mpr ⟨lw_p76, List.forall_mem_cons.mpr ⟨lw_p77, List.forall_mem_cons.mpr ⟨lw_p78, List.forall_mem_cons.mpr ⟨lw_p79, fun _ h => absurd h List.not_mem_nil⟩⟩⟩⟩⟩⟩⟩⟩⟩⟩⟩⟩⟩⟩⟩⟩
theorem lw_p80 : lw_okq (⟨"IslandCallModel", "risingOf", "(IIII)I"⟩, 37) := ⟨⟨by decide +kernel, by decide +kernel⟩, List.mem_of_getElem? (i := 1179) (by decide +kernel), List.mem_of_getElem? (i := 1571) (by decide +kernel), List.mem_of_getElem? (i := 1572) (by decide +kernel)⟩
theorem lw_p81 : lw_okq (⟨"IslandCallModel", "shows", "(II)Z"⟩, 37) := ⟨⟨by decide +kernel, by decide +kernel⟩, List.mem_of_getElem? (i := 1179) (by decide +kernel), List.mem_of_getElem? (i := 1582) (by decide +kernel), List.mem_of_getElem? (i := 1583) (by decide +kernel)⟩
theorem lw_p82 : lw_okq (⟨"IslandCallModel", "boards", "(I)Z"⟩, 37) := ⟨⟨by decide +kernel, by decide +kernel⟩, List.mem_of_getElem? (i := 1179) (by decide +kernel), List.mem_of_getElem? (i := 1590) (by decide +kernel), List.mem_of_getElem? (i := 1591) (by decide +kernel)⟩
theorem lw_p83 : lw_okq (⟨"IslandCallModel", "sways", "(II)Z"⟩, 37) := ⟨⟨by decide +kernel, by decide +kernel⟩, List.mem_of_getElem? (i := 1179) (by decide +kernel), List.mem_of_getElem? (i := 1602) (by decide +kernel), List.mem_of_getElem? (i := 1603) (by decide +kernel)⟩
theorem lw_p84 : lw_okq (⟨"IslandCallModel", "areOmens", "(J)Z"⟩, 37) := ⟨⟨by decide +kernel, by decide +kernel⟩, List.mem_of_getElem? (i := 1179) (by decide +kernel), List.mem_of_getElem? (i := 1633) (by decide +kernel), List.mem_of_getElem? (i := 1634) (by decide +kernel)⟩
theorem lw_p85 : lw_okq (⟨"IslandCallModel", "allOmens", "()I"⟩, 37) := ⟨⟨by decide +kernel, by decide +kernel⟩, List.mem_of_getElem? (i := 1179) (by decide +kernel), List.mem_of_getElem? (i := 1637) (by decide +kernel), List.mem_of_getElem? (i := 1638) (by decide +kernel)⟩
theorem lw_p86 : lw_okq (⟨"IslandCallModel", "restOf", "(I)I"⟩, 37) := ⟨⟨by decide +kernel, by decide +kernel⟩, List.mem_of_getElem? (i := 1179) (by decide +kernel), List.mem_of_getElem? (i := 1645) (by decide +kernel), List.mem_of_getElem? (i := 1646) (by decide +kernel)⟩
theorem lw_p87 : lw_okq (⟨"IslandCallModel", "arePeople", "(J)Z"⟩, 37) := ⟨⟨by decide +kernel, by decide +kernel⟩, List.mem_of_getElem? (i := 1179) (by decide +kernel), List.mem_of_getElem? (i := 1665) (by decide +kernel), List.mem_of_getElem? (i := 1666) (by decide +kernel)⟩
theorem lw_p88 : lw_okq (⟨"IslandCallModel", "isRest", "(II)Z"⟩, 37) := ⟨⟨by decide +kernel, by decide +kernel⟩, List.mem_of_getElem? (i := 1179) (by decide +kernel), List.mem_of_getElem? (i := 1669) (by decide +kernel), List.mem_of_getElem? (i := 1670) (by decide +kernel)⟩
theorem lw_p89 : lw_okq (⟨"IslandCallModel", "seedsOf", "(I)I"⟩, 37) := ⟨⟨by decide +kernel, by decide +kernel⟩, List.mem_of_getElem? (i := 1179) (by decide +kernel), List.mem_of_getElem? (i := 1685) (by decide +kernel), List.mem_of_getElem? (i := 1686) (by decide +kernel)⟩
theorem lw_p90 : lw_okq (⟨"IslandCallModel", "weightOf", "(II)I"⟩, 37) := ⟨⟨by decide +kernel, by decide +kernel⟩, List.mem_of_getElem? (i := 1179) (by decide +kernel), List.mem_of_getElem? (i := 1697) (by decide +kernel), List.mem_of_getElem? (i := 1698) (by decide +kernel)⟩
theorem lw_p91 : lw_okq (⟨"IslandCallModel", "orNone", "(I)I"⟩, 37) := ⟨⟨by decide +kernel, by decide +kernel⟩, List.mem_of_getElem? (i := 1179) (by decide +kernel), List.mem_of_getElem? (i := 1705) (by decide +kernel), List.mem_of_getElem? (i := 1706) (by decide +kernel)⟩
theorem lw_p92 : lw_okq (⟨"IslandCallModel", "luring", "(I)I"⟩, 37) := ⟨⟨by decide +kernel, by decide +kernel⟩, List.mem_of_getElem? (i := 1179) (by decide +kernel), List.mem_of_getElem? (i := 1713) (by decide +kernel), List.mem_of_getElem? (i := 1714) (by decide +kernel)⟩
theorem lw_p93 : lw_okq (⟨"IslandCallModel", "bestOmens", "()I"⟩, 37) := ⟨⟨by decide +kernel, by decide +kernel⟩, List.mem_of_getElem? (i := 1179) (by decide +kernel), List.mem_of_getElem? (i := 1725) (by decide +kernel), List.mem_of_getElem? (i := 1726) (by decide +kernel)⟩
theorem lw_p94 : lw_okq (⟨"IslandCallModel", "keeps", "(I)V"⟩, 37) := ⟨⟨by decide +kernel, by decide +kernel⟩, List.mem_of_getElem? (i := 1179) (by decide +kernel), List.mem_of_getElem? (i := 1742) (by decide +kernel), List.mem_of_getElem? (i := 1743) (by decide +kernel)⟩
theorem lw_p95 : lw_okq (⟨"IslandCallModel", "callsGo", "(I)V"⟩, 37) := ⟨⟨by decide +kernel, by decide +kernel⟩, List.mem_of_getElem? (i := 1179) (by decide +kernel), List.mem_of_getElem? (i := 1746) (by decide +kernel), List.mem_of_getElem? (i := 1747) (by decide +kernel)⟩
def lw_privs_6 : List (MethodName × Nat) := [(⟨"IslandCallModel", "risingOf", "(IIII)I"⟩, 37), (⟨"IslandCallModel", "shows", "(II)Z"⟩, 37), (⟨"IslandCallModel", "boards", "(I)Z"⟩, 37), (⟨"IslandCallModel", "sways", "(II)Z"⟩, 37), (⟨"IslandCallModel", "areOmens", "(J)Z"⟩, 37), (⟨"IslandCallModel", "allOmens", "()I"⟩, 37), (⟨"IslandCallModel", "restOf", "(I)I"⟩, 37), (⟨"IslandCallModel", "arePeople", "(J)Z"⟩, 37), (⟨"IslandCallModel", "isRest", "(II)Z"⟩, 37), (⟨"IslandCallModel", "seedsOf", "(I)I"⟩, 37), (⟨"IslandCallModel", "weightOf", "(II)I"⟩, 37), (⟨"IslandCallModel", "orNone", "(I)I"⟩, 37), (⟨"IslandCallModel", "luring", "(I)I"⟩, 37), (⟨"IslandCallModel", "bestOmens", "()I"⟩, 37), (⟨"IslandCallModel", "keeps", "(I)V"⟩, 37), (⟨"IslandCallModel", "callsGo", "(I)V"⟩, 37)]
theorem lw_r6 : ∀ q ∈ lw_privs_6, lw_okq q := List.forall_mem_cons.mpr ⟨lw_p80, List.forall_mem_cons.mpr ⟨lw_p81, List.forall_mem_cons.mpr ⟨lw_p82, List.forall_mem_cons.mpr ⟨lw_p83, List.forall_mem_cons.mpr ⟨lw_p84, List.forall_mem_cons.mpr ⟨lw_p85, List.forall_mem_cons.mpr ⟨lw_p86, List.forall_mem_cons.mpr ⟨lw_p87, List.forall_mem_cons.mpr ⟨lw_p88, List.forall_mem_cons.mpr ⟨lw_p89, List.forall_mem_cons.mpr ⟨lw_p90, List.forall_mem_cons.mpr ⟨lw_p91, List.forall_mem_cons.mpr ⟨lw_p92, List.forall_mem_cons.mpr ⟨lw_p93, List.forall_mem_cons.mpr ⟨lw_p94, List.forall_mem_cons.mpr ⟨lw_p95, fun _ h => absurd h List.not_mem_nil⟩⟩⟩⟩⟩⟩⟩⟩⟩⟩⟩⟩⟩⟩⟩⟩
theorem lw_p96 : lw_okq (⟨"IslandCallModel", "restores", "(I)V"⟩, 37) := ⟨⟨by decide +kernel, by decide +kernel⟩, List.mem_of_getElem? (i := 1179) (by decide +kernel), List.mem_of_getElem? (i := 1750) (by decide +kernel), List.mem_of_getElem? (i := 1751) (by decide +kernel)⟩
theorem lw_p97 : lw_okq (⟨"IslandCallModel", "wrongFits", "(III)I"⟩, 37) := ⟨⟨by decide +kernel, by decide +kernel⟩, List.mem_of_getElem? (i := 1179) (by decide +kernel), List.mem_of_getElem? (i := 1766) (by decide +kernel), List.mem_of_getElem? (i := 1767) (by decide +kernel)⟩
theorem lw_p98 : lw_okq (⟨"IslandCallModel", "holdsOf", "(III)I"⟩, 37) := ⟨⟨by decide +kernel, by decide +kernel⟩, List.mem_of_getElem? (i := 1179) (by decide +kernel), List.mem_of_getElem? (i := 1771) (by decide +kernel), List.mem_of_getElem? (i := 1772) (by decide +kernel)⟩
theorem lw_p99 : lw_okq (⟨"IslandCallModel", "doesFit", "(IIII)Z"⟩, 37) := ⟨⟨by decide +kernel, by decide +kernel⟩, List.mem_of_getElem? (i := 1179) (by decide +kernel), List.mem_of_getElem? (i := 1775) (by decide +kernel), List.mem_of_getElem? (i := 1776) (by decide +kernel)⟩
theorem lw_p100 : lw_okq (⟨"IslandCallModel", "lookoutsOf", "()I"⟩, 37) := ⟨⟨by decide +kernel, by decide +kernel⟩, List.mem_of_getElem? (i := 1179) (by decide +kernel), List.mem_of_getElem? (i := 1791) (by decide +kernel), List.mem_of_getElem? (i := 1792) (by decide +kernel)⟩
theorem lw_p101 : lw_okq (⟨"IslandCallModel", "playing", "(I)I"⟩, 37) := ⟨⟨by decide +kernel, by decide +kernel⟩, List.mem_of_getElem? (i := 1179) (by decide +kernel), List.mem_of_getElem? (i := 1807) (by decide +kernel), List.mem_of_getElem? (i := 1808) (by decide +kernel)⟩
theorem lw_p102 : lw_okq (⟨"IslandCallModel", "turnsTo", "(IZ)I"⟩, 37) := ⟨⟨by decide +kernel, by decide +kernel⟩, List.mem_of_getElem? (i := 1179) (by decide +kernel), List.mem_of_getElem? (i := 1811) (by decide +kernel), List.mem_of_getElem? (i := 1812) (by decide +kernel)⟩
theorem lw_p103 : lw_okq (⟨"IslandCallModel", "tellsBy", "(JJ)Z"⟩, 37) := ⟨⟨by decide +kernel, by decide +kernel⟩, List.mem_of_getElem? (i := 1179) (by decide +kernel), List.mem_of_getElem? (i := 1824) (by decide +kernel), List.mem_of_getElem? (i := 1825) (by decide +kernel)⟩
theorem lw_p104 : lw_okq (⟨"IslandCallModel", "lives", "(I)V"⟩, 37) := ⟨⟨by decide +kernel, by decide +kernel⟩, List.mem_of_getElem? (i := 1179) (by decide +kernel), List.mem_of_getElem? (i := 1841) (by decide +kernel), List.mem_of_getElem? (i := 1842) (by decide +kernel)⟩
theorem lw_p105 : lw_okq (⟨"IslandCallModel", "does", "(I)Z"⟩, 37) := ⟨⟨by decide +kernel, by decide +kernel⟩, List.mem_of_getElem? (i := 1179) (by decide +kernel), List.mem_of_getElem? (i := 1845) (by decide +kernel), List.mem_of_getElem? (i := 1846) (by decide +kernel)⟩
theorem lw_p106 : lw_okq (⟨"IslandCallModel", "callsBy", "()Z"⟩, 37) := ⟨⟨by decide +kernel, by decide +kernel⟩, List.mem_of_getElem? (i := 1179) (by decide +kernel), List.mem_of_getElem? (i := 1849) (by decide +kernel), List.mem_of_getElem? (i := 1850) (by decide +kernel)⟩
theorem lw_p107 : lw_okq (⟨"IslandCallModel", "draw", "(I)I"⟩, 37) := ⟨⟨by decide +kernel, by decide +kernel⟩, List.mem_of_getElem? (i := 1179) (by decide +kernel), List.mem_of_getElem? (i := 1853) (by decide +kernel), List.mem_of_getElem? (i := 1854) (by decide +kernel)⟩
theorem lw_p108 : lw_okq (⟨"IslandCallModel", "holds", "(I)Z"⟩, 37) := ⟨⟨by decide +kernel, by decide +kernel⟩, List.mem_of_getElem? (i := 1179) (by decide +kernel), List.mem_of_getElem? (i := 1858) (by decide +kernel), List.mem_of_getElem? (i := 1859) (by decide +kernel)⟩
theorem lw_p109 : lw_okq (⟨"IslandCallModel", "behindEnds", "(I)I"⟩, 37) := ⟨⟨by decide +kernel, by decide +kernel⟩, List.mem_of_getElem? (i := 1179) (by decide +kernel), List.mem_of_getElem? (i := 1862) (by decide +kernel), List.mem_of_getElem? (i := 1863) (by decide +kernel)⟩
theorem lw_p110 : lw_okq (⟨"IslandCallModel", "copies", "(II)V"⟩, 37) := ⟨⟨by decide +kernel, by decide +kernel⟩, List.mem_of_getElem? (i := 1179) (by decide +kernel), List.mem_of_getElem? (i := 1878) (by decide +kernel), List.mem_of_getElem? (i := 1879) (by decide +kernel)⟩
def lw_privs_7 : List (MethodName × Nat) := [(⟨"IslandCallModel", "restores", "(I)V"⟩, 37), (⟨"IslandCallModel", "wrongFits", "(III)I"⟩, 37), (⟨"IslandCallModel", "holdsOf", "(III)I"⟩, 37), (⟨"IslandCallModel", "doesFit", "(IIII)Z"⟩, 37), (⟨"IslandCallModel", "lookoutsOf", "()I"⟩, 37), (⟨"IslandCallModel", "playing", "(I)I"⟩, 37), (⟨"IslandCallModel", "turnsTo", "(IZ)I"⟩, 37), (⟨"IslandCallModel", "tellsBy", "(JJ)Z"⟩, 37), (⟨"IslandCallModel", "lives", "(I)V"⟩, 37), (⟨"IslandCallModel", "does", "(I)Z"⟩, 37), (⟨"IslandCallModel", "callsBy", "()Z"⟩, 37), (⟨"IslandCallModel", "draw", "(I)I"⟩, 37), (⟨"IslandCallModel", "holds", "(I)Z"⟩, 37), (⟨"IslandCallModel", "behindEnds", "(I)I"⟩, 37), (⟨"IslandCallModel", "copies", "(II)V"⟩, 37)]
theorem lw_r7 : ∀ q ∈ lw_privs_7, lw_okq q := List.forall_mem_cons.mpr ⟨lw_p96, List.forall_mem_cons.mpr ⟨lw_p97, List.forall_mem_cons.mpr ⟨lw_p98, List.forall_mem_cons.mpr ⟨lw_p99, List.forall_mem_cons.mpr ⟨lw_p100, List.forall_mem_cons.mpr ⟨lw_p101, List.forall_mem_cons.mpr ⟨lw_p102, List.forall_mem_cons.mpr ⟨lw_p103, List.forall_mem_cons.mpr ⟨lw_p104, List.forall_mem_cons.mpr ⟨lw_p105, List.forall_mem_cons.mpr ⟨lw_p106, List.forall_mem_cons.mpr ⟨lw_p107, List.forall_mem_cons.mpr ⟨lw_p108, List.forall_mem_cons.mpr ⟨lw_p109, List.forall_mem_cons.mpr ⟨lw_p110, fun _ h => absurd h List.not_mem_nil⟩⟩⟩⟩⟩⟩⟩⟩⟩⟩⟩⟩⟩⟩⟩
def lw_privs : List (MethodName × Nat) := lw_privs_1 ++ (lw_privs_2 ++ (lw_privs_3 ++ (lw_privs_4 ++ (lw_privs_5 ++ (lw_privs_6 ++ (lw_privs_7))))))
def lw_tbl : List Cond := k2_sels lw_privs ++ tables_1
theorem lw_privs_ok : ∀ q ∈ lw_privs, lw_okq q := by
  show ∀ q ∈ lw_privs_1 ++ (lw_privs_2 ++ (lw_privs_3 ++ (lw_privs_4 ++ (lw_privs_5 ++ (lw_privs_6 ++ (lw_privs_7)))))), lw_okq q
  exact List.forall_mem_append.mpr ⟨lw_r1, List.forall_mem_append.mpr ⟨lw_r2, List.forall_mem_append.mpr ⟨lw_r3, List.forall_mem_append.mpr ⟨lw_r4, List.forall_mem_append.mpr ⟨lw_r5, List.forall_mem_append.mpr ⟨lw_r6, lw_r7⟩⟩⟩⟩⟩⟩
end
section
/-! The program: printed by wip/gen/tables.py. -/
abbrev am_Row : Type := Nat × am_I × MethodName × ByteArray × List (List (Nat × Instr × Nat × Nat))
def am_look {α : Type} : List (Nat × α) → Nat → Option α
  | [], _ => none
  | (k, v) :: t, i => match Nat.beq k i with
    | true => some v
    | false => am_look t i
def am_rfind : List am_Row → Nat → Option am_Row
  | [], _ => none
  | r :: t, i => match Nat.beq r.1 i with
    | true => some r
    | false => am_rfind t i
def tb_nm : List String := ["IslandCall$Boat", "IslandCall$BoatReader", "IslandCall$Fraction", "IslandCall$Life", "IslandCall$Study", "IslandCall$Tokens", "IslandCall$Trays", "IslandCall$Years", "IslandCall$YearsReader", "IslandCall", "IslandCallModel", "IslandCallLaw", "java/lang/Integer", "java/lang/Math", "java/lang/String", "java/lang/StringLatin1", "java/lang/StringUTF16", "java/lang/System", "jdk/internal/util/Preconditions"]
def tb_F0 : List (String × String × String × Bool) := [("IslandCall$Boat", "plank", "I", false), ("IslandCall$Boat", "habit", "I", false), ("IslandCall$Boat", "odds", "I", false), ("IslandCall$Boat", "calls", "I", false), ("IslandCall$Boat", "omens", "I", false), ("IslandCall$Boat", "people", "I", false), ("IslandCall$Boat", "shown", "I", false), ("IslandCall$Boat", "aboard", "I", false), ("IslandCall$Boat", "pull", "[I", true), ("IslandCall$Boat", "omenNames", "[J", true), ("IslandCall$Boat", "hold", "[I", true), ("IslandCall$Boat", "sat", "[I", true), ("IslandCall$Boat", "excused", "[I", true), ("IslandCall$Boat", "sees", "[I", true), ("IslandCall$Boat", "personNames", "[J", true), ("IslandCall$Boat", "needs", "[I", true)]
def tb_t0 : List FieldType := [.int, .int, .int, .int, .int, .int, .int, .int, .array (.int), .array (.long), .array (.int), .array (.int), .array (.int), .array (.int), .array (.long), .array (.int)]
def tb_F1 : List (String × String × String × Bool) := [("IslandCall$BoatReader", "tokens", "LIslandCall$Tokens;", true), ("IslandCall$BoatReader", "boat", "LIslandCall$Boat;", true), ("IslandCall$BoatReader", "rulesTold", "I", false)]
def tb_t1 : List FieldType := [.object "IslandCall$Tokens", .object "IslandCall$Boat", .int]
def tb_F2 : List (String × String × String × Bool) := [("IslandCall$Fraction", "above", "J", false), ("IslandCall$Fraction", "below", "J", false)]
def tb_t2 : List FieldType := [.long, .long]
def tb_F3 : List (String × String × String × Bool) := [("IslandCall$Life", "wasRun", "Z", false), ("IslandCall$Life", "steps", "I", false), ("IslandCall$Life", "missed", "I", false), ("IslandCall$Life", "callsMade", "I", false), ("IslandCall$Life", "gotOut", "I", false), ("IslandCall$Life", "satOn", "I", false), ("IslandCall$Life", "cutShort", "Z", false), ("IslandCall$Life", "chance", "I", false), ("IslandCall$Life", "timesLeft", "[I", true)]
def tb_t3 : List FieldType := [.boolean, .int, .int, .int, .int, .int, .boolean, .int, .array (.int)]
def tb_F4 : List (String × String × String × Bool) := [("IslandCall$Study", "boat", "LIslandCall$Boat;", true), ("IslandCall$Study", "worth", "[I", true), ("IslandCall$Study", "worthAhead", "[I", true)]
def tb_t4 : List FieldType := [.object "IslandCall$Boat", .array (.int), .array (.int)]
def tb_F5 : List (String × String × String × Bool) := [("IslandCall$Tokens", "text", "[I", true), ("IslandCall$Tokens", "keywordCodes", "[J", true), ("IslandCall$Tokens", "length", "I", false), ("IslandCall$Tokens", "next", "I", false), ("IslandCall$Tokens", "start", "I", false), ("IslandCall$Tokens", "kind", "I", false), ("IslandCall$Tokens", "value", "I", false), ("IslandCall$Tokens", "code", "J", false), ("IslandCall$Tokens", "keyword", "I", false), ("IslandCall$Tokens", "faultKind", "I", false), ("IslandCall$Tokens", "faultPlace", "I", false)]
def tb_t5 : List FieldType := [.array (.int), .array (.long), .int, .int, .int, .int, .int, .long, .int, .int, .int]
def tb_F6 : List (String × String × String × Bool) := [("IslandCall$Trays", "rows", "[[J", true), ("IslandCall$Trays", "sorts", "[I", true), ("IslandCall$Trays", "lengths", "[I", true), ("IslandCall$Trays", "laid", "[Z", true)]
def tb_t6 : List FieldType := [.array (.array (.long)), .array (.int), .array (.int), .array (.boolean)]
def tb_F7 : List (String × String × String × Bool) := [("IslandCall$Years", "isTold", "Z", false), ("IslandCall$Years", "steps", "I", false), ("IslandCall$Years", "entries", "I", false), ("IslandCall$Years", "words", "[I", true), ("IslandCall$Years", "tests", "[I", true), ("IslandCall$Years", "signs", "[I", true), ("IslandCall$Years", "things", "[I", true), ("IslandCall$Years", "numbers", "[I", true), ("IslandCall$Years", "partners", "[I", true)]
def tb_t7 : List FieldType := [.boolean, .int, .int, .array (.int), .array (.int), .array (.int), .array (.int), .array (.int), .array (.int)]
def tb_F8 : List (String × String × String × Bool) := [("IslandCall$YearsReader", "tokens", "LIslandCall$Tokens;", true), ("IslandCall$YearsReader", "years", "LIslandCall$Years;", true), ("IslandCall$YearsReader", "boat", "LIslandCall$Boat;", true), ("IslandCall$YearsReader", "open", "[I", true), ("IslandCall$YearsReader", "depth", "I", false)]
def tb_t8 : List FieldType := [.object "IslandCall$Tokens", .object "IslandCall$Years", .object "IslandCall$Boat", .array (.int), .int]
def tb_F9 : List (String × String × String × Bool) := [("IslandCall", "lastStatus", "I", false), ("IslandCall", "tapeLength", "I", false), ("IslandCall", "marks", "I", false), ("IslandCall", "tape", "[I", true), ("IslandCall", "trays", "LIslandCall$Trays;", true), ("IslandCall", "fraction", "LIslandCall$Fraction;", true), ("IslandCall", "ship", "LIslandCall$Boat;", true), ("IslandCall", "plan", "LIslandCall$Years;", true), ("IslandCall", "spareShip", "LIslandCall$Boat;", true), ("IslandCall", "sparePlan", "LIslandCall$Years;", true), ("IslandCall", "keptShips", "[LIslandCall$Boat;", true), ("IslandCall", "keptPlans", "[LIslandCall$Years;", true), ("IslandCall", "tokens", "LIslandCall$Tokens;", true), ("IslandCall", "boatReader", "LIslandCall$BoatReader;", true), ("IslandCall", "yearsReader", "LIslandCall$YearsReader;", true), ("IslandCall", "latestLife", "LIslandCall$Life;", true), ("IslandCall", "spareLife", "LIslandCall$Life;", true), ("IslandCall", "study", "LIslandCall$Study;", true)]
def tb_t9 : List FieldType := [.int, .int, .int, .array (.int), .object "IslandCall$Trays", .object "IslandCall$Fraction", .object "IslandCall$Boat", .object "IslandCall$Years", .object "IslandCall$Boat", .object "IslandCall$Years", .array (.object "IslandCall$Boat"), .array (.object "IslandCall$Years"), .object "IslandCall$Tokens", .object "IslandCall$BoatReader", .object "IslandCall$YearsReader", .object "IslandCall$Life", .object "IslandCall$Life", .object "IslandCall$Study"]
def tb_F10 : List (String × String × String × Bool) := [("IslandCallModel", "at", "[I", true), ("IslandCallModel", "names", "[J", true), ("IslandCallModel", "status", "I", false), ("IslandCallModel", "top", "J", false), ("IslandCallModel", "bottom", "J", false), ("IslandCallModel", "sort", "[I", true), ("IslandCallModel", "trayMany", "[I", true), ("IslandCallModel", "trays", "[J", true), ("IslandCallModel", "tape", "[B", true), ("IslandCallModel", "text", "[B", true), ("IslandCallModel", "taped", "I", false), ("IslandCallModel", "size", "I", false), ("IslandCallModel", "token", "I", false), ("IslandCallModel", "from", "I", false), ("IslandCallModel", "end", "I", false), ("IslandCallModel", "value", "I", false), ("IslandCallModel", "faultKind", "I", false), ("IslandCallModel", "faultPlace", "I", false), ("IslandCallModel", "faults", "I", false), ("IslandCallModel", "seen", "I", false), ("IslandCallModel", "toldParts", "I", false), ("IslandCallModel", "opened", "[I", true), ("IslandCallModel", "depth", "I", false), ("IslandCallModel", "counted", "I", false), ("IslandCallModel", "roseIn", "[I", true), ("IslandCallModel", "roundMany", "I", false), ("IslandCallModel", "cameBy", "[I", true), ("IslandCallModel", "cameThen", "[I", true), ("IslandCallModel", "firstOmen", "I", false), ("IslandCallModel", "madeBy", "[J", true), ("IslandCallModel", "drawn", "I", false), ("IslandCallModel", "ranSteps", "I", false), ("IslandCallModel", "loops", "[I", true), ("IslandCallModel", "ran", "[I", true), ("IslandCallModel", "told1", "[I", true), ("IslandCallModel", "isTold", "Z", false), ("IslandCallModel", "marks", "I", false)]
def tb_t10 : List FieldType := [.array (.int), .array (.long), .int, .long, .long, .array (.int), .array (.int), .array (.long), .array (.byte), .array (.byte), .int, .int, .int, .int, .int, .int, .int, .int, .int, .int, .int, .array (.int), .int, .int, .array (.int), .int, .array (.int), .array (.int), .int, .array (.long), .int, .int, .array (.int), .array (.int), .array (.int), .boolean, .int]
def tb_Fs : List (List (String × String × String × Bool)) := [tb_F0, tb_F1, tb_F2, tb_F3, tb_F4, tb_F5, tb_F6, tb_F7, tb_F8, tb_F9, tb_F10]
def tb_ts : List (List FieldType) := [tb_t0, tb_t1, tb_t2, tb_t3, tb_t4, tb_t5, tb_t6, tb_t7, tb_t8, tb_t9, tb_t10]
def tb_u (ci : Nat) : u_T := fun k => (tb_Fs.getD ci []).getD k ("", "", "", false)
abbrev tb_cl : List vw_C := [(tb_nm.getD 0 "", tb_u 0, 16), (tb_nm.getD 1 "", tb_u 1, 3), (tb_nm.getD 2 "", tb_u 2, 2), (tb_nm.getD 3 "", tb_u 3, 9), (tb_nm.getD 4 "", tb_u 4, 3), (tb_nm.getD 5 "", tb_u 5, 11), (tb_nm.getD 6 "", tb_u 6, 4), (tb_nm.getD 7 "", tb_u 7, 9), (tb_nm.getD 8 "", tb_u 8, 5), (tb_nm.getD 9 "", tb_u 9, 18), (tb_nm.getD 10 "", tb_u 10, 37)]
def tb_f0 : List (Nat × (Nat × Nat)) := [(9, (0, 8)), (15, (0, 9)), (19, (0, 10)), (22, (0, 11)), (25, (0, 12)), (28, (0, 13)), (31, (0, 14)), (34, (0, 15)), (40, (0, 0)), (44, (0, 1)), (47, (0, 2)), (50, (0, 3)), (53, (0, 4)), (56, (0, 5)), (59, (0, 6)), (62, (0, 7))]
def tb_f1 : List (Nat × (Nat × Nat)) := [(9, (1, 0)), (15, (1, 1)), (30, (1, 2)), (44, (5, 8)), (68, (5, 6)), (84, (0, 4)), (90, (5, 7)), (105, (0, 6)), (111, (0, 5)), (117, (0, 7)), (126, (0, 12)), (130, (0, 13))]
def tb_f2 : List (Nat × (Nat × Nat)) := [(7, (2, 0)), (13, (2, 1))]
def tb_f3 : List (Nat × (Nat × Nat)) := [(11, (3, 8)), (17, (3, 0)), (21, (3, 1)), (25, (3, 2)), (28, (3, 3)), (31, (3, 4)), (34, (3, 5)), (37, (3, 6)), (40, (3, 7)), (44, (7, 2)), (47, (7, 3)), (58, (7, 8)), (61, (7, 6)), (64, (7, 7)), (71, (0, 2)), (91, (0, 10)), (112, (0, 7)), (116, (7, 4)), (122, (0, 6)), (125, (7, 5))]
def tb_f4 : List (Nat × (Nat × Nat)) := [(11, (4, 1)), (15, (4, 2)), (18, (4, 0)), (28, (0, 5)), (32, (0, 7)), (63, (0, 4)), (80, (0, 13)), (99, (0, 6))]
def tb_f5 : List (Nat × (Nat × Nat)) := [(9, (5, 1)), (15, (5, 9)), (19, (5, 10)), (22, (5, 0)), (40, (5, 2)), (42, (5, 3)), (45, (5, 4)), (48, (5, 8)), (51, (5, 7)), (55, (5, 6)), (58, (5, 5))]
def tb_f6 : List (Nat × (Nat × Nat)) := [(13, (6, 0)), (16, (6, 1)), (20, (6, 2)), (23, (6, 3))]
def tb_f7 : List (Nat × (Nat × Nat)) := [(11, (7, 3)), (15, (7, 4)), (18, (7, 5)), (21, (7, 6)), (24, (7, 7)), (27, (7, 8)), (30, (7, 0)), (34, (7, 1)), (38, (7, 2))]
def tb_f8 : List (Nat × (Nat × Nat)) := [(11, (8, 3)), (15, (8, 0)), (19, (8, 1)), (23, (8, 2)), (38, (7, 0)), (42, (8, 4)), (57, (5, 8)), (60, (7, 2)), (83, (7, 8)), (86, (7, 1)), (99, (7, 4)), (108, (5, 7)), (118, (7, 6)), (124, (7, 5)), (127, (5, 6)), (136, (7, 7))]
def tb_f9 : List (Nat × (Nat × Nat)) := [(9, (9, 3)), (16, (9, 4)), (23, (9, 5)), (30, (9, 6)), (37, (9, 7)), (41, (9, 8)), (44, (9, 9)), (47, (9, 10)), (51, (9, 11)), (60, (9, 12)), (69, (9, 13)), (78, (9, 14)), (85, (9, 15)), (89, (9, 16)), (97, (9, 17)), (101, (9, 0)), (105, (2, 0)), (109, (2, 1)), (149, (9, 1)), (169, (0, 5)), (179, (7, 1)), (182, (5, 9)), (185, (5, 10)), (188, (0, 4)), (191, (0, 0)), (194, (0, 1)), (197, (0, 2)), (200, (0, 3)), (203, (0, 7)), (206, (0, 6)), (216, (0, 8)), (225, (0, 10)), (231, (0, 11)), (234, (0, 12)), (237, (0, 13)), (373, (7, 0)), (381, (3, 1)), (382, (3, 0)), (385, (3, 2)), (388, (3, 3)), (391, (3, 4)), (394, (3, 5)), (397, (3, 6)), (400, (9, 2))]
def tb_f10 : List (Nat × (Nat × Nat)) := [(7, (10, 0)), (13, (10, 1)), (17, (10, 4)), (21, (10, 5)), (24, (10, 6)), (27, (10, 7)), (30, (10, 8)), (34, (10, 9)), (37, (10, 16)), (41, (10, 17)), (44, (10, 21)), (47, (10, 24)), (50, (10, 26)), (53, (10, 27)), (56, (10, 29)), (59, (10, 32)), (62, (10, 33)), (65, (10, 34)), (72, (10, 2)), (75, (10, 3)), (102, (10, 10)), (108, (10, 11)), (111, (10, 14)), (117, (10, 13)), (120, (10, 15)), (123, (10, 12)), (148, (10, 18)), (151, (10, 19)), (206, (10, 20)), (241, (10, 22)), (244, (10, 23)), (302, (10, 25)), (390, (10, 28)), (406, (10, 30)), (416, (10, 31)), (433, (10, 35)), (437, (10, 36))]
def tb_f11 : List (Nat × (Nat × Nat)) := []
def tb_f12 : List (Nat × (Nat × Nat)) := []
def tb_f13 : List (Nat × (Nat × Nat)) := []
def tb_f14 : List (Nat × (Nat × Nat)) := []
def tb_f15 : List (Nat × (Nat × Nat)) := []
def tb_f16 : List (Nat × (Nat × Nat)) := []
def tb_f17 : List (Nat × (Nat × Nat)) := []
def tb_f18 : List (Nat × (Nat × Nat)) := []
def tb_fs : List (List (Nat × (Nat × Nat))) := [tb_f0, tb_f1, tb_f2, tb_f3, tb_f4, tb_f5, tb_f6, tb_f7, tb_f8, tb_f9, tb_f10, tb_f11, tb_f12, tb_f13, tb_f14, tb_f15, tb_f16, tb_f17, tb_f18]
def tb_m0 : List (Nat × Nat) := [(3, 0), (37, 5), (65, 1), (71, 11), (75, 23), (79, 328), (85, 26), (89, 25), (93, 27), (96, 3)]
def tb_m1 : List (Nat × Nat) := [(3, 0), (19, 74), (25, 5), (34, 76), (38, 79), (41, 33), (47, 34), (51, 36), (54, 37), (57, 39), (60, 75), (64, 86), (71, 17), (74, 85), (77, 13), (81, 14), (87, 83), (94, 35), (98, 84), (101, 15), (108, 82), (114, 16), (120, 38), (123, 80)]
def tb_m2 : List (Nat × Nat) := [(1, 0)]
def tb_m3 : List (Nat × Nat) := [(3, 0), (50, 44), (54, 45), (67, 47), (76, 48), (80, 21), (84, 46), (88, 22), (94, 49), (98, 29), (102, 30), (106, 328), (119, 11)]
def tb_m4 : List (Nat × Nat) := [(3, 0), (22, 25), (35, 26), (39, 27), (43, 58), (47, 328), (53, 28), (56, 11), (60, 59), (66, 61), (69, 23), (72, 2), (77, 67), (83, 20), (86, 70), (90, 3), (93, 1)]
def tb_m5 : List (Nat × Nat) := [(3, 0), (28, 329), (34, 330), (61, 77), (64, 78), (68, 75), (72, 76), (75, 80), (78, 82)]
def tb_m6 : List (Nat × Nat) := [(3, 0), (27, 88), (31, 89), (34, 97), (38, 1)]
def tb_m7 : List (Nat × Nat) := [(5, 0), (41, 1)]
def tb_m8 : List (Nat × Nat) := [(3, 0), (27, 74), (33, 99), (46, 76), (50, 79), (53, 75), (63, 104), (66, 105), (69, 107), (72, 106), (76, 85), (79, 101), (89, 108), (92, 109), (95, 111), (102, 110), (105, 83), (112, 13), (121, 14), (130, 81), (133, 86)]
def tb_m9 : List (Nat × Nat) := [(1, 0), (15, 87), (22, 40), (29, 4), (36, 98), (57, 73), (66, 31), (75, 102), (84, 42), (94, 50), (112, 88), (116, 119), (120, 118), (123, 91), (127, 92), (131, 93), (135, 94), (141, 95), (145, 96), (152, 125), (156, 117), (160, 32), (163, 6), (166, 99), (172, 116), (175, 103), (176, 100), (209, 18), (213, 7), (219, 19), (222, 8), (228, 24), (240, 20), (243, 29), (247, 30), (250, 21), (254, 22), (257, 328), (262, 16), (266, 17), (270, 9), (274, 11), (277, 142), (280, 51), (283, 28), (286, 52), (289, 53), (292, 10), (295, 54), (298, 55), (301, 56), (304, 57), (307, 59), (310, 60), (313, 62), (316, 63), (319, 61), (322, 64), (325, 159), (328, 12), (331, 89), (334, 90), (337, 23), (341, 163), (344, 164), (347, 65), (350, 66), (353, 68), (356, 69), (360, 71), (363, 72), (366, 174), (369, 41), (377, 43)]
def tb_m10 : List (Nat × Nat) := [(1, 0), (68, 183), (78, 188), (82, 189), (85, 187), (89, 192), (92, 195), (96, 193), (105, 201), (114, 202), (126, 203), (129, 204), (133, 3), (138, 329), (144, 330), (154, 205), (157, 206), (160, 208), (163, 207), (167, 214), (173, 213), (177, 215), (180, 220), (184, 211), (188, 212), (191, 219), (194, 218), (197, 223), (200, 221), (203, 225), (209, 222), (213, 224), (216, 226), (219, 210), (222, 209), (226, 227), (229, 217), (232, 230), (235, 229), (238, 231), (247, 232), (250, 233), (253, 237), (256, 199), (260, 238), (263, 241), (266, 243), (269, 246), (272, 248), (275, 2), (278, 244), (281, 250), (284, 235), (287, 252), (290, 236), (293, 249), (296, 245), (299, 247), (305, 242), (308, 255), (312, 256), (315, 258), (318, 260), (321, 262), (326, 264), (335, 239), (339, 257), (342, 240), (345, 276), (348, 280), (351, 283), (354, 190), (357, 286), (360, 289), (365, 293), (368, 295), (371, 294), (376, 300), (380, 299), (384, 301), (387, 305), (393, 309), (397, 310), (402, 191), (410, 317), (413, 316), (419, 318), (422, 319), (425, 320), (430, 321), (440, 325)]
def tb_m11 : List (Nat × Nat) := [(9, 112), (12, 182), (13, 113), (17, 184), (18, 114), (22, 185), (23, 115), (26, 186), (27, 120), (31, 194), (34, 121), (38, 196), (39, 122), (43, 197), (44, 123), (48, 198), (49, 124), (53, 200), (54, 126), (58, 228), (59, 127), (62, 234), (63, 128), (66, 216), (67, 129), (70, 251), (71, 130), (75, 253), (76, 131), (79, 254), (80, 132), (83, 259), (84, 133), (88, 261), (89, 134), (92, 263), (93, 135), (97, 265), (98, 136), (102, 266), (103, 137), (106, 267), (107, 138), (110, 268), (111, 139), (114, 269), (115, 140), (118, 270), (119, 141), (122, 271), (123, 143), (126, 272), (127, 144), (130, 273), (131, 145), (134, 274), (135, 146), (138, 275), (139, 147), (142, 277), (143, 148), (146, 278), (147, 149), (150, 279), (151, 150), (154, 281), (155, 151), (158, 282), (159, 152), (162, 284), (163, 153), (166, 285), (167, 154), (170, 287), (171, 155), (174, 288), (175, 156), (178, 290), (179, 157), (182, 291), (183, 158), (186, 292), (187, 160), (190, 296), (191, 161), (194, 297), (195, 162), (198, 298), (199, 165), (203, 302), (204, 166), (208, 303), (209, 167), (212, 304), (213, 168), (216, 306), (217, 169), (220, 307), (221, 170), (224, 308), (225, 171), (228, 311), (229, 172), (232, 312), (233, 173), (236, 313), (237, 175), (241, 314), (242, 176), (245, 315), (246, 177), (249, 322), (250, 178), (253, 323), (254, 179), (257, 324), (258, 180), (261, 326), (262, 181), (265, 327)]
def tb_m12 : List (Nat × Nat) := []
def tb_m13 : List (Nat × Nat) := []
def tb_m14 : List (Nat × Nat) := [(335, 331), (492, 332), (495, 334), (498, 337), (1059, 339)]
def tb_m15 : List (Nat × Nat) := [(9, 333)]
def tb_m16 : List (Nat × Nat) := [(48, 336), (67, 338), (71, 335), (414, 333)]
def tb_m17 : List (Nat × Nat) := []
def tb_m18 : List (Nat × Nat) := []
def tb_ms : List (List (Nat × Nat)) := [tb_m0, tb_m1, tb_m2, tb_m3, tb_m4, tb_m5, tb_m6, tb_m7, tb_m8, tb_m9, tb_m10, tb_m11, tb_m12, tb_m13, tb_m14, tb_m15, tb_m16, tb_m17, tb_m18]
def tb_k0 : List (Nat × Value) := []
def tb_k1 : List (Nat × Value) := []
def tb_k2 : List (Nat × Value) := []
def tb_k3 : List (Nat × Value) := [(43, .int (100000)), (115, .int (65536))]
def tb_k4 : List (Nat × Value) := []
def tb_k5 : List (Nat × Value) := [(26, .retAddr 2), (38, .long (32))]
def tb_k6 : List (Nat × Value) := [(11, .double 3)]
def tb_k7 : List (Nat × Value) := []
def tb_k8 : List (Nat × Value) := []
def tb_k9 : List (Nat × Value) := [(139, .long (-1))]
def tb_k10 : List (Nat × Value) := [(100, .long (-1)), (132, .int (100000)), (171, .retAddr 4), (324, .long (9)), (329, .long (5)), (331, .long (3)), (333, .long (16)), (363, .long (60)), (374, .long (20)), (400, .long (12)), (409, .int (65536)), (428, .long (9999))]
def tb_k11 : List (Nat × Value) := [(32, .long (4294967295))]
def tb_k12 : List (Nat × Value) := [(265, .int (1431655765)), (266, .int (858993459)), (267, .int (252645135))]
def tb_k13 : List (Nat × Value) := []
def tb_k14 : List (Nat × Value) := [(9, .float 2), (15, .float 1), (38, .double 1), (1053, .double 2)]
def tb_k15 : List (Nat × Value) := []
def tb_k16 : List (Nat × Value) := []
def tb_k17 : List (Nat × Value) := []
def tb_k18 : List (Nat × Value) := []
def tb_ks : List (List (Nat × Value)) := [tb_k0, tb_k1, tb_k2, tb_k3, tb_k4, tb_k5, tb_k6, tb_k7, tb_k8, tb_k9, tb_k10, tb_k11, tb_k12, tb_k13, tb_k14, tb_k15, tb_k16, tb_k17, tb_k18]
def tb_c0 : List (Nat × Nat) := []
def tb_c1 : List (Nat × Nat) := []
def tb_c2 : List (Nat × Nat) := []
def tb_c3 : List (Nat × Nat) := []
def tb_c4 : List (Nat × Nat) := []
def tb_c5 : List (Nat × Nat) := []
def tb_c6 : List (Nat × Nat) := []
def tb_c7 : List (Nat × Nat) := []
def tb_c8 : List (Nat × Nat) := []
def tb_c9 : List (Nat × Nat) := [(13, 6), (20, 2), (27, 0), (34, 7), (55, 5), (64, 1), (73, 8), (82, 3), (92, 4)]
def tb_c10 : List (Nat × Nat) := []
def tb_c11 : List (Nat × Nat) := [(7, 9), (10, 10)]
def tb_c12 : List (Nat × Nat) := []
def tb_c13 : List (Nat × Nat) := []
def tb_c14 : List (Nat × Nat) := []
def tb_c15 : List (Nat × Nat) := []
def tb_c16 : List (Nat × Nat) := []
def tb_c17 : List (Nat × Nat) := []
def tb_c18 : List (Nat × Nat) := []
def tb_cs : List (List (Nat × Nat)) := [tb_c0, tb_c1, tb_c2, tb_c3, tb_c4, tb_c5, tb_c6, tb_c7, tb_c8, tb_c9, tb_c10, tb_c11, tb_c12, tb_c13, tb_c14, tb_c15, tb_c16, tb_c17, tb_c18]
def cd_4 : List (List (Nat × Instr × Nat × Nat)) := [[(0, .aload_n 0, 1, 0), (1, .invokespecial 3, 3, 0), (4, .aload_n 0, 1, 0), (5, .bipush 6, 2, 0), (7, .newarray .int, 2, 0), (9, .putfield 9, 3, 0), (12, .aload_n 0, 1, 0), (13, .bipush 6, 2, 0), (15, .newarray .long, 2, 0)], [(17, .putfield 15, 3, 0), (20, .aload_n 0, 1, 0), (21, .bipush 8, 2, 0), (23, .newarray .int, 2, 0), (25, .putfield 19, 3, 0), (28, .aload_n 0, 1, 0), (29, .bipush 8, 2, 0), (31, .newarray .int, 2, 0)], [(33, .putfield 22, 3, 0), (36, .aload_n 0, 1, 0), (37, .bipush 8, 2, 0), (39, .newarray .int, 2, 0), (41, .putfield 25, 3, 0), (44, .aload_n 0, 1, 0), (45, .bipush 8, 2, 0), (47, .newarray .int, 2, 0)], [(49, .putfield 28, 3, 0), (52, .aload_n 0, 1, 0), (53, .bipush 8, 2, 0), (55, .newarray .long, 2, 0), (57, .putfield 31, 3, 0), (60, .aload_n 0, 1, 0), (61, .bipush 8, 2, 0), (63, .newarray .int, 2, 0)], [(65, .putfield 34, 3, 0), (68, .aload_n 0, 1, 0), (69, .invokevirtual 37, 3, 0), (72, .return_, 1, 0)]]
/-- X0_init -/
def rw_4 : am_Row := (4, (0, 1, none, 1, 2, 8, 60), ⟨"IslandCall$Boat", "<init>", "()V"⟩, prog_2_method_1_code, cd_4)
def cd_5 : List (List (Nat × Instr × Nat × Nat)) := [[(0, .aload_n 0, 1, 0), (1, .iconst 4, 1, 0), (2, .putfield 40, 3, 0), (5, .aload_n 0, 1, 0), (6, .iconst 1, 1, 0), (7, .putfield 44, 3, 0), (10, .aload_n 0, 1, 0), (11, .bipush 12, 2, 0), (13, .putfield 47, 3, 0)], [(16, .aload_n 0, 1, 0), (17, .iconst 0, 1, 0), (18, .putfield 50, 3, 0), (21, .aload_n 0, 1, 0), (22, .iconst 0, 1, 0), (23, .putfield 53, 3, 0), (26, .aload_n 0, 1, 0), (27, .iconst 0, 1, 0), (28, .putfield 56, 3, 0), (31, .aload_n 0, 1, 0)], [(32, .iconst 0, 1, 0), (33, .putfield 59, 3, 0), (36, .aload_n 0, 1, 0), (37, .iconst 0, 1, 0), (38, .putfield 62, 3, 0), (41, .return_, 1, 0)]]
/-- X0_empty -/
def rw_5 : am_Row := (5, (0, 1, none, 1, 1, 0, 0), ⟨"IslandCall$Boat", "empty", "()V"⟩, prog_2_method_2_code, cd_5)
def cd_6 : List (List (Nat × Instr × Nat × Nat)) := [[(0, .aload_n 0, 1, 0), (1, .aload_n 1, 1, 0), (2, .getfield 40, 3, 0), (5, .putfield 40, 3, 0), (8, .aload_n 0, 1, 0), (9, .aload_n 1, 1, 0), (10, .getfield 44, 3, 0), (13, .putfield 44, 3, 0)], [(16, .aload_n 0, 1, 0), (17, .aload_n 1, 1, 0), (18, .getfield 47, 3, 0), (21, .putfield 47, 3, 0), (24, .aload_n 0, 1, 0), (25, .aload_n 1, 1, 0), (26, .getfield 50, 3, 0), (29, .putfield 50, 3, 0)], [(32, .aload_n 0, 1, 0), (33, .aload_n 1, 1, 0), (34, .getfield 53, 3, 0), (37, .putfield 53, 3, 0), (40, .aload_n 0, 1, 0), (41, .aload_n 1, 1, 0), (42, .getfield 56, 3, 0), (45, .putfield 56, 3, 0)], [(48, .aload_n 0, 1, 0), (49, .aload_n 1, 1, 0), (50, .getfield 59, 3, 0), (53, .putfield 59, 3, 0), (56, .aload_n 0, 1, 0), (57, .aload_n 1, 1, 0), (58, .getfield 62, 3, 0), (61, .putfield 62, 3, 0)], [(64, .aload_n 1, 1, 0), (65, .getfield 9, 3, 0), (68, .iconst 0, 1, 0), (69, .aload_n 0, 1, 0), (70, .getfield 9, 3, 0), (73, .iconst 0, 1, 0), (74, .bipush 6, 2, 0), (76, .invokestatic 65, 3, 0), (79, .aload_n 1, 1, 0)], [(80, .getfield 15, 3, 0), (83, .iconst 0, 1, 0), (84, .aload_n 0, 1, 0), (85, .getfield 15, 3, 0), (88, .iconst 0, 1, 0), (89, .bipush 6, 2, 0), (91, .invokestatic 65, 3, 0), (94, .aload_n 1, 1, 0), (95, .getfield 19, 3, 0)], [(98, .iconst 0, 1, 0), (99, .aload_n 0, 1, 0), (100, .getfield 19, 3, 0), (103, .iconst 0, 1, 0), (104, .bipush 8, 2, 0), (106, .invokestatic 65, 3, 0), (109, .aload_n 1, 1, 0), (110, .getfield 22, 3, 0)], [(113, .iconst 0, 1, 0), (114, .aload_n 0, 1, 0), (115, .getfield 22, 3, 0), (118, .iconst 0, 1, 0), (119, .bipush 8, 2, 0), (121, .invokestatic 65, 3, 0), (124, .aload_n 1, 1, 0), (125, .getfield 25, 3, 0)], [(128, .iconst 0, 1, 0), (129, .aload_n 0, 1, 0), (130, .getfield 25, 3, 0), (133, .iconst 0, 1, 0), (134, .bipush 8, 2, 0), (136, .invokestatic 65, 3, 0), (139, .aload_n 1, 1, 0), (140, .getfield 28, 3, 0), (143, .iconst 0, 1, 0)], [(144, .aload_n 0, 1, 0), (145, .getfield 28, 3, 0), (148, .iconst 0, 1, 0), (149, .bipush 8, 2, 0), (151, .invokestatic 65, 3, 0), (154, .aload_n 1, 1, 0), (155, .getfield 31, 3, 0), (158, .iconst 0, 1, 0), (159, .aload_n 0, 1, 0)], [(160, .getfield 31, 3, 0), (163, .iconst 0, 1, 0), (164, .bipush 8, 2, 0), (166, .invokestatic 65, 3, 0), (169, .return_, 1, 0)]]
/-- X0_copyFrom -/
def rw_6 : am_Row := (6, (0, 2, none, 2, 1, 0, 0), ⟨"IslandCall$Boat", "copyFrom", "(LIslandCall$Boat;)V"⟩, prog_2_method_3_code, cd_6)
def cd_7 : List (List (Nat × Instr × Nat × Nat)) := [[(0, .iload_n 1, 1, 0), (1, .ifCond .lt 15, 3, 16), (4, .iload_n 1, 1, 0), (5, .aload_n 0, 1, 0), (6, .getfield 53, 3, 0), (9, .if_icmp .ge 7, 3, 16), (12, .iconst 1, 1, 0), (13, .goto 4, 3, 17)], [(16, .iconst 0, 1, 0), (17, .ireturn, 1, 0)]]
/-- X0_isOmen -/
def rw_7 : am_Row := (7, (0, 2, some (.boolean), 2, 1, 0, 0), ⟨"IslandCall$Boat", "isOmen", "(I)Z"⟩, prog_2_method_4_code, cd_7)
def cd_8 : List (List (Nat × Instr × Nat × Nat)) := [[(0, .iload_n 1, 1, 0), (1, .ifCond .lt 15, 3, 16), (4, .iload_n 1, 1, 0), (5, .aload_n 0, 1, 0), (6, .getfield 56, 3, 0), (9, .if_icmp .ge 7, 3, 16), (12, .iconst 1, 1, 0), (13, .goto 4, 3, 17)], [(16, .iconst 0, 1, 0), (17, .ireturn, 1, 0)]]
/-- X0_isPerson -/
def rw_8 : am_Row := (8, (0, 2, some (.boolean), 2, 1, 0, 0), ⟨"IslandCall$Boat", "isPerson", "(I)Z"⟩, prog_2_method_5_code, cd_8)
def cd_9 : List (List (Nat × Instr × Nat × Nat)) := [[(0, .lload_n 1, 1, 0), (1, .lconst 0, 1, 0), (2, .lcmp, 1, 0), (3, .ifCond .lt 19, 3, 22), (6, .lload_n 1, 1, 0), (7, .iconst 1, 1, 0), (8, .aload_n 0, 1, 0), (9, .getfield 53, 3, 0), (12, .ishl, 1, 0), (13, .i2l, 1, 0), (14, .lcmp, 1, 0), (15, .ifCond .ge 7, 3, 22)], [(18, .iconst 1, 1, 0), (19, .goto 4, 3, 23), (22, .iconst 0, 1, 0), (23, .ireturn, 1, 0)]]
/-- X0_isOmenSet -/
def rw_9 : am_Row := (9, (0, 3, some (.boolean), 2, 1, 0, 0), ⟨"IslandCall$Boat", "isOmenSet", "(J)Z"⟩, prog_2_method_6_code, cd_9)
def cd_10 : List (List (Nat × Instr × Nat × Nat)) := [[(0, .lload_n 1, 1, 0), (1, .lconst 0, 1, 0), (2, .lcmp, 1, 0), (3, .ifCond .lt 19, 3, 22), (6, .lload_n 1, 1, 0), (7, .iconst 1, 1, 0), (8, .aload_n 0, 1, 0), (9, .getfield 56, 3, 0), (12, .ishl, 1, 0), (13, .i2l, 1, 0), (14, .lcmp, 1, 0), (15, .ifCond .ge 7, 3, 22)], [(18, .iconst 1, 1, 0), (19, .goto 4, 3, 23), (22, .iconst 0, 1, 0), (23, .ireturn, 1, 0)]]
/-- X0_isPeopleSet -/
def rw_10 : am_Row := (10, (0, 3, some (.boolean), 2, 1, 0, 0), ⟨"IslandCall$Boat", "isPeopleSet", "(J)Z"⟩, prog_2_method_7_code, cd_10)
def cd_11 : List (List (Nat × Instr × Nat × Nat)) := [[(0, .aload_n 0, 1, 0), (1, .getfield 62, 3, 0), (4, .iload_n 1, 1, 0), (5, .ishr, 1, 0), (6, .iconst 1, 1, 0), (7, .iand, 1, 0), (8, .ifCond .eq 7, 3, 15), (11, .iconst 1, 1, 0), (12, .goto 4, 3, 16), (15, .iconst 0, 1, 0)], [(16, .ireturn, 1, 0)]]
/-- X0_isAboard -/
def rw_11 : am_Row := (11, (0, 2, some (.boolean), 2, 1, 0, 0), ⟨"IslandCall$Boat", "isAboard", "(I)Z"⟩, prog_2_method_8_code, cd_11)
def cd_12 : List (List (Nat × Instr × Nat × Nat)) := [[(0, .aload_n 0, 1, 0), (1, .getfield 62, 3, 0), (4, .iconst (-1), 1, 0), (5, .ixor, 1, 0), (6, .iconst 1, 1, 0), (7, .aload_n 0, 1, 0), (8, .getfield 56, 3, 0), (11, .ishl, 1, 0), (12, .iconst 1, 1, 0), (13, .isub, 1, 0), (14, .iand, 1, 0), (15, .ireturn, 1, 0)]]
/-- X0_outNow -/
def rw_12 : am_Row := (12, (0, 1, some (.int), 1, 1, 0, 0), ⟨"IslandCall$Boat", "outNow", "()I"⟩, prog_2_method_9_code, cd_12)
def cd_13 : List (List (Nat × Instr × Nat × Nat)) := [[(0, .iconst 0, 1, 0), (1, .istore_n 3, 1, 0), (2, .iload_n 3, 1, 0), (3, .aload_n 0, 1, 0), (4, .getfield 53, 3, 0), (7, .if_icmp .ge 22, 3, 29), (10, .aload_n 0, 1, 0), (11, .getfield 15, 3, 0), (14, .iload_n 3, 1, 0), (15, .laload, 1, 0)], [(16, .lload_n 1, 1, 0), (17, .lcmp, 1, 0), (18, .ifCond .ne 5, 3, 23), (21, .iload_n 3, 1, 0), (22, .ireturn, 1, 0), (23, .iinc 3 1, 3, 0), (26, .goto (-24), 3, 2), (29, .iconst (-1), 1, 0), (30, .ireturn, 1, 0)]]
/-- X0_omenNamed -/
def rw_13 : am_Row := (13, (0, 4, some (.int), 2, 1, 0, 0), ⟨"IslandCall$Boat", "omenNamed", "(J)I"⟩, prog_2_method_10_code, cd_13)
def cd_14 : List (List (Nat × Instr × Nat × Nat)) := [[(0, .iconst 0, 1, 0), (1, .istore_n 3, 1, 0), (2, .iload_n 3, 1, 0), (3, .aload_n 0, 1, 0), (4, .getfield 56, 3, 0), (7, .if_icmp .ge 22, 3, 29), (10, .aload_n 0, 1, 0), (11, .getfield 31, 3, 0), (14, .iload_n 3, 1, 0), (15, .laload, 1, 0)], [(16, .lload_n 1, 1, 0), (17, .lcmp, 1, 0), (18, .ifCond .ne 5, 3, 23), (21, .iload_n 3, 1, 0), (22, .ireturn, 1, 0), (23, .iinc 3 1, 3, 0), (26, .goto (-24), 3, 2), (29, .iconst (-1), 1, 0), (30, .ireturn, 1, 0)]]
/-- X0_personNamed -/
def rw_14 : am_Row := (14, (0, 4, some (.int), 2, 1, 0, 0), ⟨"IslandCall$Boat", "personNamed", "(J)I"⟩, prog_2_method_11_code, cd_14)
def cd_15 : List (List (Nat × Instr × Nat × Nat)) := [[(0, .aload_n 0, 1, 0), (1, .getfield 53, 3, 0), (4, .bipush 6, 2, 0), (6, .if_icmp .lt 5, 3, 11), (9, .iconst (-1), 1, 0), (10, .ireturn, 1, 0), (11, .aload_n 0, 1, 0), (12, .getfield 9, 3, 0), (15, .aload_n 0, 1, 0)], [(16, .getfield 53, 3, 0), (19, .iload_n 3, 1, 0), (20, .iastore, 1, 0), (21, .aload_n 0, 1, 0), (22, .getfield 15, 3, 0), (25, .aload_n 0, 1, 0), (26, .getfield 53, 3, 0), (29, .lload_n 1, 1, 0), (30, .lastore, 1, 0), (31, .aload_n 0, 1, 0)], [(32, .dup, 1, 0), (33, .getfield 53, 3, 0), (36, .iconst 1, 1, 0), (37, .iadd, 1, 0), (38, .putfield 53, 3, 0), (41, .aload_n 0, 1, 0), (42, .getfield 53, 3, 0), (45, .iconst 1, 1, 0), (46, .isub, 1, 0), (47, .ireturn, 1, 0)]]
/-- X0_addOmen -/
def rw_15 : am_Row := (15, (0, 4, some (.int), 3, 1, 0, 0), ⟨"IslandCall$Boat", "addOmen", "(JI)I"⟩, prog_2_method_12_code, cd_15)
def cd_16 : List (List (Nat × Instr × Nat × Nat)) := [[(0, .aload_n 0, 1, 0), (1, .getfield 56, 3, 0), (4, .bipush 8, 2, 0), (6, .if_icmp .lt 5, 3, 11), (9, .iconst (-1), 1, 0), (10, .ireturn, 1, 0), (11, .aload_n 0, 1, 0), (12, .getfield 56, 3, 0), (15, .istore 4, 2, 0)], [(17, .aload_n 0, 1, 0), (18, .getfield 19, 3, 0), (21, .iload 4, 2, 0), (23, .iload_n 3, 1, 0), (24, .iastore, 1, 0), (25, .aload_n 0, 1, 0), (26, .getfield 22, 3, 0), (29, .iload 4, 2, 0), (31, .iconst 0, 1, 0)], [(32, .iastore, 1, 0), (33, .aload_n 0, 1, 0), (34, .getfield 25, 3, 0), (37, .iload 4, 2, 0), (39, .iconst 0, 1, 0), (40, .iastore, 1, 0), (41, .aload_n 0, 1, 0), (42, .getfield 31, 3, 0), (45, .iload 4, 2, 0), (47, .lload_n 1, 1, 0)], [(48, .lastore, 1, 0), (49, .aload_n 0, 1, 0), (50, .getfield 28, 3, 0), (53, .iload 4, 2, 0), (55, .iconst 1, 1, 0), (56, .iload 4, 2, 0), (58, .ishl, 1, 0), (59, .iconst 1, 1, 0), (60, .isub, 1, 0), (61, .iastore, 1, 0), (62, .iconst 0, 1, 0), (63, .istore 5, 2, 0)], [(65, .iload 5, 2, 0), (67, .iload 4, 2, 0), (69, .if_icmp .ge 23, 3, 92), (72, .aload_n 0, 1, 0), (73, .getfield 28, 3, 0), (76, .iload 5, 2, 0), (78, .dup2, 1, 0), (79, .iaload, 1, 0)], [(80, .iconst 1, 1, 0), (81, .iload 4, 2, 0), (83, .ishl, 1, 0), (84, .ior, 1, 0), (85, .iastore, 1, 0), (86, .iinc 5 1, 3, 0), (89, .goto (-24), 3, 65), (92, .aload_n 0, 1, 0), (93, .dup, 1, 0), (94, .getfield 62, 3, 0)], [(97, .iconst 1, 1, 0), (98, .iload 4, 2, 0), (100, .ishl, 1, 0), (101, .ior, 1, 0), (102, .putfield 62, 3, 0), (105, .aload_n 0, 1, 0), (106, .dup, 1, 0), (107, .getfield 56, 3, 0), (110, .iconst 1, 1, 0), (111, .iadd, 1, 0)], [(112, .putfield 56, 3, 0), (115, .iload 4, 2, 0), (117, .ireturn, 1, 0)]]
/-- X0_addPerson -/
def rw_16 : am_Row := (16, (0, 6, some (.int), 3, 1, 0, 0), ⟨"IslandCall$Boat", "addPerson", "(JI)I"⟩, prog_2_method_13_code, cd_16)
def cd_17 : List (List (Nat × Instr × Nat × Nat)) := [[(0, .iload_n 1, 1, 0), (1, .iconst 2, 1, 0), (2, .if_icmp .ne 21, 3, 23), (5, .iload_n 2, 1, 0), (6, .iconst 1, 1, 0), (7, .if_icmp .lt 16, 3, 23), (10, .iload_n 2, 1, 0), (11, .bipush 9, 2, 0), (13, .if_icmp .gt 10, 3, 23)], [(16, .aload_n 0, 1, 0), (17, .iload_n 2, 1, 0), (18, .putfield 40, 3, 0), (21, .iconst 1, 1, 0), (22, .ireturn, 1, 0), (23, .iload_n 1, 1, 0), (24, .iconst 3, 1, 0), (25, .if_icmp .ne 19, 3, 44), (28, .iload_n 2, 1, 0), (29, .ifCond .lt 15, 3, 44)], [(32, .iload_n 2, 1, 0), (33, .iconst 3, 1, 0), (34, .if_icmp .gt 10, 3, 44), (37, .aload_n 0, 1, 0), (38, .iload_n 2, 1, 0), (39, .putfield 44, 3, 0), (42, .iconst 1, 1, 0), (43, .ireturn, 1, 0), (44, .iload_n 1, 1, 0), (45, .iconst 4, 1, 0), (46, .if_icmp .ne 20, 3, 66)], [(49, .iload_n 2, 1, 0), (50, .ifCond .lt 16, 3, 66), (53, .iload_n 2, 1, 0), (54, .bipush 16, 2, 0), (56, .if_icmp .gt 10, 3, 66), (59, .aload_n 0, 1, 0), (60, .iload_n 2, 1, 0), (61, .putfield 47, 3, 0)], [(64, .iconst 1, 1, 0), (65, .ireturn, 1, 0), (66, .iconst 0, 1, 0), (67, .ireturn, 1, 0)]]
/-- X0_setRule -/
def rw_17 : am_Row := (17, (0, 3, some (.boolean), 3, 1, 0, 0), ⟨"IslandCall$Boat", "setRule", "(II)Z"⟩, prog_2_method_14_code, cd_17)
def cd_18 : List (List (Nat × Instr × Nat × Nat)) := [[(0, .iconst 0, 1, 0), (1, .istore_n 1, 1, 0), (2, .iconst 0, 1, 0), (3, .istore_n 2, 1, 0), (4, .iload_n 2, 1, 0), (5, .aload_n 0, 1, 0), (6, .getfield 56, 3, 0), (9, .if_icmp .ge 18, 3, 27), (12, .iload_n 1, 1, 0), (13, .aload_n 0, 1, 0), (14, .getfield 22, 3, 0)], [(17, .iload_n 2, 1, 0), (18, .iaload, 1, 0), (19, .iadd, 1, 0), (20, .istore_n 1, 1, 0), (21, .iinc 2 1, 3, 0), (24, .goto (-20), 3, 4), (27, .iload_n 1, 1, 0), (28, .ireturn, 1, 0)]]
/-- X0_satInAll -/
def rw_18 : am_Row := (18, (0, 3, some (.int), 1, 1, 0, 0), ⟨"IslandCall$Boat", "satInAll", "()I"⟩, prog_2_method_15_code, cd_18)
def cd_19 : List (List (Nat × Instr × Nat × Nat)) := [[(0, .iconst 0, 1, 0), (1, .istore_n 2, 1, 0), (2, .iconst 0, 1, 0), (3, .istore_n 3, 1, 0), (4, .iload_n 3, 1, 0), (5, .aload_n 0, 1, 0), (6, .getfield 56, 3, 0), (9, .if_icmp .ge 24, 3, 33), (12, .iload_n 2, 1, 0), (13, .aload_n 0, 1, 0), (14, .getfield 25, 3, 0)], [(17, .iload_n 3, 1, 0), (18, .iaload, 1, 0), (19, .iload_n 1, 1, 0), (20, .ishr, 1, 0), (21, .iconst 1, 1, 0), (22, .iand, 1, 0), (23, .iload_n 3, 1, 0), (24, .ishl, 1, 0), (25, .ior, 1, 0), (26, .istore_n 2, 1, 0), (27, .iinc 3 1, 3, 0), (30, .goto (-26), 3, 4)], [(33, .iload_n 2, 1, 0), (34, .ireturn, 1, 0)]]
/-- X0_excusedFrom -/
def rw_19 : am_Row := (19, (0, 4, some (.int), 2, 1, 0, 0), ⟨"IslandCall$Boat", "excusedFrom", "(I)I"⟩, prog_2_method_16_code, cd_19)
def cd_20 : List (List (Nat × Instr × Nat × Nat)) := [[(0, .iconst 0, 1, 0), (1, .istore_n 2, 1, 0), (2, .iconst 0, 1, 0), (3, .istore_n 3, 1, 0), (4, .iload_n 3, 1, 0), (5, .aload_n 0, 1, 0), (6, .getfield 56, 3, 0), (9, .if_icmp .ge 24, 3, 33), (12, .iload_n 2, 1, 0), (13, .aload_n 0, 1, 0), (14, .getfield 28, 3, 0)], [(17, .iload_n 3, 1, 0), (18, .iaload, 1, 0), (19, .iload_n 1, 1, 0), (20, .ishr, 1, 0), (21, .iconst 1, 1, 0), (22, .iand, 1, 0), (23, .iload_n 3, 1, 0), (24, .ishl, 1, 0), (25, .ior, 1, 0), (26, .istore_n 2, 1, 0), (27, .iinc 3 1, 3, 0), (30, .goto (-26), 3, 4)], [(33, .iload_n 2, 1, 0), (34, .ireturn, 1, 0)]]
/-- X0_seenBy -/
def rw_20 : am_Row := (20, (0, 4, some (.int), 2, 1, 0, 0), ⟨"IslandCall$Boat", "seenBy", "(I)I"⟩, prog_2_method_17_code, cd_20)
def cd_21 : List (List (Nat × Instr × Nat × Nat)) := [[(0, .aload_n 0, 1, 0), (1, .getfield 59, 3, 0), (4, .iload_n 1, 1, 0), (5, .ishr, 1, 0), (6, .iconst 1, 1, 0), (7, .iand, 1, 0), (8, .ifCond .eq 7, 3, 15), (11, .iconst 1, 1, 0), (12, .goto 4, 3, 16), (15, .iconst 0, 1, 0)], [(16, .iload_n 2, 1, 0), (17, .if_icmp .ne 5, 3, 22), (20, .iconst 0, 1, 0), (21, .ireturn, 1, 0), (22, .aload_n 0, 1, 0), (23, .dup, 1, 0), (24, .getfield 59, 3, 0), (27, .iconst 1, 1, 0), (28, .iload_n 1, 1, 0), (29, .ishl, 1, 0), (30, .ixor, 1, 0), (31, .putfield 59, 3, 0)], [(34, .iconst 1, 1, 0), (35, .ireturn, 1, 0)]]
/-- X0_turnOmen -/
def rw_21 : am_Row := (21, (0, 3, some (.boolean), 3, 1, 0, 0), ⟨"IslandCall$Boat", "turnOmen", "(IZ)Z"⟩, prog_2_method_18_code, cd_21)
def cd_22 : List (List (Nat × Instr × Nat × Nat)) := [[(0, .aload_n 0, 1, 0), (1, .iload_n 1, 1, 0), (2, .invokevirtual 71, 3, 0), (5, .ifCond .eq 5, 3, 10), (8, .iconst 0, 1, 0), (9, .ireturn, 1, 0), (10, .aload_n 0, 1, 0), (11, .dup, 1, 0), (12, .getfield 62, 3, 0), (15, .iconst 1, 1, 0)], [(16, .iload_n 1, 1, 0), (17, .ishl, 1, 0), (18, .ior, 1, 0), (19, .putfield 62, 3, 0), (22, .iconst 1, 1, 0), (23, .ireturn, 1, 0)]]
/-- X0_takeAboard -/
def rw_22 : am_Row := (22, (0, 2, some (.boolean), 2, 1, 0, 0), ⟨"IslandCall$Boat", "takeAboard", "(I)Z"⟩, prog_2_method_19_code, cd_22)
def cd_23 : List (List (Nat × Instr × Nat × Nat)) := [[(0, .iload_n 3, 1, 0), (1, .aload_n 0, 1, 0), (2, .getfield 25, 3, 0), (5, .iload_n 2, 1, 0), (6, .iaload, 1, 0), (7, .iconst (-1), 1, 0), (8, .ixor, 1, 0), (9, .iand, 1, 0), (10, .istore 4, 2, 0), (12, .iload_n 1, 1, 0), (13, .istore 5, 2, 0), (15, .iconst 0, 1, 0)], [(16, .istore 6, 2, 0), (18, .iload 6, 2, 0), (20, .aload_n 0, 1, 0), (21, .getfield 53, 3, 0), (24, .if_icmp .ge 31, 3, 55), (27, .iload 4, 2, 0), (29, .iload 6, 2, 0), (31, .ishr, 1, 0)], [(32, .iconst 1, 1, 0), (33, .iand, 1, 0), (34, .ifCond .eq 15, 3, 49), (37, .iload 5, 2, 0), (39, .aload_n 0, 1, 0), (40, .getfield 9, 3, 0), (43, .iload 6, 2, 0), (45, .iaload, 1, 0), (46, .isub, 1, 0), (47, .istore 5, 2, 0)], [(49, .iinc 6 1, 3, 0), (52, .goto (-34), 3, 18), (55, .iload 5, 2, 0), (57, .ifCond .le 8, 3, 65), (60, .iload 5, 2, 0), (62, .goto 4, 3, 66)], [(65, .iconst 0, 1, 0), (66, .ireturn, 1, 0)]]
/-- X0_needWith -/
def rw_23 : am_Row := (23, (0, 7, some (.int), 4, 1, 0, 0), ⟨"IslandCall$Boat", "needWith", "(III)I"⟩, prog_2_method_20_code, cd_23)
def cd_24 : List (List (Nat × Instr × Nat × Nat)) := [[(0, .aload_n 0, 1, 0), (1, .aload_n 0, 1, 0), (2, .getfield 19, 3, 0), (5, .iload_n 1, 1, 0), (6, .iaload, 1, 0), (7, .iload_n 1, 1, 0), (8, .iload_n 2, 1, 0), (9, .invokevirtual 75, 3, 0), (12, .ireturn, 1, 0)]]
/-- X0_needBy -/
def rw_24 : am_Row := (24, (0, 3, some (.int), 3, 1, 0, 0), ⟨"IslandCall$Boat", "needBy", "(II)I"⟩, prog_2_method_21_code, cd_24)
def cd_25 : List (List (Nat × Instr × Nat × Nat)) := [[(0, .iconst 0, 1, 0), (1, .istore_n 2, 1, 0), (2, .iload_n 2, 1, 0), (3, .aload_n 0, 1, 0), (4, .getfield 56, 3, 0), (7, .if_icmp .ge 27, 3, 34), (10, .aload_n 0, 1, 0), (11, .getfield 34, 3, 0), (14, .iload_n 2, 1, 0), (15, .aload_n 0, 1, 0)], [(16, .aload_n 0, 1, 0), (17, .getfield 19, 3, 0), (20, .iload_n 2, 1, 0), (21, .iaload, 1, 0), (22, .iload_n 2, 1, 0), (23, .iload_n 1, 1, 0), (24, .invokevirtual 75, 3, 0), (27, .iastore, 1, 0), (28, .iinc 2 1, 3, 0), (31, .goto (-29), 3, 2)], [(34, .return_, 1, 0)]]
/-- X0_measureNeeds -/
def rw_25 : am_Row := (25, (0, 3, none, 2, 1, 0, 0), ⟨"IslandCall$Boat", "measureNeeds", "(I)V"⟩, prog_2_method_22_code, cd_25)
def cd_26 : List (List (Nat × Instr × Nat × Nat)) := [[(0, .iconst 0, 1, 0), (1, .istore_n 3, 1, 0), (2, .iconst 0, 1, 0), (3, .istore 4, 2, 0), (5, .iload 4, 2, 0), (7, .aload_n 0, 1, 0), (8, .getfield 56, 3, 0), (11, .if_icmp .ge 47, 3, 58), (14, .iload_n 1, 1, 0), (15, .iload 4, 2, 0)], [(17, .ishr, 1, 0), (18, .iconst 1, 1, 0), (19, .iand, 1, 0), (20, .ifCond .eq 32, 3, 52), (23, .aload_n 0, 1, 0), (24, .getfield 28, 3, 0), (27, .iload 4, 2, 0), (29, .iaload, 1, 0), (30, .iload_n 2, 1, 0), (31, .iand, 1, 0)], [(32, .invokestatic 79, 3, 0), (35, .aload_n 0, 1, 0), (36, .getfield 34, 3, 0), (39, .iload 4, 2, 0), (41, .iaload, 1, 0), (42, .if_icmp .lt 10, 3, 52), (45, .iload_n 3, 1, 0), (46, .iconst 1, 1, 0), (47, .iload 4, 2, 0)], [(49, .ishl, 1, 0), (50, .ior, 1, 0), (51, .istore_n 3, 1, 0), (52, .iinc 4 1, 3, 0), (55, .goto (-50), 3, 5), (58, .iload_n 3, 1, 0), (59, .ireturn, 1, 0)]]
/-- X0_content -/
def rw_26 : am_Row := (26, (0, 5, some (.int), 3, 1, 0, 0), ⟨"IslandCall$Boat", "content", "(II)I"⟩, prog_2_method_23_code, cd_26)
def cd_27 : List (List (Nat × Instr × Nat × Nat)) := [[(0, .iload_n 2, 1, 0), (1, .istore 4, 2, 0), (3, .iconst 0, 1, 0), (4, .istore 5, 2, 0), (6, .iload 5, 2, 0), (8, .iload_n 3, 1, 0), (9, .if_icmp .ge 35, 3, 44), (12, .iload 4, 2, 0), (14, .aload_n 0, 1, 0), (15, .iload_n 1, 1, 0)], [(16, .iload 4, 2, 0), (18, .invokevirtual 85, 3, 0), (21, .ior, 1, 0), (22, .istore 6, 2, 0), (24, .iload 6, 2, 0), (26, .iload 4, 2, 0), (28, .if_icmp .ne 6, 3, 34), (31, .goto 13, 3, 44)], [(34, .iload 6, 2, 0), (36, .istore 4, 2, 0), (38, .iinc 5 1, 3, 0), (41, .goto (-35), 3, 6), (44, .iload 4, 2, 0), (46, .ireturn, 1, 0)]]
/-- X0_upBehind -/
def rw_27 : am_Row := (27, (0, 7, some (.int), 4, 1, 0, 0), ⟨"IslandCall$Boat", "upBehind", "(III)I"⟩, prog_2_method_24_code, cd_27)
def cd_28 : List (List (Nat × Instr × Nat × Nat)) := [[(0, .aload_n 0, 1, 0), (1, .iload_n 2, 1, 0), (2, .invokevirtual 89, 3, 0), (5, .aload_n 0, 1, 0), (6, .iload_n 1, 1, 0), (7, .iconst 0, 1, 0), (8, .aload_n 0, 1, 0), (9, .getfield 40, 3, 0), (12, .invokevirtual 93, 3, 0), (15, .ireturn, 1, 0)]]
/-- X0_outOf -/
def rw_28 : am_Row := (28, (0, 3, some (.int), 3, 1, 0, 0), ⟨"IslandCall$Boat", "outOf", "(II)I"⟩, prog_2_method_25_code, cd_28)
def cd_29 : List (List (Nat × Instr × Nat × Nat)) := [[(0, .aload_n 0, 1, 0), (1, .getfield 50, 3, 0), (4, .sipush 9999, 3, 0), (7, .if_icmp .ge 7, 3, 14), (10, .iconst 1, 1, 0), (11, .goto 4, 3, 15), (14, .iconst 0, 1, 0), (15, .ireturn, 1, 0)]]
/-- X0_mayCall -/
def rw_29 : am_Row := (29, (0, 1, some (.boolean), 1, 1, 0, 0), ⟨"IslandCall$Boat", "mayCall", "()Z"⟩, prog_2_method_26_code, cd_29)
def cd_30 : List (List (Nat × Instr × Nat × Nat)) := [[(0, .aload_n 0, 1, 0), (1, .aload_n 0, 1, 0), (2, .getfield 59, 3, 0), (5, .invokevirtual 89, 3, 0), (8, .aload_n 0, 1, 0), (9, .aload_n 0, 1, 0), (10, .getfield 62, 3, 0), (13, .iconst 0, 1, 0), (14, .aload_n 0, 1, 0), (15, .getfield 40, 3, 0)], [(18, .invokevirtual 93, 3, 0), (21, .istore_n 1, 1, 0), (22, .aload_n 0, 1, 0), (23, .dup, 1, 0), (24, .getfield 62, 3, 0), (27, .iload_n 1, 1, 0), (28, .iconst (-1), 1, 0), (29, .ixor, 1, 0), (30, .iand, 1, 0), (31, .putfield 62, 3, 0)], [(34, .iconst 0, 1, 0), (35, .istore_n 2, 1, 0), (36, .iload_n 2, 1, 0), (37, .aload_n 0, 1, 0), (38, .getfield 56, 3, 0), (41, .if_icmp .ge 49, 3, 90), (44, .aload_n 0, 1, 0), (45, .iload_n 2, 1, 0), (46, .invokevirtual 71, 3, 0)], [(49, .ifCond .eq 35, 3, 84), (52, .aload_n 0, 1, 0), (53, .getfield 19, 3, 0), (56, .iload_n 2, 1, 0), (57, .aload_n 0, 1, 0), (58, .getfield 19, 3, 0), (61, .iload_n 2, 1, 0), (62, .iaload, 1, 0), (63, .aload_n 0, 1, 0)], [(64, .getfield 44, 3, 0), (67, .iadd, 1, 0), (68, .bipush 9, 2, 0), (70, .invokestatic 96, 3, 0), (73, .iastore, 1, 0), (74, .aload_n 0, 1, 0), (75, .getfield 22, 3, 0), (78, .iload_n 2, 1, 0), (79, .dup2, 1, 0)], [(80, .iaload, 1, 0), (81, .iconst 1, 1, 0), (82, .iadd, 1, 0), (83, .iastore, 1, 0), (84, .iinc 2 1, 3, 0), (87, .goto (-51), 3, 36), (90, .aload_n 0, 1, 0), (91, .dup, 1, 0), (92, .getfield 50, 3, 0), (95, .iconst 1, 1, 0)], [(96, .iadd, 1, 0), (97, .putfield 50, 3, 0), (100, .iload_n 1, 1, 0), (101, .ireturn, 1, 0)]]
/-- X0_makeCall -/
def rw_30 : am_Row := (30, (0, 3, some (.int), 1, 1, 0, 0), ⟨"IslandCall$Boat", "makeCall", "()I"⟩, prog_2_method_27_code, cd_30)
def cd_31 : List (List (Nat × Instr × Nat × Nat)) := [[(0, .aload_n 0, 1, 0), (1, .invokespecial 3, 3, 0), (4, .aload_n 0, 1, 0), (5, .aload_n 1, 1, 0), (6, .putfield 9, 3, 0), (9, .aload_n 0, 1, 0), (10, .aload_n 2, 1, 0), (11, .putfield 15, 3, 0), (14, .return_, 1, 0)]]
/-- X1_init -/
def rw_31 : am_Row := (31, (1, 3, none, 3, 2, 0, 0), ⟨"IslandCall$BoatReader", "<init>", "(LIslandCall$Tokens;LIslandCall$Boat;)V"⟩, prog_3_method_1_code, cd_31)
def cd_32 : List (List (Nat × Instr × Nat × Nat)) := [[(0, .aload_n 0, 1, 0), (1, .getfield 9, 3, 0), (4, .iload_n 1, 1, 0), (5, .invokevirtual 19, 3, 0), (8, .aload_n 0, 1, 0), (9, .getfield 15, 3, 0), (12, .invokevirtual 25, 3, 0), (15, .aload_n 0, 1, 0)], [(16, .iconst 0, 1, 0), (17, .putfield 30, 3, 0), (20, .iconst 0, 1, 0), (21, .istore_n 2, 1, 0), (22, .iload_n 2, 1, 0), (23, .iload_n 1, 1, 0), (24, .if_icmp .gt 42, 3, 66), (27, .aload_n 0, 1, 0), (28, .getfield 9, 3, 0), (31, .invokevirtual 34, 3, 0)], [(34, .ifCond .ne 5, 3, 39), (37, .iconst 0, 1, 0), (38, .ireturn, 1, 0), (39, .aload_n 0, 1, 0), (40, .getfield 9, 3, 0), (43, .invokevirtual 38, 3, 0), (46, .ifCond .eq 5, 3, 51)], [(49, .iconst 1, 1, 0), (50, .ireturn, 1, 0), (51, .aload_n 0, 1, 0), (52, .invokevirtual 41, 3, 0), (55, .ifCond .ne 5, 3, 60), (58, .iconst 0, 1, 0), (59, .ireturn, 1, 0), (60, .iinc 2 1, 3, 0), (63, .goto (-41), 3, 22)], [(66, .iconst 0, 1, 0), (67, .ireturn, 1, 0)]]
/-- X1_readText -/
def rw_32 : am_Row := (32, (1, 3, some (.boolean), 2, 1, 0, 0), ⟨"IslandCall$BoatReader", "readText", "(I)Z"⟩, prog_3_method_2_code, cd_32)
def cd_33 : List (List (Nat × Instr × Nat × Nat)) := [[(0, .aload_n 0, 1, 0), (1, .getfield 9, 3, 0), (4, .getfield 44, 3, 0), (7, .tableswitch 98 0 10 #[57, 66, 74, 83, 98, 98, 88, 98, 98, 98, 93], 57, 0)], [], [], [], [(64, .aload_n 0, 1, 0), (65, .iconst 2, 1, 0), (66, .iconst 1, 1, 0), (67, .bipush 9, 2, 0), (69, .invokevirtual 47, 3, 0), (72, .ireturn, 1, 0), (73, .aload_n 0, 1, 0), (74, .iconst 3, 1, 0), (75, .iconst 0, 1, 0), (76, .iconst 3, 1, 0), (77, .invokevirtual 47, 3, 0)], [(80, .ireturn, 1, 0), (81, .aload_n 0, 1, 0), (82, .iconst 4, 1, 0), (83, .iconst 0, 1, 0), (84, .bipush 16, 2, 0), (86, .invokevirtual 47, 3, 0), (89, .ireturn, 1, 0), (90, .aload_n 0, 1, 0), (91, .invokevirtual 51, 3, 0), (94, .ireturn, 1, 0), (95, .aload_n 0, 1, 0)], [(96, .invokevirtual 54, 3, 0), (99, .ireturn, 1, 0), (100, .aload_n 0, 1, 0), (101, .invokevirtual 57, 3, 0), (104, .ireturn, 1, 0), (105, .aload_n 0, 1, 0), (106, .getfield 9, 3, 0), (109, .iconst 2, 1, 0), (110, .invokevirtual 60, 3, 0)], [(113, .ireturn, 1, 0)]]
/-- X1_readPart -/
def rw_33 : am_Row := (33, (1, 1, some (.boolean), 1, 1, 0, 0), ⟨"IslandCall$BoatReader", "readPart", "()Z"⟩, prog_3_method_3_code, cd_33)
def cd_34 : List (List (Nat × Instr × Nat × Nat)) := [[(0, .aload_n 0, 1, 0), (1, .getfield 30, 3, 0), (4, .iload_n 1, 1, 0), (5, .ishr, 1, 0), (6, .iconst 1, 1, 0), (7, .iand, 1, 0), (8, .ifCond .eq 12, 3, 20), (11, .aload_n 0, 1, 0), (12, .getfield 9, 3, 0), (15, .iconst 5, 1, 0)], [(16, .invokevirtual 60, 3, 0), (19, .ireturn, 1, 0), (20, .aload_n 0, 1, 0), (21, .dup, 1, 0), (22, .getfield 30, 3, 0), (25, .iconst 1, 1, 0), (26, .iload_n 1, 1, 0), (27, .ishl, 1, 0), (28, .ior, 1, 0), (29, .putfield 30, 3, 0)], [(32, .aload_n 0, 1, 0), (33, .getfield 9, 3, 0), (36, .iload_n 2, 1, 0), (37, .iload_n 3, 1, 0), (38, .invokevirtual 64, 3, 0), (41, .ifCond .eq 35, 3, 76), (44, .aload_n 0, 1, 0), (45, .getfield 15, 3, 0)], [(48, .iload_n 1, 1, 0), (49, .aload_n 0, 1, 0), (50, .getfield 9, 3, 0), (53, .getfield 68, 3, 0), (56, .invokevirtual 71, 3, 0), (59, .ifCond .eq 17, 3, 76), (62, .aload_n 0, 1, 0), (63, .getfield 9, 3, 0)], [(66, .invokevirtual 74, 3, 0), (69, .ifCond .eq 7, 3, 76), (72, .iconst 1, 1, 0), (73, .goto 4, 3, 77), (76, .iconst 0, 1, 0), (77, .ireturn, 1, 0)]]
/-- X1_readRule -/
def rw_34 : am_Row := (34, (1, 4, some (.boolean), 4, 1, 0, 0), ⟨"IslandCall$BoatReader", "readRule", "(III)Z"⟩, prog_3_method_4_code, cd_34)
def cd_35 : List (List (Nat × Instr × Nat × Nat)) := [[(0, .aload_n 0, 1, 0), (1, .getfield 15, 3, 0), (4, .lload_n 1, 1, 0), (5, .invokevirtual 77, 3, 0), (8, .iconst (-1), 1, 0), (9, .if_icmp .ne 15, 3, 24), (12, .aload_n 0, 1, 0), (13, .getfield 15, 3, 0)], [(16, .lload_n 1, 1, 0), (17, .invokevirtual 81, 3, 0), (20, .iconst (-1), 1, 0), (21, .if_icmp .eq 7, 3, 28), (24, .iconst 1, 1, 0), (25, .goto 4, 3, 29), (28, .iconst 0, 1, 0), (29, .ireturn, 1, 0)]]
/-- X1_isTaken -/
def rw_35 : am_Row := (35, (1, 3, some (.boolean), 2, 1, 0, 0), ⟨"IslandCall$BoatReader", "isTaken", "(J)Z"⟩, prog_3_method_5_code, cd_35)
def cd_36 : List (List (Nat × Instr × Nat × Nat)) := [[(0, .aload_n 0, 1, 0), (1, .getfield 15, 3, 0), (4, .getfield 84, 3, 0), (7, .bipush 6, 2, 0), (9, .if_icmp .lt 13, 3, 22), (12, .aload_n 0, 1, 0), (13, .getfield 9, 3, 0)], [(16, .bipush 6, 2, 0), (18, .invokevirtual 60, 3, 0), (21, .ireturn, 1, 0), (22, .aload_n 0, 1, 0), (23, .getfield 9, 3, 0), (26, .invokevirtual 87, 3, 0), (29, .ifCond .ne 5, 3, 34)], [(32, .iconst 0, 1, 0), (33, .ireturn, 1, 0), (34, .aload_n 0, 1, 0), (35, .getfield 9, 3, 0), (38, .getfield 90, 3, 0), (41, .lstore_n 1, 1, 0), (42, .aload_n 0, 1, 0), (43, .lload_n 1, 1, 0), (44, .invokevirtual 94, 3, 0), (47, .ifCond .eq 12, 3, 59)], [(50, .aload_n 0, 1, 0), (51, .getfield 9, 3, 0), (54, .iconst 3, 1, 0), (55, .invokevirtual 60, 3, 0), (58, .ireturn, 1, 0), (59, .aload_n 0, 1, 0), (60, .getfield 9, 3, 0), (63, .iconst 4, 1, 0)], [(64, .invokevirtual 98, 3, 0), (67, .ifCond .eq 15, 3, 82), (70, .aload_n 0, 1, 0), (71, .getfield 9, 3, 0), (74, .iconst 1, 1, 0), (75, .iconst 5, 1, 0), (76, .invokevirtual 64, 3, 0), (79, .ifCond .ne 5, 3, 84)], [(82, .iconst 0, 1, 0), (83, .ireturn, 1, 0), (84, .aload_n 0, 1, 0), (85, .getfield 15, 3, 0), (88, .lload_n 1, 1, 0), (89, .aload_n 0, 1, 0), (90, .getfield 9, 3, 0), (93, .getfield 68, 3, 0)], [(96, .invokevirtual 101, 3, 0), (99, .istore_n 3, 1, 0), (100, .aload_n 0, 1, 0), (101, .getfield 9, 3, 0), (104, .invokevirtual 34, 3, 0), (107, .ifCond .ne 5, 3, 112), (110, .iconst 0, 1, 0), (111, .ireturn, 1, 0)], [(112, .aload_n 0, 1, 0), (113, .getfield 9, 3, 0), (116, .getfield 44, 3, 0), (119, .iconst 5, 1, 0), (120, .if_icmp .ne 26, 3, 146), (123, .aload_n 0, 1, 0), (124, .getfield 15, 3, 0), (127, .dup, 1, 0)], [(128, .getfield 105, 3, 0), (131, .iconst 1, 1, 0), (132, .iload_n 3, 1, 0), (133, .ishl, 1, 0), (134, .ior, 1, 0), (135, .putfield 105, 3, 0), (138, .aload_n 0, 1, 0), (139, .getfield 9, 3, 0), (142, .invokevirtual 74, 3, 0)], [(145, .ireturn, 1, 0), (146, .aload_n 0, 1, 0), (147, .getfield 9, 3, 0), (150, .invokevirtual 108, 3, 0), (153, .ifCond .ne 14, 3, 167), (156, .aload_n 0, 1, 0), (157, .getfield 9, 3, 0)], [(160, .iconst 2, 1, 0), (161, .invokevirtual 60, 3, 0), (164, .ifCond .eq 7, 3, 171), (167, .iconst 1, 1, 0), (168, .goto 4, 3, 172), (171, .iconst 0, 1, 0), (172, .ireturn, 1, 0)]]
/-- X1_readSign -/
def rw_36 : am_Row := (36, (1, 4, some (.boolean), 1, 1, 0, 0), ⟨"IslandCall$BoatReader", "readSign", "()Z"⟩, prog_3_method_6_code, cd_36)
def cd_37 : List (List (Nat × Instr × Nat × Nat)) := [[(0, .aload_n 0, 1, 0), (1, .getfield 15, 3, 0), (4, .getfield 111, 3, 0), (7, .bipush 8, 2, 0), (9, .if_icmp .lt 13, 3, 22), (12, .aload_n 0, 1, 0), (13, .getfield 9, 3, 0)], [(16, .bipush 6, 2, 0), (18, .invokevirtual 60, 3, 0), (21, .ireturn, 1, 0), (22, .aload_n 0, 1, 0), (23, .getfield 9, 3, 0), (26, .invokevirtual 87, 3, 0), (29, .ifCond .ne 5, 3, 34)], [(32, .iconst 0, 1, 0), (33, .ireturn, 1, 0), (34, .aload_n 0, 1, 0), (35, .getfield 9, 3, 0), (38, .getfield 90, 3, 0), (41, .lstore_n 1, 1, 0), (42, .aload_n 0, 1, 0), (43, .lload_n 1, 1, 0), (44, .invokevirtual 94, 3, 0), (47, .ifCond .eq 12, 3, 59)], [(50, .aload_n 0, 1, 0), (51, .getfield 9, 3, 0), (54, .iconst 3, 1, 0), (55, .invokevirtual 60, 3, 0), (58, .ireturn, 1, 0), (59, .aload_n 0, 1, 0), (60, .getfield 9, 3, 0), (63, .bipush 7, 2, 0)], [(65, .invokevirtual 98, 3, 0), (68, .ifCond .eq 16, 3, 84), (71, .aload_n 0, 1, 0), (72, .getfield 9, 3, 0), (75, .iconst 0, 1, 0), (76, .bipush 9, 2, 0), (78, .invokevirtual 64, 3, 0)], [(81, .ifCond .ne 5, 3, 86), (84, .iconst 0, 1, 0), (85, .ireturn, 1, 0), (86, .aload_n 0, 1, 0), (87, .getfield 15, 3, 0), (90, .lload_n 1, 1, 0), (91, .aload_n 0, 1, 0), (92, .getfield 9, 3, 0), (95, .getfield 68, 3, 0)], [(98, .invokevirtual 114, 3, 0), (101, .istore_n 3, 1, 0), (102, .aload_n 0, 1, 0), (103, .getfield 9, 3, 0), (106, .invokevirtual 34, 3, 0), (109, .ifCond .ne 5, 3, 114)], [(112, .iconst 0, 1, 0), (113, .ireturn, 1, 0), (114, .aload_n 0, 1, 0), (115, .getfield 9, 3, 0), (118, .getfield 44, 3, 0), (121, .bipush 8, 2, 0), (123, .if_icmp .ne 32, 3, 155), (126, .aload_n 0, 1, 0), (127, .getfield 15, 3, 0)], [(130, .dup, 1, 0), (131, .getfield 117, 3, 0), (134, .iconst 1, 1, 0), (135, .iload_n 3, 1, 0), (136, .ishl, 1, 0), (137, .iconst (-1), 1, 0), (138, .ixor, 1, 0), (139, .iand, 1, 0), (140, .putfield 117, 3, 0), (143, .aload_n 0, 1, 0)], [(144, .getfield 9, 3, 0), (147, .invokevirtual 34, 3, 0), (150, .ifCond .ne 5, 3, 155), (153, .iconst 0, 1, 0), (154, .ireturn, 1, 0), (155, .aload_n 0, 1, 0), (156, .getfield 9, 3, 0), (159, .getfield 44, 3, 0)], [(162, .bipush 9, 2, 0), (164, .if_icmp .ne 9, 3, 173), (167, .aload_n 0, 1, 0), (168, .iload_n 3, 1, 0), (169, .invokevirtual 120, 3, 0), (172, .ireturn, 1, 0), (173, .aload_n 0, 1, 0), (174, .getfield 9, 3, 0)], [(177, .invokevirtual 108, 3, 0), (180, .ifCond .ne 14, 3, 194), (183, .aload_n 0, 1, 0), (184, .getfield 9, 3, 0), (187, .iconst 2, 1, 0), (188, .invokevirtual 60, 3, 0), (191, .ifCond .eq 7, 3, 198)], [(194, .iconst 1, 1, 0), (195, .goto 4, 3, 199), (198, .iconst 0, 1, 0), (199, .ireturn, 1, 0)]]
/-- X1_readPerson -/
def rw_37 : am_Row := (37, (1, 4, some (.boolean), 1, 1, 0, 0), ⟨"IslandCall$BoatReader", "readPerson", "()Z"⟩, prog_3_method_7_code, cd_37)
def cd_38 : List (List (Nat × Instr × Nat × Nat)) := [[(0, .iconst 0, 1, 0), (1, .istore_n 2, 1, 0), (2, .iload_n 2, 1, 0), (3, .bipush 6, 2, 0), (5, .if_icmp .gt 121, 3, 126), (8, .aload_n 0, 1, 0), (9, .getfield 9, 3, 0), (12, .invokevirtual 34, 3, 0), (15, .ifCond .ne 5, 3, 20)], [(18, .iconst 0, 1, 0), (19, .ireturn, 1, 0), (20, .aload_n 0, 1, 0), (21, .getfield 9, 3, 0), (24, .invokevirtual 108, 3, 0), (27, .ifCond .eq 5, 3, 32), (30, .iconst 1, 1, 0), (31, .ireturn, 1, 0)], [(32, .aload_n 0, 1, 0), (33, .getfield 9, 3, 0), (36, .invokevirtual 123, 3, 0), (39, .ifCond .ne 12, 3, 51), (42, .aload_n 0, 1, 0), (43, .getfield 9, 3, 0), (46, .iconst 2, 1, 0), (47, .invokevirtual 60, 3, 0)], [(50, .ireturn, 1, 0), (51, .aload_n 0, 1, 0), (52, .getfield 15, 3, 0), (55, .aload_n 0, 1, 0), (56, .getfield 9, 3, 0), (59, .getfield 90, 3, 0), (62, .invokevirtual 77, 3, 0)], [(65, .istore_n 3, 1, 0), (66, .iload_n 3, 1, 0), (67, .iconst (-1), 1, 0), (68, .if_icmp .ne 12, 3, 80), (71, .aload_n 0, 1, 0), (72, .getfield 9, 3, 0), (75, .iconst 3, 1, 0), (76, .invokevirtual 60, 3, 0), (79, .ireturn, 1, 0)], [(80, .aload_n 0, 1, 0), (81, .getfield 15, 3, 0), (84, .getfield 126, 3, 0), (87, .iload_n 1, 1, 0), (88, .iaload, 1, 0), (89, .iload_n 3, 1, 0), (90, .ishr, 1, 0), (91, .iconst 1, 1, 0), (92, .iand, 1, 0), (93, .ifCond .eq 12, 3, 105)], [(96, .aload_n 0, 1, 0), (97, .getfield 9, 3, 0), (100, .iconst 5, 1, 0), (101, .invokevirtual 60, 3, 0), (104, .ireturn, 1, 0), (105, .aload_n 0, 1, 0), (106, .getfield 15, 3, 0), (109, .getfield 126, 3, 0)], [(112, .iload_n 1, 1, 0), (113, .dup2, 1, 0), (114, .iaload, 1, 0), (115, .iconst 1, 1, 0), (116, .iload_n 3, 1, 0), (117, .ishl, 1, 0), (118, .ior, 1, 0), (119, .iastore, 1, 0), (120, .iinc 2 1, 3, 0), (123, .goto (-121), 3, 2), (126, .iconst 0, 1, 0), (127, .ireturn, 1, 0)]]
/-- X1_readExcuses -/
def rw_38 : am_Row := (38, (1, 4, some (.boolean), 2, 1, 0, 0), ⟨"IslandCall$BoatReader", "readExcuses", "(I)Z"⟩, prog_3_method_8_code, cd_38)
def cd_39 : List (List (Nat × Instr × Nat × Nat)) := [[(0, .aload_n 0, 1, 0), (1, .getfield 9, 3, 0), (4, .invokevirtual 87, 3, 0), (7, .ifCond .ne 5, 3, 12), (10, .iconst 0, 1, 0), (11, .ireturn, 1, 0), (12, .aload_n 0, 1, 0), (13, .getfield 15, 3, 0)], [(16, .aload_n 0, 1, 0), (17, .getfield 9, 3, 0), (20, .getfield 90, 3, 0), (23, .invokevirtual 81, 3, 0), (26, .istore_n 1, 1, 0), (27, .iload_n 1, 1, 0), (28, .iconst (-1), 1, 0), (29, .if_icmp .ne 12, 3, 41)], [(32, .aload_n 0, 1, 0), (33, .getfield 9, 3, 0), (36, .iconst 3, 1, 0), (37, .invokevirtual 60, 3, 0), (40, .ireturn, 1, 0), (41, .aload_n 0, 1, 0), (42, .getfield 9, 3, 0), (45, .invokevirtual 87, 3, 0)], [(48, .ifCond .ne 5, 3, 53), (51, .iconst 0, 1, 0), (52, .ireturn, 1, 0), (53, .aload_n 0, 1, 0), (54, .getfield 15, 3, 0), (57, .aload_n 0, 1, 0), (58, .getfield 9, 3, 0), (61, .getfield 90, 3, 0)], [(64, .invokevirtual 81, 3, 0), (67, .istore_n 2, 1, 0), (68, .iload_n 2, 1, 0), (69, .iconst (-1), 1, 0), (70, .if_icmp .ne 12, 3, 82), (73, .aload_n 0, 1, 0), (74, .getfield 9, 3, 0), (77, .iconst 3, 1, 0), (78, .invokevirtual 60, 3, 0)], [(81, .ireturn, 1, 0), (82, .iload_n 2, 1, 0), (83, .iload_n 1, 1, 0), (84, .if_icmp .ne 12, 3, 96), (87, .aload_n 0, 1, 0), (88, .getfield 9, 3, 0), (91, .iconst 5, 1, 0), (92, .invokevirtual 60, 3, 0), (95, .ireturn, 1, 0)], [(96, .aload_n 0, 1, 0), (97, .getfield 15, 3, 0), (100, .getfield 130, 3, 0), (103, .iload_n 1, 1, 0), (104, .dup2, 1, 0), (105, .iaload, 1, 0), (106, .iconst 1, 1, 0), (107, .iload_n 2, 1, 0), (108, .ishl, 1, 0), (109, .iconst (-1), 1, 0), (110, .ixor, 1, 0), (111, .iand, 1, 0)], [(112, .iastore, 1, 0), (113, .aload_n 0, 1, 0), (114, .getfield 9, 3, 0), (117, .invokevirtual 74, 3, 0), (120, .ireturn, 1, 0)]]
/-- X1_readBlind -/
def rw_39 : am_Row := (39, (1, 3, some (.boolean), 1, 1, 0, 0), ⟨"IslandCall$BoatReader", "readBlind", "()Z"⟩, prog_3_method_9_code, cd_39)
def cd_40 : List (List (Nat × Instr × Nat × Nat)) := [[(0, .aload_n 0, 1, 0), (1, .invokespecial 1, 3, 0), (4, .aload_n 0, 1, 0), (5, .lconst 0, 1, 0), (6, .putfield 7, 3, 0), (9, .aload_n 0, 1, 0), (10, .lconst 1, 1, 0), (11, .putfield 13, 3, 0), (14, .return_, 1, 0)]]
/-- X2_init -/
def rw_40 : am_Row := (40, (2, 1, none, 1, 2, 0, 0), ⟨"IslandCall$Fraction", "<init>", "()V"⟩, prog_4_method_1_code, cd_40)
def cd_41 : List (List (Nat × Instr × Nat × Nat)) := [[(0, .lload_n 3, 1, 0), (1, .lstore 5, 2, 0), (3, .lload_n 1, 1, 0), (4, .lstore 7, 2, 0), (6, .iconst 0, 1, 0), (7, .istore 9, 2, 0), (9, .iload 9, 2, 0), (11, .sipush 200, 3, 0), (14, .if_icmp .ge 31, 3, 45)], [(17, .lload 7, 2, 0), (19, .lconst 0, 1, 0), (20, .lcmp, 1, 0), (21, .ifCond .eq 24, 3, 45), (24, .lload 5, 2, 0), (26, .lload 7, 2, 0), (28, .lrem, 1, 0), (29, .lstore 10, 2, 0), (31, .lload 7, 2, 0)], [(33, .lstore 5, 2, 0), (35, .lload 10, 2, 0), (37, .lstore 7, 2, 0), (39, .iinc 9 1, 3, 0), (42, .goto (-33), 3, 9), (45, .lload 5, 2, 0), (47, .lconst 0, 1, 0)], [(48, .lcmp, 1, 0), (49, .ifCond .le 19, 3, 68), (52, .aload_n 0, 1, 0), (53, .lload_n 1, 1, 0), (54, .lload 5, 2, 0), (56, .ldiv, 1, 0), (57, .putfield 7, 3, 0), (60, .aload_n 0, 1, 0), (61, .lload_n 3, 1, 0), (62, .lload 5, 2, 0)], [(64, .ldiv, 1, 0), (65, .putfield 13, 3, 0), (68, .return_, 1, 0)]]
/-- X2_tell -/
def rw_41 : am_Row := (41, (2, 12, none, 3, 1, 0, 0), ⟨"IslandCall$Fraction", "tell", "(JJ)V"⟩, prog_4_method_2_code, cd_41)
def cd_42 : List (List (Nat × Instr × Nat × Nat)) := [[(0, .aload_n 0, 1, 0), (1, .invokespecial 3, 3, 0), (4, .aload_n 0, 1, 0), (5, .bipush 60, 2, 0), (7, .newarray .int, 2, 0), (9, .putfield 11, 3, 0), (12, .return_, 1, 0)]]
/-- X3_init -/
def rw_42 : am_Row := (42, (3, 1, none, 1, 2, 1, 60), ⟨"IslandCall$Life", "<init>", "()V"⟩, prog_5_method_1_code, cd_42)
def cd_43 : List (List (Nat × Instr × Nat × Nat)) := [[(0, .aload_n 0, 1, 0), (1, .iconst 1, 1, 0), (2, .putfield 17, 3, 0), (5, .aload_n 0, 1, 0), (6, .iconst 0, 1, 0), (7, .putfield 21, 3, 0), (10, .aload_n 0, 1, 0), (11, .iconst 0, 1, 0), (12, .putfield 25, 3, 0), (15, .aload_n 0, 1, 0)], [(16, .iconst 0, 1, 0), (17, .putfield 28, 3, 0), (20, .aload_n 0, 1, 0), (21, .iconst 0, 1, 0), (22, .putfield 31, 3, 0), (25, .aload_n 0, 1, 0), (26, .iconst 0, 1, 0), (27, .putfield 34, 3, 0), (30, .aload_n 0, 1, 0), (31, .iconst 0, 1, 0)], [(32, .putfield 37, 3, 0), (35, .aload_n 0, 1, 0), (36, .iload_n 3, 1, 0), (37, .putfield 40, 3, 0), (40, .iconst 0, 1, 0), (41, .istore 4, 2, 0), (43, .iconst 0, 1, 0), (44, .istore 5, 2, 0), (46, .iload 5, 2, 0)], [(48, .ldc 43, 2, 0), (50, .if_icmp .ge 78, 3, 128), (53, .iload 4, 2, 0), (55, .aload_n 2, 1, 0), (56, .getfield 44, 3, 0), (59, .if_icmp .ge 69, 3, 128), (62, .aload_n 2, 1, 0), (63, .getfield 47, 3, 0)], [(66, .iload 4, 2, 0), (68, .iaload, 1, 0), (69, .bipush 20, 2, 0), (71, .if_icmp .ne 15, 3, 86), (74, .aload_n 0, 1, 0), (75, .aload_n 2, 1, 0), (76, .iload 4, 2, 0), (78, .invokevirtual 50, 3, 0)], [(81, .istore 4, 2, 0), (83, .goto 39, 3, 122), (86, .aload_n 0, 1, 0), (87, .getfield 21, 3, 0), (90, .sipush 300, 3, 0), (93, .if_icmp .lt 9, 3, 102)], [(96, .aload_n 0, 1, 0), (97, .iconst 1, 1, 0), (98, .putfield 37, 3, 0), (101, .return_, 1, 0), (102, .aload_n 0, 1, 0), (103, .dup, 1, 0), (104, .getfield 21, 3, 0), (107, .iconst 1, 1, 0), (108, .iadd, 1, 0), (109, .putfield 21, 3, 0)], [(112, .aload_n 0, 1, 0), (113, .aload_n 1, 1, 0), (114, .aload_n 2, 1, 0), (115, .iload 4, 2, 0), (117, .invokevirtual 54, 3, 0), (120, .istore 4, 2, 0), (122, .iinc 5 1, 3, 0), (125, .goto (-79), 3, 46)], [(128, .return_, 1, 0)]]
/-- X3_run -/
def rw_43 : am_Row := (43, (3, 6, none, 4, 1, 0, 0), ⟨"IslandCall$Life", "run", "(LIslandCall$Boat;LIslandCall$Years;I)V"⟩, prog_5_method_2_code, cd_43)
def cd_44 : List (List (Nat × Instr × Nat × Nat)) := [[(0, .aload_n 1, 1, 0), (1, .getfield 58, 3, 0), (4, .iload_n 2, 1, 0), (5, .iaload, 1, 0), (6, .istore_n 3, 1, 0), (7, .aload_n 1, 1, 0), (8, .getfield 47, 3, 0), (11, .iload_n 3, 1, 0), (12, .iaload, 1, 0), (13, .bipush 19, 2, 0), (15, .if_icmp .ne 33, 3, 48)], [(18, .aload_n 0, 1, 0), (19, .getfield 11, 3, 0), (22, .iload_n 3, 1, 0), (23, .dup2, 1, 0), (24, .iaload, 1, 0), (25, .iconst 1, 1, 0), (26, .isub, 1, 0), (27, .iastore, 1, 0), (28, .aload_n 0, 1, 0), (29, .getfield 11, 3, 0)], [(32, .iload_n 3, 1, 0), (33, .iaload, 1, 0), (34, .ifCond .le 14, 3, 48), (37, .iload_n 3, 1, 0), (38, .iconst 1, 1, 0), (39, .iadd, 1, 0), (40, .iload_n 2, 1, 0), (41, .if_icmp .ge 7, 3, 48), (44, .iload_n 3, 1, 0), (45, .iconst 1, 1, 0), (46, .iadd, 1, 0), (47, .ireturn, 1, 0)], [(48, .iload_n 2, 1, 0), (49, .iconst 1, 1, 0), (50, .iadd, 1, 0), (51, .ireturn, 1, 0)]]
/-- X3_behindEnd -/
def rw_44 : am_Row := (44, (3, 4, some (.int), 3, 1, 0, 0), ⟨"IslandCall$Life", "behindEnd", "(LIslandCall$Years;I)I"⟩, prog_5_method_3_code, cd_44)
def cd_45 : List (List (Nat × Instr × Nat × Nat)) := [[(0, .aload_n 2, 1, 0), (1, .getfield 61, 3, 0), (4, .iload_n 3, 1, 0), (5, .iaload, 1, 0), (6, .istore 4, 2, 0), (8, .aload_n 2, 1, 0), (9, .getfield 64, 3, 0), (12, .iload_n 3, 1, 0), (13, .iaload, 1, 0), (14, .istore 5, 2, 0)], [(16, .aload_n 2, 1, 0), (17, .getfield 47, 3, 0), (20, .iload_n 3, 1, 0), (21, .iaload, 1, 0), (22, .tableswitch 184 11 19 #[50, 75, 89, 103, 116, 59, 149, 184, 173], 50, 0)], [], [], [(72, .aload_n 0, 1, 0), (73, .aload_n 1, 1, 0), (74, .iconst 1, 1, 0), (75, .invokevirtual 67, 3, 0), (78, .goto 133, 3, 211)], [(81, .aload_n 0, 1, 0), (82, .aload_n 1, 1, 0), (83, .aload_n 0, 1, 0), (84, .aload_n 1, 1, 0), (85, .getfield 71, 3, 0), (88, .invokevirtual 76, 3, 0), (91, .invokevirtual 67, 3, 0), (94, .goto 117, 3, 211)], [(97, .aload_n 0, 1, 0), (98, .aload_n 1, 1, 0), (99, .iload 4, 2, 0), (101, .iconst 1, 1, 0), (102, .invokevirtual 80, 3, 0), (105, .invokevirtual 84, 3, 0), (108, .goto 103, 3, 211), (111, .aload_n 0, 1, 0)], [(112, .aload_n 1, 1, 0), (113, .iload 4, 2, 0), (115, .iconst 0, 1, 0), (116, .invokevirtual 80, 3, 0), (119, .invokevirtual 84, 3, 0), (122, .goto 89, 3, 211), (125, .aload_n 0, 1, 0), (126, .aload_n 1, 1, 0), (127, .iload 4, 2, 0)], [(129, .invokevirtual 88, 3, 0), (132, .invokevirtual 84, 3, 0), (135, .goto 76, 3, 211), (138, .aload_n 0, 1, 0), (139, .aload_n 1, 1, 0), (140, .getfield 91, 3, 0), (143, .iload 4, 2, 0)], [(145, .iaload, 1, 0), (146, .iload 5, 2, 0), (148, .if_icmp .eq 7, 3, 155), (151, .iconst 1, 1, 0), (152, .goto 4, 3, 156), (155, .iconst 0, 1, 0), (156, .invokevirtual 84, 3, 0), (159, .aload_n 1, 1, 0)], [(160, .getfield 91, 3, 0), (163, .iload 4, 2, 0), (165, .iload 5, 2, 0), (167, .iastore, 1, 0), (168, .goto 43, 3, 211), (171, .aload_n 1, 1, 0), (172, .aload_n 2, 1, 0), (173, .iload_n 3, 1, 0), (174, .invokestatic 94, 3, 0)], [(177, .ifCond .eq 9, 3, 186), (180, .iload_n 3, 1, 0), (181, .iconst 1, 1, 0), (182, .iadd, 1, 0), (183, .goto 11, 3, 194), (186, .aload_n 2, 1, 0), (187, .getfield 58, 3, 0), (190, .iload_n 3, 1, 0), (191, .iaload, 1, 0)], [(192, .iconst 1, 1, 0), (193, .iadd, 1, 0), (194, .ireturn, 1, 0), (195, .aload_n 0, 1, 0), (196, .getfield 11, 3, 0), (199, .iload_n 3, 1, 0), (200, .iload 5, 2, 0), (202, .iastore, 1, 0), (203, .goto 8, 3, 211), (206, .aload_n 2, 1, 0), (207, .getfield 44, 3, 0)], [(210, .ireturn, 1, 0), (211, .iload_n 3, 1, 0), (212, .iconst 1, 1, 0), (213, .iadd, 1, 0), (214, .ireturn, 1, 0)]]
/-- X3_doStep -/
def rw_45 : am_Row := (45, (3, 6, some (.int), 4, 1, 0, 0), ⟨"IslandCall$Life", "doStep", "(LIslandCall$Boat;LIslandCall$Years;I)I"⟩, prog_5_method_4_code, cd_45)
def cd_46 : List (List (Nat × Instr × Nat × Nat)) := [[(0, .iload_n 1, 1, 0), (1, .ifCond .ne 13, 3, 14), (4, .aload_n 0, 1, 0), (5, .dup, 1, 0), (6, .getfield 25, 3, 0), (9, .iconst 1, 1, 0), (10, .iadd, 1, 0), (11, .putfield 25, 3, 0), (14, .return_, 1, 0)]]
/-- X3_count -/
def rw_46 : am_Row := (46, (3, 2, none, 2, 1, 0, 0), ⟨"IslandCall$Life", "count", "(Z)V"⟩, prog_5_method_5_code, cd_46)
def cd_47 : List (List (Nat × Instr × Nat × Nat)) := [[(0, .iload_n 2, 1, 0), (1, .ifCond .eq 10, 3, 11), (4, .aload_n 1, 1, 0), (5, .invokevirtual 98, 3, 0), (8, .ifCond .ne 14, 3, 22), (11, .aload_n 0, 1, 0), (12, .dup, 1, 0), (13, .getfield 25, 3, 0)], [(16, .iconst 1, 1, 0), (17, .iadd, 1, 0), (18, .putfield 25, 3, 0), (21, .return_, 1, 0), (22, .aload_n 0, 1, 0), (23, .dup, 1, 0), (24, .getfield 31, 3, 0), (27, .aload_n 1, 1, 0), (28, .invokevirtual 102, 3, 0), (31, .invokestatic 106, 3, 0)], [(34, .iadd, 1, 0), (35, .putfield 31, 3, 0), (38, .aload_n 0, 1, 0), (39, .dup, 1, 0), (40, .getfield 34, 3, 0), (43, .aload_n 1, 1, 0), (44, .getfield 112, 3, 0), (47, .invokestatic 106, 3, 0)], [(50, .iadd, 1, 0), (51, .putfield 34, 3, 0), (54, .aload_n 0, 1, 0), (55, .dup, 1, 0), (56, .getfield 28, 3, 0), (59, .iconst 1, 1, 0), (60, .iadd, 1, 0), (61, .putfield 28, 3, 0)], [(64, .return_, 1, 0)]]
/-- X3_tryCall -/
def rw_47 : am_Row := (47, (3, 3, none, 3, 1, 0, 0), ⟨"IslandCall$Life", "tryCall", "(LIslandCall$Boat;Z)V"⟩, prog_5_method_6_code, cd_47)
def cd_48 : List (List (Nat × Instr × Nat × Nat)) := [[(0, .aload_n 0, 1, 0), (1, .aload_n 0, 1, 0), (2, .getfield 40, 3, 0), (5, .sipush 3167, 3, 0), (8, .imul, 1, 0), (9, .sipush 11383, 3, 0), (12, .iadd, 1, 0), (13, .ldc 115, 2, 0), (15, .irem, 1, 0)], [(16, .putfield 40, 3, 0), (19, .aload_n 0, 1, 0), (20, .getfield 40, 3, 0), (23, .bipush 8, 2, 0), (25, .idiv, 1, 0), (26, .bipush 16, 2, 0), (28, .irem, 1, 0), (29, .iload_n 1, 1, 0), (30, .if_icmp .ge 7, 3, 37)], [(33, .iconst 1, 1, 0), (34, .goto 4, 3, 38), (37, .iconst 0, 1, 0), (38, .ireturn, 1, 0)]]
/-- X3_drawBelow -/
def rw_48 : am_Row := (48, (3, 2, some (.boolean), 2, 1, 0, 0), ⟨"IslandCall$Life", "drawBelow", "(I)Z"⟩, prog_5_method_7_code, cd_48)
def cd_49 : List (List (Nat × Instr × Nat × Nat)) := [[(0, .aload_n 1, 1, 0), (1, .getfield 61, 3, 0), (4, .iload_n 2, 1, 0), (5, .iaload, 1, 0), (6, .istore_n 3, 1, 0), (7, .aload_n 1, 1, 0), (8, .getfield 64, 3, 0), (11, .iload_n 2, 1, 0), (12, .iaload, 1, 0), (13, .istore 4, 2, 0), (15, .aload_n 1, 1, 0)], [(16, .getfield 116, 3, 0), (19, .iload_n 2, 1, 0), (20, .iaload, 1, 0), (21, .bipush 8, 2, 0), (23, .if_icmp .ne 17, 3, 40), (26, .aload_n 0, 1, 0), (27, .iload_n 3, 1, 0), (28, .invokevirtual 119, 3, 0), (31, .ifCond .ne 7, 3, 38)], [(34, .iconst 1, 1, 0), (35, .goto 4, 3, 39), (38, .iconst 0, 1, 0), (39, .ireturn, 1, 0), (40, .aload_n 1, 1, 0), (41, .getfield 116, 3, 0), (44, .iload_n 2, 1, 0), (45, .iaload, 1, 0), (46, .bipush 18, 2, 0)], [(48, .if_icmp .ne 20, 3, 68), (51, .aload_n 0, 1, 0), (52, .getfield 122, 3, 0), (55, .iload_n 3, 1, 0), (56, .ishr, 1, 0), (57, .iconst 1, 1, 0), (58, .iand, 1, 0), (59, .ifCond .eq 7, 3, 66), (62, .iconst 1, 1, 0), (63, .goto 4, 3, 67)], [(66, .iconst 0, 1, 0), (67, .ireturn, 1, 0), (68, .aload_n 1, 1, 0), (69, .getfield 125, 3, 0), (72, .iload_n 2, 1, 0), (73, .iaload, 1, 0), (74, .bipush 60, 2, 0), (76, .if_icmp .ne 20, 3, 96), (79, .aload_n 0, 1, 0)], [(80, .getfield 91, 3, 0), (83, .iload_n 3, 1, 0), (84, .iaload, 1, 0), (85, .iload 4, 2, 0), (87, .if_icmp .ge 7, 3, 94), (90, .iconst 1, 1, 0), (91, .goto 4, 3, 95), (94, .iconst 0, 1, 0), (95, .ireturn, 1, 0)], [(96, .aload_n 1, 1, 0), (97, .getfield 125, 3, 0), (100, .iload_n 2, 1, 0), (101, .iaload, 1, 0), (102, .bipush 62, 2, 0), (104, .if_icmp .ne 20, 3, 124), (107, .aload_n 0, 1, 0), (108, .getfield 91, 3, 0), (111, .iload_n 3, 1, 0)], [(112, .iaload, 1, 0), (113, .iload 4, 2, 0), (115, .if_icmp .le 7, 3, 122), (118, .iconst 1, 1, 0), (119, .goto 4, 3, 123), (122, .iconst 0, 1, 0), (123, .ireturn, 1, 0), (124, .aload_n 0, 1, 0), (125, .getfield 91, 3, 0)], [(128, .iload_n 3, 1, 0), (129, .iaload, 1, 0), (130, .iload 4, 2, 0), (132, .if_icmp .ne 7, 3, 139), (135, .iconst 1, 1, 0), (136, .goto 4, 3, 140), (139, .iconst 0, 1, 0), (140, .ireturn, 1, 0)]]
/-- X3_holdsTrue -/
def rw_49 : am_Row := (49, (3, 5, some (.boolean), 3, 0, 0, 0), ⟨"IslandCall$Life", "holdsTrue", "(LIslandCall$Boat;LIslandCall$Years;I)Z"⟩, prog_5_method_8_code, cd_49)
def cd_50 : List (List (Nat × Instr × Nat × Nat)) := [[(0, .aload_n 0, 1, 0), (1, .invokespecial 3, 3, 0), (4, .aload_n 0, 1, 0), (5, .bipush 64, 2, 0), (7, .newarray .int, 2, 0), (9, .putfield 11, 3, 0), (12, .aload_n 0, 1, 0), (13, .bipush 64, 2, 0), (15, .newarray .int, 2, 0)], [(17, .putfield 15, 3, 0), (20, .aload_n 0, 1, 0), (21, .aload_n 1, 1, 0), (22, .putfield 18, 3, 0), (25, .return_, 1, 0)]]
/-- X4_init -/
def rw_50 : am_Row := (50, (4, 2, none, 2, 2, 2, 128), ⟨"IslandCall$Study", "<init>", "(LIslandCall$Boat;)V"⟩, prog_6_method_1_code, cd_50)
def cd_51 : List (List (Nat × Instr × Nat × Nat)) := [[(0, .aload_n 0, 1, 0), (1, .getfield 18, 3, 0), (4, .iload_n 2, 1, 0), (5, .invokevirtual 22, 3, 0), (8, .iconst 0, 1, 0), (9, .istore_n 3, 1, 0), (10, .iconst 1, 1, 0), (11, .istore 4, 2, 0), (13, .iload 4, 2, 0), (15, .aload_n 0, 1, 0)], [(16, .getfield 18, 3, 0), (19, .getfield 28, 3, 0), (22, .if_icmp .gt 38, 3, 60), (25, .iload_n 3, 1, 0), (26, .aload_n 0, 1, 0), (27, .getfield 18, 3, 0), (30, .aload_n 0, 1, 0), (31, .getfield 18, 3, 0)], [(34, .getfield 32, 3, 0), (37, .iload_n 3, 1, 0), (38, .invokevirtual 35, 3, 0), (41, .ior, 1, 0), (42, .istore_n 3, 1, 0), (43, .iload_n 3, 1, 0), (44, .iload_n 1, 1, 0), (45, .ishr, 1, 0), (46, .iconst 1, 1, 0), (47, .iand, 1, 0)], [(48, .ifCond .eq 6, 3, 54), (51, .iload 4, 2, 0), (53, .ireturn, 1, 0), (54, .iinc 4 1, 3, 0), (57, .goto (-44), 3, 13), (60, .iconst (-1), 1, 0), (61, .ireturn, 1, 0)]]
/-- X4_roundOfRising -/
def rw_51 : am_Row := (51, (4, 5, some (.int), 3, 1, 0, 0), ⟨"IslandCall$Study", "roundOfRising", "(II)I"⟩, prog_6_method_2_code, cd_51)
def cd_52 : List (List (Nat × Instr × Nat × Nat)) := [[(0, .aload_n 0, 1, 0), (1, .getfield 18, 3, 0), (4, .iload_n 1, 1, 0), (5, .invokevirtual 22, 3, 0), (8, .aload_n 0, 1, 0), (9, .getfield 18, 3, 0), (12, .aload_n 0, 1, 0), (13, .getfield 18, 3, 0)], [(16, .getfield 32, 3, 0), (19, .iconst 0, 1, 0), (20, .aload_n 0, 1, 0), (21, .getfield 18, 3, 0), (24, .getfield 28, 3, 0), (27, .invokevirtual 39, 3, 0), (30, .ireturn, 1, 0)]]
/-- X4_restSet -/
def rw_52 : am_Row := (52, (4, 2, some (.int), 2, 1, 0, 0), ⟨"IslandCall$Study", "restSet", "(I)I"⟩, prog_6_method_3_code, cd_52)
def cd_53 : List (List (Nat × Instr × Nat × Nat)) := [[(0, .aload_n 0, 1, 0), (1, .getfield 18, 3, 0), (4, .iload_n 1, 1, 0), (5, .invokevirtual 22, 3, 0), (8, .iconst 0, 1, 0), (9, .istore_n 2, 1, 0), (10, .iconst 0, 1, 0), (11, .istore_n 3, 1, 0), (12, .iload_n 3, 1, 0), (13, .aload_n 0, 1, 0), (14, .getfield 18, 3, 0)], [(17, .getfield 28, 3, 0), (20, .if_icmp .ge 39, 3, 59), (23, .iload_n 2, 1, 0), (24, .aload_n 0, 1, 0), (25, .getfield 18, 3, 0), (28, .aload_n 0, 1, 0), (29, .getfield 18, 3, 0)], [(32, .getfield 32, 3, 0), (35, .iload_n 2, 1, 0), (36, .invokevirtual 35, 3, 0), (39, .ior, 1, 0), (40, .istore 4, 2, 0), (42, .iload 4, 2, 0), (44, .iload_n 2, 1, 0), (45, .if_icmp .ne 5, 3, 50)], [(48, .iload_n 3, 1, 0), (49, .ireturn, 1, 0), (50, .iload 4, 2, 0), (52, .istore_n 2, 1, 0), (53, .iinc 3 1, 3, 0), (56, .goto (-44), 3, 12), (59, .aload_n 0, 1, 0), (60, .getfield 18, 3, 0), (63, .getfield 28, 3, 0)], [(66, .ireturn, 1, 0)]]
/-- X4_roundsToRest -/
def rw_53 : am_Row := (53, (4, 5, some (.int), 2, 1, 0, 0), ⟨"IslandCall$Study", "roundsToRest", "(I)I"⟩, prog_6_method_4_code, cd_53)
def cd_54 : List (List (Nat × Instr × Nat × Nat)) := [[(0, .aload_n 0, 1, 0), (1, .getfield 18, 3, 0), (4, .iload_n 2, 1, 0), (5, .invokevirtual 22, 3, 0), (8, .aload_n 0, 1, 0), (9, .getfield 18, 3, 0), (12, .aload_n 0, 1, 0), (13, .getfield 18, 3, 0)], [(16, .getfield 32, 3, 0), (19, .iload_n 1, 1, 0), (20, .invokevirtual 35, 3, 0), (23, .iload_n 1, 1, 0), (24, .if_icmp .ne 7, 3, 31), (27, .iconst 1, 1, 0), (28, .goto 4, 3, 32), (31, .iconst 0, 1, 0)], [(32, .ireturn, 1, 0)]]
/-- X4_isRest -/
def rw_54 : am_Row := (54, (4, 3, some (.boolean), 3, 1, 0, 0), ⟨"IslandCall$Study", "isRest", "(II)Z"⟩, prog_6_method_5_code, cd_54)
def cd_55 : List (List (Nat × Instr × Nat × Nat)) := [[(0, .aload_n 0, 1, 0), (1, .getfield 18, 3, 0), (4, .iload_n 1, 1, 0), (5, .invokevirtual 22, 3, 0), (8, .iconst 0, 1, 0), (9, .istore_n 2, 1, 0), (10, .iconst 0, 1, 0), (11, .istore_n 3, 1, 0), (12, .iload_n 3, 1, 0), (13, .iconst 1, 1, 0), (14, .aload_n 0, 1, 0), (15, .getfield 18, 3, 0)], [(18, .getfield 28, 3, 0), (21, .ishl, 1, 0), (22, .if_icmp .ge 31, 3, 53), (25, .aload_n 0, 1, 0), (26, .getfield 18, 3, 0), (29, .aload_n 0, 1, 0), (30, .getfield 18, 3, 0)], [(33, .getfield 32, 3, 0), (36, .iload_n 3, 1, 0), (37, .invokevirtual 35, 3, 0), (40, .iload_n 3, 1, 0), (41, .if_icmp .ne 6, 3, 47), (44, .iinc 2 1, 3, 0), (47, .iinc 3 1, 3, 0)], [(50, .goto (-38), 3, 12), (53, .iload_n 2, 1, 0), (54, .ireturn, 1, 0)]]
/-- X4_countRests -/
def rw_55 : am_Row := (55, (4, 4, some (.int), 2, 1, 0, 0), ⟨"IslandCall$Study", "countRests", "(I)I"⟩, prog_6_method_6_code, cd_55)
def cd_56 : List (List (Nat × Instr × Nat × Nat)) := [[(0, .aload_n 0, 1, 0), (1, .getfield 18, 3, 0), (4, .iload_n 1, 1, 0), (5, .invokevirtual 22, 3, 0), (8, .aload_n 0, 1, 0), (9, .getfield 18, 3, 0), (12, .getfield 32, 3, 0), (15, .istore_n 2, 1, 0)], [(16, .iconst 0, 1, 0), (17, .istore_n 3, 1, 0), (18, .iload_n 3, 1, 0), (19, .aload_n 0, 1, 0), (20, .getfield 18, 3, 0), (23, .getfield 28, 3, 0), (26, .if_icmp .ge 25, 3, 51), (29, .aload_n 0, 1, 0), (30, .getfield 18, 3, 0)], [(33, .aload_n 0, 1, 0), (34, .getfield 18, 3, 0), (37, .getfield 32, 3, 0), (40, .iload_n 2, 1, 0), (41, .invokevirtual 35, 3, 0), (44, .istore_n 2, 1, 0), (45, .iinc 3 1, 3, 0)], [(48, .goto (-30), 3, 18), (51, .iload_n 2, 1, 0), (52, .ireturn, 1, 0)]]
/-- X4_greatestRest -/
def rw_56 : am_Row := (56, (4, 4, some (.int), 2, 1, 0, 0), ⟨"IslandCall$Study", "greatestRest", "(I)I"⟩, prog_6_method_7_code, cd_56)
def cd_57 : List (List (Nat × Instr × Nat × Nat)) := [[(0, .aload_n 0, 1, 0), (1, .getfield 18, 3, 0), (4, .iload_n 1, 1, 0), (5, .invokevirtual 22, 3, 0), (8, .aload_n 0, 1, 0), (9, .getfield 18, 3, 0), (12, .getfield 32, 3, 0), (15, .istore_n 2, 1, 0)], [(16, .iconst 0, 1, 0), (17, .istore_n 3, 1, 0), (18, .iload_n 3, 1, 0), (19, .iconst 1, 1, 0), (20, .aload_n 0, 1, 0), (21, .getfield 18, 3, 0), (24, .getfield 28, 3, 0), (27, .ishl, 1, 0), (28, .if_icmp .ge 65, 3, 93), (31, .iload_n 3, 1, 0)], [(32, .aload_n 0, 1, 0), (33, .getfield 18, 3, 0), (36, .getfield 32, 3, 0), (39, .iconst (-1), 1, 0), (40, .ixor, 1, 0), (41, .iand, 1, 0), (42, .ifCond .ne 45, 3, 87), (45, .iload_n 3, 1, 0), (46, .iload_n 2, 1, 0), (47, .invokestatic 43, 3, 0)], [(50, .ifCond .eq 37, 3, 87), (53, .aload_n 0, 1, 0), (54, .getfield 18, 3, 0), (57, .aload_n 0, 1, 0), (58, .getfield 18, 3, 0), (61, .getfield 32, 3, 0)], [(64, .iload_n 3, 1, 0), (65, .aload_n 0, 1, 0), (66, .getfield 18, 3, 0), (69, .getfield 28, 3, 0), (72, .invokevirtual 39, 3, 0), (75, .aload_n 0, 1, 0), (76, .getfield 18, 3, 0), (79, .getfield 32, 3, 0)], [(82, .if_icmp .ne 5, 3, 87), (85, .iload_n 3, 1, 0), (86, .istore_n 2, 1, 0), (87, .iinc 3 1, 3, 0), (90, .goto (-72), 3, 18), (93, .iload_n 2, 1, 0), (94, .ireturn, 1, 0)]]
/-- X4_fewestSeeds -/
def rw_57 : am_Row := (57, (4, 4, some (.int), 2, 1, 0, 0), ⟨"IslandCall$Study", "fewestSeeds", "(I)I"⟩, prog_6_method_8_code, cd_57)
def cd_58 : List (List (Nat × Instr × Nat × Nat)) := [[(0, .iload_n 0, 1, 0), (1, .invokestatic 47, 3, 0), (4, .iload_n 1, 1, 0), (5, .invokestatic 47, 3, 0), (8, .if_icmp .ge 7, 3, 15), (11, .iconst 1, 1, 0), (12, .goto 4, 3, 16), (15, .iconst 0, 1, 0)], [(16, .ireturn, 1, 0)]]
/-- X4_isSmaller -/
def rw_58 : am_Row := (58, (4, 2, some (.boolean), 2, 0, 0, 0), ⟨"IslandCall$Study", "isSmaller", "(II)Z"⟩, prog_6_method_9_code, cd_58)
def cd_59 : List (List (Nat × Instr × Nat × Nat)) := [[(0, .aload_n 0, 1, 0), (1, .getfield 18, 3, 0), (4, .getfield 32, 3, 0), (7, .iconst 1, 1, 0), (8, .iload_n 1, 1, 0), (9, .ishl, 1, 0), (10, .iconst (-1), 1, 0), (11, .ixor, 1, 0), (12, .iand, 1, 0), (13, .istore_n 3, 1, 0), (14, .aload_n 0, 1, 0), (15, .getfield 18, 3, 0)], [(18, .aload_n 0, 1, 0), (19, .getfield 18, 3, 0), (22, .getfield 32, 3, 0), (25, .iload_n 2, 1, 0), (26, .invokevirtual 53, 3, 0), (29, .iload_n 3, 1, 0), (30, .iand, 1, 0), (31, .istore 4, 2, 0)], [(33, .aload_n 0, 1, 0), (34, .getfield 18, 3, 0), (37, .iload_n 3, 1, 0), (38, .iload_n 2, 1, 0), (39, .invokevirtual 53, 3, 0), (42, .istore 5, 2, 0), (44, .iload 4, 2, 0), (46, .invokestatic 47, 3, 0)], [(49, .iload 5, 2, 0), (51, .invokestatic 47, 3, 0), (54, .isub, 1, 0), (55, .ireturn, 1, 0)]]
/-- X4_weightOf -/
def rw_59 : am_Row := (59, (4, 6, some (.int), 3, 1, 0, 0), ⟨"IslandCall$Study", "weightOf", "(II)I"⟩, prog_6_method_10_code, cd_59)
def cd_60 : List (List (Nat × Instr × Nat × Nat)) := [[(0, .iconst (-1), 1, 0), (1, .istore_n 2, 1, 0), (2, .iconst (-1), 1, 0), (3, .istore_n 3, 1, 0), (4, .iconst 0, 1, 0), (5, .istore 4, 2, 0), (7, .iload 4, 2, 0), (9, .aload_n 0, 1, 0), (10, .getfield 18, 3, 0), (13, .getfield 28, 3, 0)], [(16, .if_icmp .ge 46, 3, 62), (19, .aload_n 0, 1, 0), (20, .getfield 18, 3, 0), (23, .iload 4, 2, 0), (25, .invokevirtual 56, 3, 0), (28, .ifCond .eq 13, 3, 41), (31, .aload_n 0, 1, 0)], [(32, .iload 4, 2, 0), (34, .iload_n 1, 1, 0), (35, .invokevirtual 60, 3, 0), (38, .goto 4, 3, 42), (41, .iconst (-1), 1, 0), (42, .istore 5, 2, 0), (44, .iload 5, 2, 0), (46, .iload_n 3, 1, 0), (47, .if_icmp .le 9, 3, 56)], [(50, .iload 5, 2, 0), (52, .istore_n 3, 1, 0), (53, .iload 4, 2, 0), (55, .istore_n 2, 1, 0), (56, .iinc 4 1, 3, 0), (59, .goto (-52), 3, 7), (62, .iload_n 2, 1, 0), (63, .ireturn, 1, 0)]]
/-- X4_heaviest -/
def rw_60 : am_Row := (60, (4, 6, some (.int), 2, 1, 0, 0), ⟨"IslandCall$Study", "heaviest", "(I)I"⟩, prog_6_method_11_code, cd_60)
def cd_61 : List (List (Nat × Instr × Nat × Nat)) := [[(0, .aload_n 0, 1, 0), (1, .getfield 18, 3, 0), (4, .aload_n 0, 1, 0), (5, .getfield 18, 3, 0), (8, .getfield 32, 3, 0), (11, .iload_n 1, 1, 0), (12, .invokevirtual 53, 3, 0), (15, .invokestatic 47, 3, 0)], [(18, .ireturn, 1, 0)]]
/-- X4_countOut -/
def rw_61 : am_Row := (61, (4, 2, some (.int), 2, 1, 0, 0), ⟨"IslandCall$Study", "countOut", "(I)I"⟩, prog_6_method_12_code, cd_61)
def cd_62 : List (List (Nat × Instr × Nat × Nat)) := [[(0, .iconst (-1), 1, 0), (1, .istore_n 2, 1, 0), (2, .iconst 0, 1, 0), (3, .istore_n 3, 1, 0), (4, .iload_n 3, 1, 0), (5, .iconst 1, 1, 0), (6, .aload_n 0, 1, 0), (7, .getfield 18, 3, 0), (10, .getfield 63, 3, 0), (13, .ishl, 1, 0), (14, .if_icmp .ge 46, 3, 60)], [(17, .iload_n 2, 1, 0), (18, .iconst (-1), 1, 0), (19, .if_icmp .eq 11, 3, 30), (22, .iload_n 3, 1, 0), (23, .iload_n 2, 1, 0), (24, .invokestatic 43, 3, 0), (27, .ifCond .eq 27, 3, 54), (30, .aload_n 0, 1, 0), (31, .getfield 18, 3, 0)], [(34, .aload_n 0, 1, 0), (35, .getfield 18, 3, 0), (38, .getfield 32, 3, 0), (41, .iload_n 3, 1, 0), (42, .invokevirtual 53, 3, 0), (45, .iload_n 1, 1, 0), (46, .ishr, 1, 0), (47, .iconst 1, 1, 0)], [(48, .iand, 1, 0), (49, .ifCond .eq 5, 3, 54), (52, .iload_n 3, 1, 0), (53, .istore_n 2, 1, 0), (54, .iinc 3 1, 3, 0), (57, .goto (-53), 3, 4), (60, .iload_n 2, 1, 0), (61, .ireturn, 1, 0)]]
/-- X4_fewestLures -/
def rw_62 : am_Row := (62, (4, 4, some (.int), 2, 1, 0, 0), ⟨"IslandCall$Study", "fewestLures", "(I)I"⟩, prog_6_method_13_code, cd_62)
def cd_63 : List (List (Nat × Instr × Nat × Nat)) := [[(0, .iconst 0, 1, 0), (1, .istore_n 1, 1, 0), (2, .iconst (-1), 1, 0), (3, .istore_n 2, 1, 0), (4, .iconst 0, 1, 0), (5, .istore_n 3, 1, 0), (6, .iload_n 3, 1, 0), (7, .iconst 1, 1, 0), (8, .aload_n 0, 1, 0), (9, .getfield 18, 3, 0), (12, .getfield 63, 3, 0), (15, .ishl, 1, 0)], [(16, .if_icmp .ge 41, 3, 57), (19, .aload_n 0, 1, 0), (20, .iload_n 3, 1, 0), (21, .invokevirtual 66, 3, 0), (24, .istore 4, 2, 0), (26, .iload 4, 2, 0), (28, .iload_n 2, 1, 0), (29, .if_icmp .gt 17, 3, 46)], [(32, .iload 4, 2, 0), (34, .iload_n 2, 1, 0), (35, .if_icmp .ne 16, 3, 51), (38, .iload_n 3, 1, 0), (39, .iload_n 1, 1, 0), (40, .invokestatic 43, 3, 0), (43, .ifCond .eq 8, 3, 51), (46, .iload 4, 2, 0)], [(48, .istore_n 2, 1, 0), (49, .iload_n 3, 1, 0), (50, .istore_n 1, 1, 0), (51, .iinc 3 1, 3, 0), (54, .goto (-48), 3, 6), (57, .iload_n 1, 1, 0), (58, .ireturn, 1, 0)]]
/-- X4_bestOmens -/
def rw_63 : am_Row := (63, (4, 5, some (.int), 1, 1, 0, 0), ⟨"IslandCall$Study", "bestOmens", "()I"⟩, prog_6_method_14_code, cd_63)
def cd_64 : List (List (Nat × Instr × Nat × Nat)) := [[(0, .iconst 1, 1, 0), (1, .aload_n 0, 1, 0), (2, .getfield 18, 3, 0), (5, .getfield 63, 3, 0), (8, .ishl, 1, 0), (9, .iconst 1, 1, 0), (10, .isub, 1, 0), (11, .istore_n 1, 1, 0), (12, .aload_n 0, 1, 0), (13, .getfield 18, 3, 0)], [(16, .getfield 32, 3, 0), (19, .aload_n 0, 1, 0), (20, .getfield 18, 3, 0), (23, .aload_n 0, 1, 0), (24, .getfield 18, 3, 0), (27, .getfield 32, 3, 0), (30, .iload_n 1, 1, 0), (31, .invokevirtual 53, 3, 0)], [(34, .iconst (-1), 1, 0), (35, .ixor, 1, 0), (36, .iand, 1, 0), (37, .ireturn, 1, 0)]]
/-- X4_neverOut -/
def rw_64 : am_Row := (64, (4, 2, some (.int), 1, 1, 0, 0), ⟨"IslandCall$Study", "neverOut", "()I"⟩, prog_6_method_15_code, cd_64)
def cd_65 : List (List (Nat × Instr × Nat × Nat)) := [[(0, .iconst (-1), 1, 0), (1, .istore 4, 2, 0), (3, .iload_n 3, 1, 0), (4, .iconst 1, 1, 0), (5, .iadd, 1, 0), (6, .istore 5, 2, 0), (8, .iconst 0, 1, 0), (9, .istore 6, 2, 0), (11, .iload 6, 2, 0), (13, .aload_n 0, 1, 0), (14, .getfield 18, 3, 0)], [(17, .getfield 63, 3, 0), (20, .if_icmp .ge 83, 3, 103), (23, .iconst 0, 1, 0), (24, .istore 7, 2, 0), (26, .iconst 0, 1, 0), (27, .istore 8, 2, 0), (29, .iload 8, 2, 0), (31, .bipush 9, 2, 0)], [(33, .if_icmp .gt 38, 3, 71), (36, .iload_n 2, 1, 0), (37, .iload 8, 2, 0), (39, .ishr, 1, 0), (40, .iconst 1, 1, 0), (41, .iand, 1, 0), (42, .ifCond .eq 23, 3, 65), (45, .aload_n 0, 1, 0), (46, .getfield 18, 3, 0)], [(49, .iload 8, 2, 0), (51, .iload_n 1, 1, 0), (52, .iconst 1, 1, 0), (53, .iload 6, 2, 0), (55, .ishl, 1, 0), (56, .invokevirtual 69, 3, 0), (59, .ifCond .ne 6, 3, 65), (62, .iinc 7 1, 3, 0)], [(65, .iinc 8 1, 3, 0), (68, .goto (-39), 3, 29), (71, .iload 7, 2, 0), (73, .iload_n 3, 1, 0), (74, .iload 7, 2, 0), (76, .isub, 1, 0), (77, .invokestatic 72, 3, 0)], [(80, .istore 8, 2, 0), (82, .iload 8, 2, 0), (84, .iload 5, 2, 0), (86, .if_icmp .ge 11, 3, 97), (89, .iload 8, 2, 0), (91, .istore 5, 2, 0), (93, .iload 6, 2, 0), (95, .istore 4, 2, 0)], [(97, .iinc 6 1, 3, 0), (100, .goto (-89), 3, 11), (103, .iload 4, 2, 0), (105, .ireturn, 1, 0)]]
/-- X4_partingOmen -/
def rw_65 : am_Row := (65, (4, 9, some (.int), 4, 1, 0, 0), ⟨"IslandCall$Study", "partingOmen", "(III)I"⟩, prog_6_method_16_code, cd_65)
def cd_66 : List (List (Nat × Instr × Nat × Nat)) := [[(0, .aload_n 0, 1, 0), (1, .getfield 18, 3, 0), (4, .getfield 32, 3, 0), (7, .istore_n 1, 1, 0), (8, .iconst 0, 1, 0), (9, .istore_n 2, 1, 0), (10, .iload_n 2, 1, 0), (11, .iconst 1, 1, 0), (12, .aload_n 0, 1, 0), (13, .getfield 18, 3, 0)], [(16, .getfield 28, 3, 0), (19, .ishl, 1, 0), (20, .if_icmp .ge 41, 3, 61), (23, .iload_n 2, 1, 0), (24, .aload_n 0, 1, 0), (25, .getfield 18, 3, 0), (28, .getfield 32, 3, 0), (31, .iconst (-1), 1, 0)], [(32, .ixor, 1, 0), (33, .iand, 1, 0), (34, .ifCond .ne 21, 3, 55), (37, .iload_n 2, 1, 0), (38, .iload_n 1, 1, 0), (39, .invokestatic 43, 3, 0), (42, .ifCond .eq 13, 3, 55), (45, .aload_n 0, 1, 0), (46, .iload_n 2, 1, 0), (47, .invokevirtual 77, 3, 0)], [(50, .ifCond .eq 5, 3, 55), (53, .iload_n 2, 1, 0), (54, .istore_n 1, 1, 0), (55, .iinc 2 1, 3, 0), (58, .goto (-48), 3, 10), (61, .iload_n 1, 1, 0), (62, .ireturn, 1, 0)]]
/-- X4_fewestLookouts -/
def rw_66 : am_Row := (66, (4, 3, some (.int), 1, 1, 0, 0), ⟨"IslandCall$Study", "fewestLookouts", "()I"⟩, prog_6_method_17_code, cd_66)
def cd_67 : List (List (Nat × Instr × Nat × Nat)) := [[(0, .aload_n 0, 1, 0), (1, .getfield 18, 3, 0), (4, .getfield 32, 3, 0), (7, .iload_n 1, 1, 0), (8, .iconst (-1), 1, 0), (9, .ixor, 1, 0), (10, .iand, 1, 0), (11, .istore_n 2, 1, 0), (12, .iconst 0, 1, 0), (13, .istore_n 3, 1, 0), (14, .iload_n 3, 1, 0), (15, .aload_n 0, 1, 0)], [(16, .getfield 18, 3, 0), (19, .getfield 28, 3, 0), (22, .if_icmp .ge 33, 3, 55), (25, .iload_n 2, 1, 0), (26, .iload_n 3, 1, 0), (27, .ishr, 1, 0), (28, .iconst 1, 1, 0), (29, .iand, 1, 0), (30, .ifCond .eq 19, 3, 49)], [(33, .aload_n 0, 1, 0), (34, .getfield 18, 3, 0), (37, .getfield 80, 3, 0), (40, .iload_n 3, 1, 0), (41, .iaload, 1, 0), (42, .iload_n 1, 1, 0), (43, .iand, 1, 0), (44, .ifCond .ne 5, 3, 49), (47, .iconst 0, 1, 0)], [(48, .ireturn, 1, 0), (49, .iinc 3 1, 3, 0), (52, .goto (-38), 3, 14), (55, .iconst 1, 1, 0), (56, .ireturn, 1, 0)]]
/-- X4_areLookouts -/
def rw_67 : am_Row := (67, (4, 4, some (.boolean), 2, 1, 0, 0), ⟨"IslandCall$Study", "areLookouts", "(I)Z"⟩, prog_6_method_18_code, cd_67)
def cd_68 : List (List (Nat × Instr × Nat × Nat)) := [[(0, .iconst 0, 1, 0), (1, .istore_n 1, 1, 0), (2, .iconst 0, 1, 0), (3, .istore_n 2, 1, 0), (4, .iload_n 2, 1, 0), (5, .aload_n 0, 1, 0), (6, .getfield 18, 3, 0), (9, .getfield 28, 3, 0), (12, .if_icmp .ge 64, 3, 76), (15, .aload_n 0, 1, 0)], [(16, .getfield 18, 3, 0), (19, .iload_n 2, 1, 0), (20, .invokevirtual 56, 3, 0), (23, .ifCond .eq 47, 3, 70), (26, .aload_n 0, 1, 0), (27, .getfield 18, 3, 0), (30, .getfield 32, 3, 0)], [(33, .iconst 1, 1, 0), (34, .iload_n 2, 1, 0), (35, .iconst 1, 1, 0), (36, .iadd, 1, 0), (37, .ishl, 1, 0), (38, .iconst 1, 1, 0), (39, .isub, 1, 0), (40, .iconst (-1), 1, 0), (41, .ixor, 1, 0), (42, .iand, 1, 0), (43, .istore_n 3, 1, 0), (44, .iload_n 1, 1, 0), (45, .aload_n 0, 1, 0), (46, .getfield 18, 3, 0)], [(49, .getfield 80, 3, 0), (52, .iload_n 2, 1, 0), (53, .iaload, 1, 0), (54, .aload_n 0, 1, 0), (55, .getfield 18, 3, 0), (58, .iload_n 2, 1, 0), (59, .invokevirtual 83, 3, 0), (62, .iand, 1, 0), (63, .iload_n 3, 1, 0)], [(64, .iand, 1, 0), (65, .invokestatic 47, 3, 0), (68, .iadd, 1, 0), (69, .istore_n 1, 1, 0), (70, .iinc 2 1, 3, 0), (73, .goto (-69), 3, 4), (76, .iload_n 1, 1, 0), (77, .ireturn, 1, 0)]]
/-- X4_countCouples -/
def rw_68 : am_Row := (68, (4, 4, some (.int), 1, 1, 0, 0), ⟨"IslandCall$Study", "countCouples", "()I"⟩, prog_6_method_19_code, cd_68)
def cd_69 : List (List (Nat × Instr × Nat × Nat)) := [[(0, .iconst 0, 1, 0), (1, .istore_n 3, 1, 0), (2, .iload_n 3, 1, 0), (3, .iconst 1, 1, 0), (4, .aload_n 0, 1, 0), (5, .getfield 18, 3, 0), (8, .getfield 63, 3, 0), (11, .ishl, 1, 0), (12, .if_icmp .ge 20, 3, 32), (15, .aload_n 0, 1, 0)], [(16, .getfield 11, 3, 0), (19, .iload_n 3, 1, 0), (20, .aload_n 0, 1, 0), (21, .iload_n 3, 1, 0), (22, .invokevirtual 66, 3, 0), (25, .iastore, 1, 0), (26, .iinc 3 1, 3, 0), (29, .goto (-27), 3, 2)], [(32, .iload_n 2, 1, 0), (33, .istore_n 3, 1, 0), (34, .iload_n 3, 1, 0), (35, .iload_n 1, 1, 0), (36, .if_icmp .lt 24, 3, 60), (39, .aload_n 0, 1, 0), (40, .iload_n 3, 1, 0), (41, .iconst 2, 1, 0), (42, .irem, 1, 0), (43, .ifCond .eq 7, 3, 50), (46, .iconst 1, 1, 0), (47, .goto 4, 3, 51)], [(50, .iconst 0, 1, 0), (51, .invokevirtual 86, 3, 0), (54, .iinc 3 (-1), 3, 0), (57, .goto (-23), 3, 34), (60, .return_, 1, 0)]]
/-- X4_playFrom -/
def rw_69 : am_Row := (69, (4, 4, none, 3, 1, 0, 0), ⟨"IslandCall$Study", "playFrom", "(II)V"⟩, prog_6_method_20_code, cd_69)
def cd_70 : List (List (Nat × Instr × Nat × Nat)) := [[(0, .iconst 1, 1, 0), (1, .aload_n 0, 1, 0), (2, .getfield 18, 3, 0), (5, .getfield 63, 3, 0), (8, .ishl, 1, 0), (9, .istore_n 2, 1, 0), (10, .iconst 0, 1, 0), (11, .istore_n 3, 1, 0), (12, .iload_n 3, 1, 0), (13, .iload_n 2, 1, 0), (14, .if_icmp .ge 82, 3, 96)], [(17, .aload_n 0, 1, 0), (18, .getfield 11, 3, 0), (21, .iload_n 3, 1, 0), (22, .iaload, 1, 0), (23, .istore 4, 2, 0), (25, .iconst 0, 1, 0), (26, .istore 5, 2, 0), (28, .iload 5, 2, 0), (30, .aload_n 0, 1, 0), (31, .getfield 18, 3, 0)], [(34, .getfield 63, 3, 0), (37, .if_icmp .ge 45, 3, 82), (40, .aload_n 0, 1, 0), (41, .getfield 11, 3, 0), (44, .iload_n 3, 1, 0), (45, .iconst 1, 1, 0), (46, .iload 5, 2, 0)], [(48, .ishl, 1, 0), (49, .ixor, 1, 0), (50, .iaload, 1, 0), (51, .istore 6, 2, 0), (53, .iload_n 1, 1, 0), (54, .ifCond .eq 13, 3, 67), (57, .iload 4, 2, 0), (59, .iload 6, 2, 0), (61, .invokestatic 72, 3, 0)], [(64, .goto 10, 3, 74), (67, .iload 4, 2, 0), (69, .iload 6, 2, 0), (71, .invokestatic 90, 3, 0), (74, .istore 4, 2, 0), (76, .iinc 5 1, 3, 0), (79, .goto (-51), 3, 28)], [(82, .aload_n 0, 1, 0), (83, .getfield 15, 3, 0), (86, .iload_n 3, 1, 0), (87, .iload 4, 2, 0), (89, .iastore, 1, 0), (90, .iinc 3 1, 3, 0), (93, .goto (-81), 3, 12)], [(96, .aload_n 0, 1, 0), (97, .getfield 15, 3, 0), (100, .iconst 0, 1, 0), (101, .aload_n 0, 1, 0), (102, .getfield 11, 3, 0), (105, .iconst 0, 1, 0), (106, .iload_n 2, 1, 0), (107, .invokestatic 93, 3, 0), (110, .return_, 1, 0)]]
/-- X4_playTurn -/
def rw_70 : am_Row := (70, (4, 7, none, 2, 1, 0, 0), ⟨"IslandCall$Study", "playTurn", "(Z)V"⟩, prog_6_method_21_code, cd_70)
def cd_71 : List (List (Nat × Instr × Nat × Nat)) := [[(0, .aload_n 0, 1, 0), (1, .getfield 11, 3, 0), (4, .aload_n 0, 1, 0), (5, .getfield 18, 3, 0), (8, .getfield 99, 3, 0), (11, .iaload, 1, 0), (12, .ireturn, 1, 0)]]
/-- X4_worthNow -/
def rw_71 : am_Row := (71, (4, 1, some (.int), 1, 1, 0, 0), ⟨"IslandCall$Study", "worthNow", "()I"⟩, prog_6_method_22_code, cd_71)
def cd_72 : List (List (Nat × Instr × Nat × Nat)) := [[(0, .iconst (-1), 1, 0), (1, .istore_n 1, 1, 0), (2, .aload_n 0, 1, 0), (3, .getfield 11, 3, 0), (6, .aload_n 0, 1, 0), (7, .getfield 18, 3, 0), (10, .getfield 99, 3, 0), (13, .iaload, 1, 0), (14, .istore_n 2, 1, 0), (15, .iconst 0, 1, 0)], [(16, .istore_n 3, 1, 0), (17, .iload_n 3, 1, 0), (18, .aload_n 0, 1, 0), (19, .getfield 18, 3, 0), (22, .getfield 63, 3, 0), (25, .if_icmp .ge 49, 3, 74), (28, .aload_n 0, 1, 0), (29, .getfield 11, 3, 0)], [(32, .aload_n 0, 1, 0), (33, .getfield 18, 3, 0), (36, .getfield 99, 3, 0), (39, .iconst 1, 1, 0), (40, .iload_n 3, 1, 0), (41, .ishl, 1, 0), (42, .ixor, 1, 0), (43, .iaload, 1, 0), (44, .istore 4, 2, 0), (46, .iload 4, 2, 0)], [(48, .iload_n 2, 1, 0), (49, .if_icmp .gt 14, 3, 63), (52, .iload 4, 2, 0), (54, .iload_n 2, 1, 0), (55, .if_icmp .ne 13, 3, 68), (58, .iload_n 1, 1, 0), (59, .iconst (-1), 1, 0), (60, .if_icmp .ne 8, 3, 68), (63, .iload 4, 2, 0)], [(65, .istore_n 2, 1, 0), (66, .iload_n 3, 1, 0), (67, .istore_n 1, 1, 0), (68, .iinc 3 1, 3, 0), (71, .goto (-54), 3, 17), (74, .iload_n 1, 1, 0), (75, .ireturn, 1, 0)]]
/-- X4_captainsMove -/
def rw_72 : am_Row := (72, (4, 5, some (.int), 1, 1, 0, 0), ⟨"IslandCall$Study", "captainsMove", "()I"⟩, prog_6_method_23_code, cd_72)
def cd_73 : List (List (Nat × Instr × Nat × Nat)) := [[(0, .aload_n 0, 1, 0), (1, .invokespecial 3, 3, 0), (4, .aload_n 0, 1, 0), (5, .bipush 22, 2, 0), (7, .newarray .long, 2, 0), (9, .putfield 9, 3, 0), (12, .aload_n 0, 1, 0), (13, .iconst (-1), 1, 0), (14, .putfield 15, 3, 0)], [(17, .aload_n 0, 1, 0), (18, .iconst (-1), 1, 0), (19, .putfield 19, 3, 0), (22, .aload_n 0, 1, 0), (23, .aload_n 1, 1, 0), (24, .putfield 22, 3, 0), (27, .iconst 0, 1, 0), (28, .istore_n 2, 1, 0), (29, .iconst 0, 1, 0), (30, .istore_n 3, 1, 0), (31, .iload_n 3, 1, 0)], [(32, .ldc 26, 2, 0), (34, .invokevirtual 28, 3, 0), (37, .if_icmp .ge 61, 3, 98), (40, .iload_n 2, 1, 0), (41, .bipush 22, 2, 0), (43, .if_icmp .ge 55, 3, 98), (46, .ldc 26, 2, 0)], [(48, .iload_n 3, 1, 0), (49, .invokevirtual 34, 3, 0), (52, .istore 4, 2, 0), (54, .iload 4, 2, 0), (56, .bipush 32, 2, 0), (58, .if_icmp .ne 9, 3, 67), (61, .iinc 2 1, 3, 0)], [(64, .goto 28, 3, 92), (67, .aload_n 0, 1, 0), (68, .getfield 9, 3, 0), (71, .iload_n 2, 1, 0), (72, .aload_n 0, 1, 0), (73, .getfield 9, 3, 0), (76, .iload_n 2, 1, 0), (77, .laload, 1, 0), (78, .ldc2_w 38, 3, 0)], [(81, .lmul, 1, 0), (82, .iload 4, 2, 0), (84, .bipush 97, 2, 0), (86, .isub, 1, 0), (87, .iconst 1, 1, 0), (88, .iadd, 1, 0), (89, .i2l, 1, 0), (90, .ladd, 1, 0), (91, .lastore, 1, 0), (92, .iinc 3 1, 3, 0), (95, .goto (-64), 3, 31)], [(98, .return_, 1, 0)]]
/-- X5_init -/
def rw_73 : am_Row := (73, (5, 5, none, 2, 2, 1, 22), ⟨"IslandCall$Tokens", "<init>", "([I)V"⟩, prog_7_method_1_code, cd_73)
def cd_74 : List (List (Nat × Instr × Nat × Nat)) := [[(0, .aload_n 0, 1, 0), (1, .iload_n 1, 1, 0), (2, .putfield 40, 3, 0), (5, .aload_n 0, 1, 0), (6, .iconst 0, 1, 0), (7, .putfield 42, 3, 0), (10, .aload_n 0, 1, 0), (11, .iconst 0, 1, 0), (12, .putfield 15, 3, 0), (15, .aload_n 0, 1, 0)], [(16, .iconst (-1), 1, 0), (17, .putfield 19, 3, 0), (20, .return_, 1, 0)]]
/-- X5_begin -/
def rw_74 : am_Row := (74, (5, 2, none, 2, 1, 0, 0), ⟨"IslandCall$Tokens", "begin", "(I)V"⟩, prog_7_method_2_code, cd_74)
def cd_75 : List (List (Nat × Instr × Nat × Nat)) := [[(0, .aload_n 0, 1, 0), (1, .iload_n 1, 1, 0), (2, .putfield 15, 3, 0), (5, .aload_n 0, 1, 0), (6, .aload_n 0, 1, 0), (7, .getfield 45, 3, 0), (10, .putfield 19, 3, 0), (13, .iconst 0, 1, 0), (14, .ireturn, 1, 0)]]
/-- X5_fail -/
def rw_75 : am_Row := (75, (5, 2, some (.boolean), 2, 1, 0, 0), ⟨"IslandCall$Tokens", "fail", "(I)Z"⟩, prog_7_method_3_code, cd_75)
def cd_76 : List (List (Nat × Instr × Nat × Nat)) := [[(0, .aload_n 0, 1, 0), (1, .getfield 42, 3, 0), (4, .aload_n 0, 1, 0), (5, .getfield 40, 3, 0), (8, .if_icmp .ge 44, 3, 52), (11, .aload_n 0, 1, 0), (12, .getfield 22, 3, 0), (15, .aload_n 0, 1, 0)], [(16, .getfield 42, 3, 0), (19, .iaload, 1, 0), (20, .bipush 32, 2, 0), (22, .if_icmp .eq 17, 3, 39), (25, .aload_n 0, 1, 0), (26, .getfield 22, 3, 0), (29, .aload_n 0, 1, 0), (30, .getfield 42, 3, 0)], [(33, .iaload, 1, 0), (34, .bipush 10, 2, 0), (36, .if_icmp .ne 16, 3, 52), (39, .aload_n 0, 1, 0), (40, .dup, 1, 0), (41, .getfield 42, 3, 0), (44, .iconst 1, 1, 0), (45, .iadd, 1, 0), (46, .putfield 42, 3, 0)], [(49, .goto (-49), 3, 0), (52, .aload_n 0, 1, 0), (53, .aload_n 0, 1, 0), (54, .getfield 42, 3, 0), (57, .putfield 45, 3, 0), (60, .aload_n 0, 1, 0), (61, .iconst (-1), 1, 0), (62, .putfield 48, 3, 0)], [(65, .aload_n 0, 1, 0), (66, .lconst 0, 1, 0), (67, .putfield 51, 3, 0), (70, .aload_n 0, 1, 0), (71, .iconst 0, 1, 0), (72, .putfield 55, 3, 0), (75, .aload_n 0, 1, 0), (76, .getfield 42, 3, 0), (79, .aload_n 0, 1, 0)], [(80, .getfield 40, 3, 0), (83, .if_icmp .lt 10, 3, 93), (86, .aload_n 0, 1, 0), (87, .iconst 3, 1, 0), (88, .putfield 58, 3, 0), (91, .iconst 1, 1, 0), (92, .ireturn, 1, 0), (93, .aload_n 0, 1, 0), (94, .getfield 22, 3, 0)], [(97, .aload_n 0, 1, 0), (98, .getfield 42, 3, 0), (101, .iaload, 1, 0), (102, .istore_n 1, 1, 0), (103, .iload_n 1, 1, 0), (104, .bipush 97, 2, 0), (106, .if_icmp .lt 15, 3, 121), (109, .iload_n 1, 1, 0), (110, .bipush 122, 2, 0)], [(112, .if_icmp .gt 9, 3, 121), (115, .aload_n 0, 1, 0), (116, .invokevirtual 61, 3, 0), (119, .iconst 1, 1, 0), (120, .ireturn, 1, 0), (121, .iload_n 1, 1, 0), (122, .bipush 48, 2, 0), (124, .if_icmp .lt 14, 3, 138), (127, .iload_n 1, 1, 0)], [(128, .bipush 57, 2, 0), (130, .if_icmp .gt 8, 3, 138), (133, .aload_n 0, 1, 0), (134, .invokevirtual 64, 3, 0), (137, .ireturn, 1, 0), (138, .iload_n 1, 1, 0), (139, .bipush 59, 2, 0), (141, .if_icmp .eq 21, 3, 162)], [(144, .iload_n 1, 1, 0), (145, .bipush 60, 2, 0), (147, .if_icmp .eq 15, 3, 162), (150, .iload_n 1, 1, 0), (151, .bipush 62, 2, 0), (153, .if_icmp .eq 9, 3, 162), (156, .iload_n 1, 1, 0), (157, .bipush 61, 2, 0), (159, .if_icmp .ne 25, 3, 184)], [(162, .aload_n 0, 1, 0), (163, .iconst 2, 1, 0), (164, .putfield 58, 3, 0), (167, .aload_n 0, 1, 0), (168, .iload_n 1, 1, 0), (169, .putfield 55, 3, 0), (172, .aload_n 0, 1, 0), (173, .dup, 1, 0), (174, .getfield 42, 3, 0)], [(177, .iconst 1, 1, 0), (178, .iadd, 1, 0), (179, .putfield 42, 3, 0), (182, .iconst 1, 1, 0), (183, .ireturn, 1, 0), (184, .aload_n 0, 1, 0), (185, .iconst 1, 1, 0), (186, .invokevirtual 68, 3, 0), (189, .ireturn, 1, 0)]]
/-- X5_advance -/
def rw_76 : am_Row := (76, (5, 2, some (.boolean), 1, 1, 0, 0), ⟨"IslandCall$Tokens", "advance", "()Z"⟩, prog_7_method_4_code, cd_76)
def cd_77 : List (List (Nat × Instr × Nat × Nat)) := [[(0, .aload_n 0, 1, 0), (1, .iconst 0, 1, 0), (2, .putfield 58, 3, 0), (5, .aload_n 0, 1, 0), (6, .getfield 42, 3, 0), (9, .aload_n 0, 1, 0), (10, .getfield 40, 3, 0), (13, .if_icmp .ge 72, 3, 85)], [(16, .aload_n 0, 1, 0), (17, .getfield 22, 3, 0), (20, .aload_n 0, 1, 0), (21, .getfield 42, 3, 0), (24, .iaload, 1, 0), (25, .bipush 97, 2, 0), (27, .if_icmp .lt 58, 3, 85), (30, .aload_n 0, 1, 0), (31, .getfield 22, 3, 0)], [(34, .aload_n 0, 1, 0), (35, .getfield 42, 3, 0), (38, .iaload, 1, 0), (39, .bipush 122, 2, 0), (41, .if_icmp .gt 44, 3, 85), (44, .aload_n 0, 1, 0), (45, .aload_n 0, 1, 0), (46, .getfield 51, 3, 0)], [(49, .ldc2_w 38, 3, 0), (52, .lmul, 1, 0), (53, .aload_n 0, 1, 0), (54, .getfield 22, 3, 0), (57, .aload_n 0, 1, 0), (58, .getfield 42, 3, 0), (61, .iaload, 1, 0), (62, .bipush 97, 2, 0)], [(64, .isub, 1, 0), (65, .iconst 1, 1, 0), (66, .iadd, 1, 0), (67, .i2l, 1, 0), (68, .ladd, 1, 0), (69, .putfield 51, 3, 0), (72, .aload_n 0, 1, 0), (73, .dup, 1, 0), (74, .getfield 42, 3, 0), (77, .iconst 1, 1, 0), (78, .iadd, 1, 0), (79, .putfield 42, 3, 0)], [(82, .goto (-77), 3, 5), (85, .aload_n 0, 1, 0), (86, .getfield 42, 3, 0), (89, .aload_n 0, 1, 0), (90, .getfield 45, 3, 0), (93, .isub, 1, 0), (94, .bipush 8, 2, 0)], [(96, .if_icmp .le 8, 3, 104), (99, .aload_n 0, 1, 0), (100, .lconst 0, 1, 0), (101, .putfield 51, 3, 0), (104, .iconst 0, 1, 0), (105, .istore_n 1, 1, 0), (106, .iload_n 1, 1, 0), (107, .bipush 22, 2, 0), (109, .if_icmp .ge 28, 3, 137)], [(112, .aload_n 0, 1, 0), (113, .getfield 51, 3, 0), (116, .aload_n 0, 1, 0), (117, .getfield 9, 3, 0), (120, .iload_n 1, 1, 0), (121, .laload, 1, 0), (122, .lcmp, 1, 0), (123, .ifCond .ne 8, 3, 131), (126, .aload_n 0, 1, 0), (127, .iload_n 1, 1, 0)], [(128, .putfield 48, 3, 0), (131, .iinc 1 1, 3, 0), (134, .goto (-28), 3, 106), (137, .return_, 1, 0)]]
/-- X5_takeWord -/
def rw_77 : am_Row := (77, (5, 2, none, 1, 1, 0, 0), ⟨"IslandCall$Tokens", "takeWord", "()V"⟩, prog_7_method_5_code, cd_77)
def cd_78 : List (List (Nat × Instr × Nat × Nat)) := [[(0, .aload_n 0, 1, 0), (1, .iconst 1, 1, 0), (2, .putfield 58, 3, 0), (5, .aload_n 0, 1, 0), (6, .getfield 42, 3, 0), (9, .aload_n 0, 1, 0), (10, .getfield 40, 3, 0), (13, .if_icmp .ge 68, 3, 81)], [(16, .aload_n 0, 1, 0), (17, .getfield 22, 3, 0), (20, .aload_n 0, 1, 0), (21, .getfield 42, 3, 0), (24, .iaload, 1, 0), (25, .bipush 48, 2, 0), (27, .if_icmp .lt 54, 3, 81), (30, .aload_n 0, 1, 0), (31, .getfield 22, 3, 0)], [(34, .aload_n 0, 1, 0), (35, .getfield 42, 3, 0), (38, .iaload, 1, 0), (39, .bipush 57, 2, 0), (41, .if_icmp .gt 40, 3, 81), (44, .aload_n 0, 1, 0), (45, .aload_n 0, 1, 0), (46, .getfield 55, 3, 0)], [(49, .bipush 10, 2, 0), (51, .imul, 1, 0), (52, .aload_n 0, 1, 0), (53, .getfield 22, 3, 0), (56, .aload_n 0, 1, 0), (57, .getfield 42, 3, 0), (60, .iaload, 1, 0), (61, .bipush 48, 2, 0), (63, .isub, 1, 0)], [(64, .iadd, 1, 0), (65, .putfield 55, 3, 0), (68, .aload_n 0, 1, 0), (69, .dup, 1, 0), (70, .getfield 42, 3, 0), (73, .iconst 1, 1, 0), (74, .iadd, 1, 0), (75, .putfield 42, 3, 0), (78, .goto (-73), 3, 5)], [(81, .aload_n 0, 1, 0), (82, .getfield 42, 3, 0), (85, .aload_n 0, 1, 0), (86, .getfield 45, 3, 0), (89, .isub, 1, 0), (90, .iconst 4, 1, 0), (91, .if_icmp .le 11, 3, 102), (94, .aload_n 0, 1, 0), (95, .iconst 1, 1, 0)], [(96, .invokevirtual 68, 3, 0), (99, .ifCond .eq 7, 3, 106), (102, .iconst 1, 1, 0), (103, .goto 4, 3, 107), (106, .iconst 0, 1, 0), (107, .ireturn, 1, 0)]]
/-- X5_takeNumber -/
def rw_78 : am_Row := (78, (5, 1, some (.boolean), 1, 1, 0, 0), ⟨"IslandCall$Tokens", "takeNumber", "()Z"⟩, prog_7_method_6_code, cd_78)
def cd_79 : List (List (Nat × Instr × Nat × Nat)) := [[(0, .aload_n 0, 1, 0), (1, .getfield 58, 3, 0), (4, .iconst 3, 1, 0), (5, .if_icmp .ne 7, 3, 12), (8, .iconst 1, 1, 0), (9, .goto 4, 3, 13), (12, .iconst 0, 1, 0), (13, .ireturn, 1, 0)]]
/-- X5_isEnd -/
def rw_79 : am_Row := (79, (5, 1, some (.boolean), 1, 1, 0, 0), ⟨"IslandCall$Tokens", "isEnd", "()Z"⟩, prog_7_method_7_code, cd_79)
def cd_80 : List (List (Nat × Instr × Nat × Nat)) := [[(0, .aload_n 0, 1, 0), (1, .getfield 58, 3, 0), (4, .ifCond .ne 24, 3, 28), (7, .aload_n 0, 1, 0), (8, .getfield 48, 3, 0), (11, .iconst (-1), 1, 0), (12, .if_icmp .ne 16, 3, 28), (15, .aload_n 0, 1, 0)], [(16, .getfield 51, 3, 0), (19, .lconst 0, 1, 0), (20, .lcmp, 1, 0), (21, .ifCond .eq 7, 3, 28), (24, .iconst 1, 1, 0), (25, .goto 4, 3, 29), (28, .iconst 0, 1, 0), (29, .ireturn, 1, 0)]]
/-- X5_isName -/
def rw_80 : am_Row := (80, (5, 1, some (.boolean), 1, 1, 0, 0), ⟨"IslandCall$Tokens", "isName", "()Z"⟩, prog_7_method_8_code, cd_80)
def cd_81 : List (List (Nat × Instr × Nat × Nat)) := [[(0, .aload_n 0, 1, 0), (1, .getfield 58, 3, 0), (4, .iconst 2, 1, 0), (5, .if_icmp .ne 16, 3, 21), (8, .aload_n 0, 1, 0), (9, .getfield 55, 3, 0), (12, .bipush 59, 2, 0), (14, .if_icmp .eq 7, 3, 21)], [(17, .iconst 1, 1, 0), (18, .goto 4, 3, 22), (21, .iconst 0, 1, 0), (22, .ireturn, 1, 0)]]
/-- X5_isCompare -/
def rw_81 : am_Row := (81, (5, 1, some (.boolean), 1, 1, 0, 0), ⟨"IslandCall$Tokens", "isCompare", "()Z"⟩, prog_7_method_9_code, cd_81)
def cd_82 : List (List (Nat × Instr × Nat × Nat)) := [[(0, .aload_n 0, 1, 0), (1, .getfield 58, 3, 0), (4, .iconst 2, 1, 0), (5, .if_icmp .ne 16, 3, 21), (8, .aload_n 0, 1, 0), (9, .getfield 55, 3, 0), (12, .bipush 59, 2, 0), (14, .if_icmp .ne 7, 3, 21)], [(17, .iconst 1, 1, 0), (18, .goto 4, 3, 22), (21, .iconst 0, 1, 0), (22, .ireturn, 1, 0)]]
/-- X5_isStop -/
def rw_82 : am_Row := (82, (5, 1, some (.boolean), 1, 1, 0, 0), ⟨"IslandCall$Tokens", "isStop", "()Z"⟩, prog_7_method_10_code, cd_82)
def cd_83 : List (List (Nat × Instr × Nat × Nat)) := [[(0, .aload_n 0, 1, 0), (1, .invokevirtual 72, 3, 0), (4, .ifCond .eq 22, 3, 26), (7, .aload_n 0, 1, 0), (8, .invokevirtual 75, 3, 0), (11, .ifCond .ne 11, 3, 22), (14, .aload_n 0, 1, 0), (15, .iconst 2, 1, 0)], [(16, .invokevirtual 68, 3, 0), (19, .ifCond .eq 7, 3, 26), (22, .iconst 1, 1, 0), (23, .goto 4, 3, 27), (26, .iconst 0, 1, 0), (27, .ireturn, 1, 0)]]
/-- X5_wantName -/
def rw_83 : am_Row := (83, (5, 1, some (.boolean), 1, 1, 0, 0), ⟨"IslandCall$Tokens", "wantName", "()Z"⟩, prog_7_method_11_code, cd_83)
def cd_84 : List (List (Nat × Instr × Nat × Nat)) := [[(0, .aload_n 0, 1, 0), (1, .invokevirtual 72, 3, 0), (4, .ifCond .eq 23, 3, 27), (7, .aload_n 0, 1, 0), (8, .getfield 48, 3, 0), (11, .iload_n 1, 1, 0), (12, .if_icmp .eq 11, 3, 23), (15, .aload_n 0, 1, 0)], [(16, .iconst 2, 1, 0), (17, .invokevirtual 68, 3, 0), (20, .ifCond .eq 7, 3, 27), (23, .iconst 1, 1, 0), (24, .goto 4, 3, 28), (27, .iconst 0, 1, 0), (28, .ireturn, 1, 0)]]
/-- X5_wantKeyword -/
def rw_84 : am_Row := (84, (5, 2, some (.boolean), 2, 1, 0, 0), ⟨"IslandCall$Tokens", "wantKeyword", "(I)Z"⟩, prog_7_method_12_code, cd_84)
def cd_85 : List (List (Nat × Instr × Nat × Nat)) := [[(0, .aload_n 0, 1, 0), (1, .invokevirtual 72, 3, 0), (4, .ifCond .eq 22, 3, 26), (7, .aload_n 0, 1, 0), (8, .invokevirtual 78, 3, 0), (11, .ifCond .ne 11, 3, 22), (14, .aload_n 0, 1, 0), (15, .iconst 2, 1, 0)], [(16, .invokevirtual 68, 3, 0), (19, .ifCond .eq 7, 3, 26), (22, .iconst 1, 1, 0), (23, .goto 4, 3, 27), (26, .iconst 0, 1, 0), (27, .ireturn, 1, 0)]]
/-- X5_wantStop -/
def rw_85 : am_Row := (85, (5, 1, some (.boolean), 1, 1, 0, 0), ⟨"IslandCall$Tokens", "wantStop", "()Z"⟩, prog_7_method_13_code, cd_85)
def cd_86 : List (List (Nat × Instr × Nat × Nat)) := [[(0, .aload_n 0, 1, 0), (1, .invokevirtual 72, 3, 0), (4, .ifCond .ne 5, 3, 9), (7, .iconst 0, 1, 0), (8, .ireturn, 1, 0), (9, .aload_n 0, 1, 0), (10, .getfield 58, 3, 0), (13, .iconst 1, 1, 0), (14, .if_icmp .eq 9, 3, 23)], [(17, .aload_n 0, 1, 0), (18, .iconst 2, 1, 0), (19, .invokevirtual 68, 3, 0), (22, .ireturn, 1, 0), (23, .aload_n 0, 1, 0), (24, .getfield 55, 3, 0), (27, .iload_n 1, 1, 0), (28, .if_icmp .lt 11, 3, 39), (31, .aload_n 0, 1, 0)], [(32, .getfield 55, 3, 0), (35, .iload_n 2, 1, 0), (36, .if_icmp .le 11, 3, 47), (39, .aload_n 0, 1, 0), (40, .iconst 4, 1, 0), (41, .invokevirtual 68, 3, 0), (44, .ifCond .eq 7, 3, 51), (47, .iconst 1, 1, 0)], [(48, .goto 4, 3, 52), (51, .iconst 0, 1, 0), (52, .ireturn, 1, 0)]]
/-- X5_wantNumber -/
def rw_86 : am_Row := (86, (5, 3, some (.boolean), 3, 1, 0, 0), ⟨"IslandCall$Tokens", "wantNumber", "(II)Z"⟩, prog_7_method_14_code, cd_86)
def cd_87 : List (List (Nat × Instr × Nat × Nat)) := [[(0, .aload_n 0, 1, 0), (1, .invokespecial 3, 3, 0), (4, .aload_n 0, 1, 0), (5, .iconst 4, 1, 0), (6, .bipush 60, 2, 0), (8, .multianewarray 11 2, 4, 0), (12, .putfield 13, 3, 0), (15, .aload_n 0, 1, 0)], [(16, .iconst 4, 1, 0), (17, .newarray .int, 2, 0), (19, .putfield 16, 3, 0), (22, .aload_n 0, 1, 0), (23, .iconst 4, 1, 0), (24, .newarray .int, 2, 0), (26, .putfield 20, 3, 0), (29, .aload_n 0, 1, 0), (30, .iconst 4, 1, 0), (31, .newarray .boolean, 2, 0)], [(33, .putfield 23, 3, 0), (36, .return_, 1, 0)]]
/-- X6_init -/
def rw_87 : am_Row := (87, (6, 1, none, 1, 2, 8, 256), ⟨"IslandCall$Trays", "<init>", "()V"⟩, prog_8_method_1_code, cd_87)
def cd_88 : List (List (Nat × Instr × Nat × Nat)) := [[(0, .iload_n 1, 1, 0), (1, .ifCond .lt 12, 3, 13), (4, .iload_n 1, 1, 0), (5, .iconst 4, 1, 0), (6, .if_icmp .ge 7, 3, 13), (9, .iconst 1, 1, 0), (10, .goto 4, 3, 14), (13, .iconst 0, 1, 0), (14, .ireturn, 1, 0)]]
/-- X6_isTray -/
def rw_88 : am_Row := (88, (6, 2, some (.boolean), 2, 1, 0, 0), ⟨"IslandCall$Trays", "isTray", "(I)Z"⟩, prog_8_method_2_code, cd_88)
def cd_89 : List (List (Nat × Instr × Nat × Nat)) := [[(0, .aload_n 0, 1, 0), (1, .getfield 23, 3, 0), (4, .iload_n 1, 1, 0), (5, .baload, 1, 0), (6, .ifCond .ne 7, 3, 13), (9, .iconst 1, 1, 0), (10, .goto 4, 3, 14), (13, .iconst 0, 1, 0), (14, .ireturn, 1, 0)]]
/-- X6_isMissing -/
def rw_89 : am_Row := (89, (6, 2, some (.boolean), 2, 1, 0, 0), ⟨"IslandCall$Trays", "isMissing", "(I)Z"⟩, prog_8_method_3_code, cd_89)
def cd_90 : List (List (Nat × Instr × Nat × Nat)) := [[(0, .aload_n 0, 1, 0), (1, .getfield 20, 3, 0), (4, .iload_n 1, 1, 0), (5, .iaload, 1, 0), (6, .ireturn, 1, 0)]]
/-- X6_lengthOf -/
def rw_90 : am_Row := (90, (6, 2, some (.int), 2, 1, 0, 0), ⟨"IslandCall$Trays", "lengthOf", "(I)I"⟩, prog_8_method_4_code, cd_90)
def cd_91 : List (List (Nat × Instr × Nat × Nat)) := [[(0, .aload_n 0, 1, 0), (1, .getfield 23, 3, 0), (4, .iload_n 1, 1, 0), (5, .iconst 1, 1, 0), (6, .bastore, 1, 0), (7, .aload_n 0, 1, 0), (8, .getfield 16, 3, 0), (11, .iload_n 1, 1, 0), (12, .iload_n 2, 1, 0), (13, .iastore, 1, 0), (14, .aload_n 0, 1, 0), (15, .getfield 20, 3, 0)], [(18, .iload_n 1, 1, 0), (19, .iload_n 3, 1, 0), (20, .iastore, 1, 0), (21, .iconst 0, 1, 0), (22, .istore 4, 2, 0), (24, .iload 4, 2, 0), (26, .iload_n 3, 1, 0), (27, .if_icmp .ge 19, 3, 46), (30, .aload_n 0, 1, 0), (31, .getfield 13, 3, 0)], [(34, .iload_n 1, 1, 0), (35, .aaload, 1, 0), (36, .iload 4, 2, 0), (38, .lconst 0, 1, 0), (39, .lastore, 1, 0), (40, .iinc 4 1, 3, 0), (43, .goto (-19), 3, 24), (46, .return_, 1, 0)]]
/-- X6_lay -/
def rw_91 : am_Row := (91, (6, 5, none, 4, 1, 0, 0), ⟨"IslandCall$Trays", "lay", "(III)V"⟩, prog_8_method_5_code, cd_91)
def cd_92 : List (List (Nat × Instr × Nat × Nat)) := [[(0, .aload_n 0, 1, 0), (1, .iload_n 1, 1, 0), (2, .invokevirtual 27, 3, 0), (5, .ifCond .ne 5, 3, 10), (8, .iconst 1, 1, 0), (9, .ireturn, 1, 0), (10, .aload_n 0, 1, 0), (11, .iload_n 1, 1, 0), (12, .invokevirtual 31, 3, 0), (15, .ifCond .eq 5, 3, 20)], [(18, .iconst 2, 1, 0), (19, .ireturn, 1, 0), (20, .iload_n 2, 1, 0), (21, .ifCond .lt 17, 3, 38), (24, .iload_n 2, 1, 0), (25, .aload_n 0, 1, 0), (26, .getfield 20, 3, 0), (29, .iload_n 1, 1, 0), (30, .iaload, 1, 0), (31, .if_icmp .ge 7, 3, 38)], [(34, .iconst 0, 1, 0), (35, .goto 4, 3, 39), (38, .iconst 3, 1, 0), (39, .ireturn, 1, 0)]]
/-- X6_troubleAt -/
def rw_92 : am_Row := (92, (6, 3, some (.int), 3, 1, 0, 0), ⟨"IslandCall$Trays", "troubleAt", "(II)I"⟩, prog_8_method_6_code, cd_92)
def cd_93 : List (List (Nat × Instr × Nat × Nat)) := [[(0, .aload_n 0, 1, 0), (1, .getfield 13, 3, 0), (4, .iload_n 1, 1, 0), (5, .aaload, 1, 0), (6, .iload_n 2, 1, 0), (7, .lload_n 3, 1, 0), (8, .aload_n 0, 1, 0), (9, .getfield 16, 3, 0), (12, .iload_n 1, 1, 0), (13, .iaload, 1, 0), (14, .invokestatic 34, 3, 0)], [(17, .lastore, 1, 0), (18, .return_, 1, 0)]]
/-- X6_put -/
def rw_93 : am_Row := (93, (6, 5, none, 4, 1, 0, 0), ⟨"IslandCall$Trays", "put", "(IIJ)V"⟩, prog_8_method_7_code, cd_93)
def cd_94 : List (List (Nat × Instr × Nat × Nat)) := [[(0, .aload_n 0, 1, 0), (1, .getfield 13, 3, 0), (4, .iload_n 1, 1, 0), (5, .aaload, 1, 0), (6, .iload_n 2, 1, 0), (7, .laload, 1, 0), (8, .lreturn, 1, 0)]]
/-- X6_valueAt -/
def rw_94 : am_Row := (94, (6, 3, some (.long), 3, 1, 0, 0), ⟨"IslandCall$Trays", "valueAt", "(II)J"⟩, prog_8_method_8_code, cd_94)
def cd_95 : List (List (Nat × Instr × Nat × Nat)) := [[(0, .aload_n 0, 1, 0), (1, .iload_n 1, 1, 0), (2, .invokevirtual 27, 3, 0), (5, .ifCond .eq 25, 3, 30), (8, .aload_n 0, 1, 0), (9, .iload_n 3, 1, 0), (10, .invokevirtual 27, 3, 0), (13, .ifCond .eq 17, 3, 30)], [(16, .iload_n 2, 1, 0), (17, .ifCond .lt 13, 3, 30), (20, .iload 4, 2, 0), (22, .ifCond .lt 8, 3, 30), (25, .iload 5, 2, 0), (27, .ifCond .ge 5, 3, 32), (30, .iconst 1, 1, 0), (31, .ireturn, 1, 0)], [(32, .aload_n 0, 1, 0), (33, .iload_n 1, 1, 0), (34, .invokevirtual 31, 3, 0), (37, .ifCond .ne 11, 3, 48), (40, .aload_n 0, 1, 0), (41, .iload_n 3, 1, 0), (42, .invokevirtual 31, 3, 0), (45, .ifCond .eq 5, 3, 50)], [(48, .iconst 2, 1, 0), (49, .ireturn, 1, 0), (50, .aload_n 0, 1, 0), (51, .getfield 16, 3, 0), (54, .iload_n 1, 1, 0), (55, .iaload, 1, 0), (56, .aload_n 0, 1, 0), (57, .getfield 16, 3, 0), (60, .iload_n 3, 1, 0), (61, .iaload, 1, 0), (62, .if_icmp .eq 6, 3, 68)], [(65, .bipush 8, 2, 0), (67, .ireturn, 1, 0), (68, .iload_n 2, 1, 0), (69, .i2l, 1, 0), (70, .iload 5, 2, 0), (72, .i2l, 1, 0), (73, .ladd, 1, 0), (74, .aload_n 0, 1, 0), (75, .getfield 20, 3, 0), (78, .iload_n 1, 1, 0), (79, .iaload, 1, 0)], [(80, .i2l, 1, 0), (81, .lcmp, 1, 0), (82, .ifCond .gt 25, 3, 107), (85, .iload 4, 2, 0), (87, .i2l, 1, 0), (88, .iload 5, 2, 0), (90, .i2l, 1, 0), (91, .ladd, 1, 0), (92, .aload_n 0, 1, 0), (93, .getfield 20, 3, 0)], [(96, .iload_n 3, 1, 0), (97, .iaload, 1, 0), (98, .i2l, 1, 0), (99, .lcmp, 1, 0), (100, .ifCond .gt 7, 3, 107), (103, .iconst 1, 1, 0), (104, .goto 4, 3, 108), (107, .iconst 0, 1, 0), (108, .istore 6, 2, 0), (110, .iload 6, 2, 0)], [(112, .ifCond .eq 7, 3, 119), (115, .iconst 0, 1, 0), (116, .goto 4, 3, 120), (119, .iconst 3, 1, 0), (120, .ireturn, 1, 0)]]
/-- X6_troubleToMove -/
def rw_95 : am_Row := (95, (6, 7, some (.int), 6, 1, 0, 0), ⟨"IslandCall$Trays", "troubleToMove", "(IIIII)I"⟩, prog_8_method_9_code, cd_95)
def cd_96 : List (List (Nat × Instr × Nat × Nat)) := [[(0, .aload_n 0, 1, 0), (1, .getfield 13, 3, 0), (4, .iload_n 1, 1, 0), (5, .aaload, 1, 0), (6, .iload_n 2, 1, 0), (7, .aload_n 0, 1, 0), (8, .getfield 13, 3, 0), (11, .iload_n 3, 1, 0), (12, .aaload, 1, 0), (13, .iload 4, 2, 0), (15, .iload 5, 2, 0)], [(17, .invokestatic 38, 3, 0), (20, .return_, 1, 0)]]
/-- X6_move -/
def rw_96 : am_Row := (96, (6, 6, none, 6, 1, 0, 0), ⟨"IslandCall$Trays", "move", "(IIIII)V"⟩, prog_8_method_10_code, cd_96)
def cd_97 : List (List (Nat × Instr × Nat × Nat)) := [[(0, .iload_n 2, 1, 0), (1, .tableswitch 41 0 2 #[27, 32, 37], 27, 0)], [(28, .lload_n 0, 1, 0), (29, .l2i, 1, 0), (30, .i2b, 1, 0), (31, .i2l, 1, 0)], [(32, .lreturn, 1, 0), (33, .lload_n 0, 1, 0), (34, .l2i, 1, 0), (35, .i2s, 1, 0), (36, .i2l, 1, 0), (37, .lreturn, 1, 0), (38, .lload_n 0, 1, 0), (39, .l2i, 1, 0), (40, .i2l, 1, 0), (41, .lreturn, 1, 0), (42, .lload_n 0, 1, 0), (43, .lreturn, 1, 0)]]
/-- X6_cut -/
def rw_97 : am_Row := (97, (6, 3, some (.long), 2, 0, 0, 0), ⟨"IslandCall$Trays", "cut", "(JI)J"⟩, prog_8_method_11_code, cd_97)
def cd_98 : List (List (Nat × Instr × Nat × Nat)) := [[(0, .aload_n 0, 1, 0), (1, .invokespecial 5, 3, 0), (4, .aload_n 0, 1, 0), (5, .bipush 60, 2, 0), (7, .newarray .int, 2, 0), (9, .putfield 11, 3, 0), (12, .aload_n 0, 1, 0), (13, .bipush 60, 2, 0), (15, .newarray .int, 2, 0)], [(17, .putfield 15, 3, 0), (20, .aload_n 0, 1, 0), (21, .bipush 60, 2, 0), (23, .newarray .int, 2, 0), (25, .putfield 18, 3, 0), (28, .aload_n 0, 1, 0), (29, .bipush 60, 2, 0), (31, .newarray .int, 2, 0)], [(33, .putfield 21, 3, 0), (36, .aload_n 0, 1, 0), (37, .bipush 60, 2, 0), (39, .newarray .int, 2, 0), (41, .putfield 24, 3, 0), (44, .aload_n 0, 1, 0), (45, .bipush 60, 2, 0), (47, .newarray .int, 2, 0)], [(49, .putfield 27, 3, 0), (52, .return_, 1, 0)]]
/-- X7_init -/
def rw_98 : am_Row := (98, (7, 1, none, 1, 2, 6, 360), ⟨"IslandCall$Years", "<init>", "()V"⟩, prog_9_method_1_code, cd_98)
def cd_99 : List (List (Nat × Instr × Nat × Nat)) := [[(0, .aload_n 0, 1, 0), (1, .iconst 0, 1, 0), (2, .putfield 30, 3, 0), (5, .aload_n 0, 1, 0), (6, .iconst 0, 1, 0), (7, .putfield 34, 3, 0), (10, .aload_n 0, 1, 0), (11, .iconst 0, 1, 0), (12, .putfield 38, 3, 0), (15, .return_, 1, 0)]]
/-- X7_forget -/
def rw_99 : am_Row := (99, (7, 1, none, 1, 1, 0, 0), ⟨"IslandCall$Years", "forget", "()V"⟩, prog_9_method_2_code, cd_99)
def cd_100 : List (List (Nat × Instr × Nat × Nat)) := [[(0, .aload_n 0, 1, 0), (1, .aload_n 1, 1, 0), (2, .getfield 30, 3, 0), (5, .putfield 30, 3, 0), (8, .aload_n 0, 1, 0), (9, .aload_n 1, 1, 0), (10, .getfield 34, 3, 0), (13, .putfield 34, 3, 0)], [(16, .aload_n 0, 1, 0), (17, .aload_n 1, 1, 0), (18, .getfield 38, 3, 0), (21, .putfield 38, 3, 0), (24, .aload_n 1, 1, 0), (25, .getfield 11, 3, 0), (28, .iconst 0, 1, 0), (29, .aload_n 0, 1, 0), (30, .getfield 11, 3, 0)], [(33, .iconst 0, 1, 0), (34, .aload_n 0, 1, 0), (35, .getfield 38, 3, 0), (38, .invokestatic 41, 3, 0), (41, .aload_n 1, 1, 0), (42, .getfield 15, 3, 0), (45, .iconst 0, 1, 0), (46, .aload_n 0, 1, 0), (47, .getfield 15, 3, 0)], [(50, .iconst 0, 1, 0), (51, .aload_n 0, 1, 0), (52, .getfield 38, 3, 0), (55, .invokestatic 41, 3, 0), (58, .aload_n 1, 1, 0), (59, .getfield 18, 3, 0), (62, .iconst 0, 1, 0), (63, .aload_n 0, 1, 0)], [(64, .getfield 18, 3, 0), (67, .iconst 0, 1, 0), (68, .aload_n 0, 1, 0), (69, .getfield 38, 3, 0), (72, .invokestatic 41, 3, 0), (75, .aload_n 1, 1, 0), (76, .getfield 21, 3, 0), (79, .iconst 0, 1, 0)], [(80, .aload_n 0, 1, 0), (81, .getfield 21, 3, 0), (84, .iconst 0, 1, 0), (85, .aload_n 0, 1, 0), (86, .getfield 38, 3, 0), (89, .invokestatic 41, 3, 0), (92, .aload_n 1, 1, 0), (93, .getfield 24, 3, 0)], [(96, .iconst 0, 1, 0), (97, .aload_n 0, 1, 0), (98, .getfield 24, 3, 0), (101, .iconst 0, 1, 0), (102, .aload_n 0, 1, 0), (103, .getfield 38, 3, 0), (106, .invokestatic 41, 3, 0), (109, .aload_n 1, 1, 0), (110, .getfield 27, 3, 0)], [(113, .iconst 0, 1, 0), (114, .aload_n 0, 1, 0), (115, .getfield 27, 3, 0), (118, .iconst 0, 1, 0), (119, .aload_n 0, 1, 0), (120, .getfield 38, 3, 0), (123, .invokestatic 41, 3, 0), (126, .return_, 1, 0)]]
/-- X7_copyFrom -/
def rw_100 : am_Row := (100, (7, 2, none, 2, 1, 0, 0), ⟨"IslandCall$Years", "copyFrom", "(LIslandCall$Years;)V"⟩, prog_9_method_3_code, cd_100)
def cd_101 : List (List (Nat × Instr × Nat × Nat)) := [[(0, .aload_n 0, 1, 0), (1, .getfield 38, 3, 0), (4, .bipush 60, 2, 0), (6, .if_icmp .lt 5, 3, 11), (9, .iconst (-1), 1, 0), (10, .ireturn, 1, 0), (11, .aload_n 0, 1, 0), (12, .getfield 11, 3, 0), (15, .aload_n 0, 1, 0)], [(16, .getfield 38, 3, 0), (19, .iload_n 1, 1, 0), (20, .iastore, 1, 0), (21, .aload_n 0, 1, 0), (22, .getfield 15, 3, 0), (25, .aload_n 0, 1, 0), (26, .getfield 38, 3, 0), (29, .iconst (-1), 1, 0), (30, .iastore, 1, 0), (31, .aload_n 0, 1, 0)], [(32, .getfield 18, 3, 0), (35, .aload_n 0, 1, 0), (36, .getfield 38, 3, 0), (39, .iconst (-1), 1, 0), (40, .iastore, 1, 0), (41, .aload_n 0, 1, 0), (42, .getfield 21, 3, 0), (45, .aload_n 0, 1, 0), (46, .getfield 38, 3, 0)], [(49, .iconst (-1), 1, 0), (50, .iastore, 1, 0), (51, .aload_n 0, 1, 0), (52, .getfield 24, 3, 0), (55, .aload_n 0, 1, 0), (56, .getfield 38, 3, 0), (59, .iconst 0, 1, 0), (60, .iastore, 1, 0), (61, .aload_n 0, 1, 0), (62, .getfield 27, 3, 0)], [(65, .aload_n 0, 1, 0), (66, .getfield 38, 3, 0), (69, .iconst (-1), 1, 0), (70, .iastore, 1, 0), (71, .aload_n 0, 1, 0), (72, .dup, 1, 0), (73, .getfield 38, 3, 0), (76, .iconst 1, 1, 0), (77, .iadd, 1, 0), (78, .putfield 38, 3, 0)], [(81, .aload_n 0, 1, 0), (82, .getfield 38, 3, 0), (85, .iconst 1, 1, 0), (86, .isub, 1, 0), (87, .ireturn, 1, 0)]]
/-- X7_add -/
def rw_101 : am_Row := (101, (7, 2, some (.int), 2, 1, 0, 0), ⟨"IslandCall$Years", "add", "(I)I"⟩, prog_9_method_4_code, cd_101)
def cd_102 : List (List (Nat × Instr × Nat × Nat)) := [[(0, .aload_n 0, 1, 0), (1, .invokespecial 3, 3, 0), (4, .aload_n 0, 1, 0), (5, .iconst 3, 1, 0), (6, .newarray .int, 2, 0), (8, .putfield 11, 3, 0), (11, .aload_n 0, 1, 0), (12, .aload_n 1, 1, 0), (13, .putfield 15, 3, 0)], [(16, .aload_n 0, 1, 0), (17, .aload_n 2, 1, 0), (18, .putfield 19, 3, 0), (21, .aload_n 0, 1, 0), (22, .aload_n 3, 1, 0), (23, .putfield 23, 3, 0), (26, .return_, 1, 0)]]
/-- X8_init -/
def rw_102 : am_Row := (102, (8, 4, none, 4, 2, 1, 3), ⟨"IslandCall$YearsReader", "<init>", "(LIslandCall$Tokens;LIslandCall$Years;LIslandCall$Boat;)V"⟩, prog_10_method_1_code, cd_102)
def cd_103 : List (List (Nat × Instr × Nat × Nat)) := [[(0, .aload_n 0, 1, 0), (1, .getfield 15, 3, 0), (4, .iload_n 1, 1, 0), (5, .invokevirtual 27, 3, 0), (8, .aload_n 0, 1, 0), (9, .getfield 19, 3, 0), (12, .invokevirtual 33, 3, 0), (15, .aload_n 0, 1, 0)], [(16, .getfield 19, 3, 0), (19, .iconst 1, 1, 0), (20, .putfield 38, 3, 0), (23, .aload_n 0, 1, 0), (24, .iconst 0, 1, 0), (25, .putfield 42, 3, 0), (28, .iconst 0, 1, 0), (29, .istore_n 2, 1, 0), (30, .iload_n 2, 1, 0), (31, .iload_n 1, 1, 0)], [(32, .if_icmp .gt 138, 3, 170), (35, .aload_n 0, 1, 0), (36, .getfield 15, 3, 0), (39, .invokevirtual 46, 3, 0), (42, .ifCond .ne 5, 3, 47), (45, .iconst 0, 1, 0), (46, .ireturn, 1, 0), (47, .aload_n 0, 1, 0)], [(48, .getfield 15, 3, 0), (51, .invokevirtual 50, 3, 0), (54, .ifCond .eq 27, 3, 81), (57, .aload_n 0, 1, 0), (58, .getfield 42, 3, 0), (61, .ifCond .eq 14, 3, 75)], [(64, .aload_n 0, 1, 0), (65, .getfield 15, 3, 0), (68, .iconst 2, 1, 0), (69, .invokevirtual 53, 3, 0), (72, .ifCond .eq 7, 3, 79), (75, .iconst 1, 1, 0), (76, .goto 4, 3, 80), (79, .iconst 0, 1, 0)], [(80, .ireturn, 1, 0), (81, .aload_n 0, 1, 0), (82, .getfield 15, 3, 0), (85, .getfield 57, 3, 0), (88, .istore_n 3, 1, 0), (89, .aload_n 0, 1, 0), (90, .getfield 19, 3, 0), (93, .getfield 60, 3, 0)], [(96, .istore 4, 2, 0), (98, .iload_n 3, 1, 0), (99, .bipush 20, 2, 0), (101, .if_icmp .ne 10, 3, 111), (104, .aload_n 0, 1, 0), (105, .invokevirtual 63, 3, 0), (108, .goto 8, 3, 116), (111, .aload_n 0, 1, 0)], [(112, .iload_n 3, 1, 0), (113, .invokevirtual 66, 3, 0), (116, .istore 5, 2, 0), (118, .iload 5, 2, 0), (120, .ifCond .eq 27, 3, 147), (123, .iload_n 3, 1, 0), (124, .bipush 17, 2, 0), (126, .if_icmp .ne 12, 3, 138)], [(129, .aload_n 0, 1, 0), (130, .iload 4, 2, 0), (132, .invokevirtual 69, 3, 0), (135, .goto 10, 3, 145), (138, .aload_n 0, 1, 0), (139, .iload_n 3, 1, 0), (140, .iload 4, 2, 0), (142, .invokevirtual 72, 3, 0)], [(145, .istore 5, 2, 0), (147, .iload 5, 2, 0), (149, .ifCond .eq 13, 3, 162), (152, .aload_n 0, 1, 0), (153, .getfield 15, 3, 0), (156, .invokevirtual 76, 3, 0), (159, .ifCond .ne 5, 3, 164)], [(162, .iconst 0, 1, 0), (163, .ireturn, 1, 0), (164, .iinc 2 1, 3, 0), (167, .goto (-137), 3, 30), (170, .iconst 0, 1, 0), (171, .ireturn, 1, 0)]]
/-- X8_readText -/
def rw_103 : am_Row := (103, (8, 6, some (.boolean), 2, 1, 0, 0), ⟨"IslandCall$YearsReader", "readText", "(I)Z"⟩, prog_10_method_2_code, cd_103)
def cd_104 : List (List (Nat × Instr × Nat × Nat)) := [[(0, .aload_n 0, 1, 0), (1, .getfield 42, 3, 0), (4, .ifCond .le 15, 3, 19), (7, .aload_n 0, 1, 0), (8, .getfield 19, 3, 0), (11, .bipush 20, 2, 0), (13, .invokevirtual 79, 3, 0)], [(16, .goto 4, 3, 20), (19, .iconst (-1), 1, 0), (20, .istore_n 1, 1, 0), (21, .iload_n 1, 1, 0), (22, .iconst (-1), 1, 0), (23, .if_icmp .ne 12, 3, 35), (26, .aload_n 0, 1, 0), (27, .getfield 15, 3, 0), (30, .iconst 2, 1, 0), (31, .invokevirtual 53, 3, 0)], [(34, .ireturn, 1, 0), (35, .aload_n 0, 1, 0), (36, .dup, 1, 0), (37, .getfield 42, 3, 0), (40, .iconst 1, 1, 0), (41, .isub, 1, 0), (42, .putfield 42, 3, 0), (45, .aload_n 0, 1, 0), (46, .getfield 19, 3, 0)], [(49, .getfield 83, 3, 0), (52, .iload_n 1, 1, 0), (53, .aload_n 0, 1, 0), (54, .getfield 11, 3, 0), (57, .aload_n 0, 1, 0), (58, .getfield 42, 3, 0), (61, .iaload, 1, 0), (62, .iastore, 1, 0), (63, .aload_n 0, 1, 0)], [(64, .getfield 19, 3, 0), (67, .getfield 83, 3, 0), (70, .aload_n 0, 1, 0), (71, .getfield 11, 3, 0), (74, .aload_n 0, 1, 0), (75, .getfield 42, 3, 0), (78, .iaload, 1, 0), (79, .iload_n 1, 1, 0)], [(80, .iastore, 1, 0), (81, .iconst 1, 1, 0), (82, .ireturn, 1, 0)]]
/-- X8_closeBlock -/
def rw_104 : am_Row := (104, (8, 2, some (.boolean), 1, 1, 0, 0), ⟨"IslandCall$YearsReader", "closeBlock", "()Z"⟩, prog_10_method_3_code, cd_104)
def cd_105 : List (List (Nat × Instr × Nat × Nat)) := [[(0, .iload_n 1, 1, 0), (1, .bipush 11, 2, 0), (3, .if_icmp .lt 13, 3, 16), (6, .iload_n 1, 1, 0), (7, .bipush 18, 2, 0), (9, .if_icmp .eq 7, 3, 16), (12, .iconst 1, 1, 0), (13, .goto 4, 3, 17)], [(16, .iconst 0, 1, 0), (17, .istore_n 2, 1, 0), (18, .iload_n 2, 1, 0), (19, .ifCond .ne 12, 3, 31), (22, .aload_n 0, 1, 0), (23, .getfield 15, 3, 0), (26, .iconst 2, 1, 0), (27, .invokevirtual 53, 3, 0), (30, .ireturn, 1, 0), (31, .aload_n 0, 1, 0)], [(32, .getfield 19, 3, 0), (35, .getfield 86, 3, 0), (38, .bipush 30, 2, 0), (40, .if_icmp .ge 14, 3, 54), (43, .aload_n 0, 1, 0), (44, .getfield 19, 3, 0), (47, .iload_n 1, 1, 0)], [(48, .invokevirtual 79, 3, 0), (51, .goto 4, 3, 55), (54, .iconst (-1), 1, 0), (55, .istore_n 3, 1, 0), (56, .iload_n 3, 1, 0), (57, .iconst (-1), 1, 0), (58, .if_icmp .ne 13, 3, 71), (61, .aload_n 0, 1, 0), (62, .getfield 15, 3, 0)], [(65, .bipush 6, 2, 0), (67, .invokevirtual 53, 3, 0), (70, .ireturn, 1, 0), (71, .aload_n 0, 1, 0), (72, .getfield 19, 3, 0), (75, .dup, 1, 0), (76, .getfield 86, 3, 0), (79, .iconst 1, 1, 0)], [(80, .iadd, 1, 0), (81, .putfield 86, 3, 0), (84, .iload_n 1, 1, 0), (85, .bipush 17, 2, 0), (87, .if_icmp .eq 9, 3, 96), (90, .iload_n 1, 1, 0), (91, .bipush 19, 2, 0), (93, .if_icmp .ne 41, 3, 134)], [(96, .aload_n 0, 1, 0), (97, .getfield 42, 3, 0), (100, .iconst 3, 1, 0), (101, .if_icmp .lt 13, 3, 114), (104, .aload_n 0, 1, 0), (105, .getfield 15, 3, 0), (108, .bipush 7, 2, 0), (110, .invokevirtual 53, 3, 0)], [(113, .ireturn, 1, 0), (114, .aload_n 0, 1, 0), (115, .getfield 11, 3, 0), (118, .aload_n 0, 1, 0), (119, .getfield 42, 3, 0), (122, .iload_n 3, 1, 0), (123, .iastore, 1, 0), (124, .aload_n 0, 1, 0), (125, .dup, 1, 0), (126, .getfield 42, 3, 0)], [(129, .iconst 1, 1, 0), (130, .iadd, 1, 0), (131, .putfield 42, 3, 0), (134, .iconst 1, 1, 0), (135, .ireturn, 1, 0)]]
/-- X8_addStep -/
def rw_105 : am_Row := (105, (8, 4, some (.boolean), 2, 1, 0, 0), ⟨"IslandCall$YearsReader", "addStep", "(I)Z"⟩, prog_10_method_4_code, cd_105)
def cd_106 : List (List (Nat × Instr × Nat × Nat)) := [[(0, .iload_n 1, 1, 0), (1, .tableswitch 93 12 19 #[47, 47, 53, 59, 93, 93, 93, 84], 47, 0)], [], [], [(48, .aload_n 0, 1, 0), (49, .iload_n 2, 1, 0), (50, .invokevirtual 89, 3, 0), (53, .ireturn, 1, 0), (54, .aload_n 0, 1, 0), (55, .iload_n 2, 1, 0), (56, .invokevirtual 92, 3, 0), (59, .ireturn, 1, 0), (60, .aload_n 0, 1, 0), (61, .iload_n 2, 1, 0), (62, .invokevirtual 92, 3, 0)], [(65, .ifCond .eq 18, 3, 83), (68, .aload_n 0, 1, 0), (69, .iload_n 2, 1, 0), (70, .iconst 0, 1, 0), (71, .bipush 9, 2, 0), (73, .invokevirtual 95, 3, 0), (76, .ifCond .eq 7, 3, 83), (79, .iconst 1, 1, 0)], [(80, .goto 4, 3, 84), (83, .iconst 0, 1, 0), (84, .ireturn, 1, 0), (85, .aload_n 0, 1, 0), (86, .iload_n 2, 1, 0), (87, .iconst 1, 1, 0), (88, .bipush 99, 2, 0), (90, .invokevirtual 95, 3, 0), (93, .ireturn, 1, 0), (94, .iconst 1, 1, 0), (95, .ireturn, 1, 0)]]
/-- X8_readDetails -/
def rw_106 : am_Row := (106, (8, 3, some (.boolean), 3, 1, 0, 0), ⟨"IslandCall$YearsReader", "readDetails", "(II)Z"⟩, prog_10_method_5_code, cd_106)
def cd_107 : List (List (Nat × Instr × Nat × Nat)) := [[(0, .aload_n 0, 1, 0), (1, .getfield 15, 3, 0), (4, .invokevirtual 46, 3, 0), (7, .ifCond .ne 5, 3, 12), (10, .iconst 0, 1, 0), (11, .ireturn, 1, 0), (12, .aload_n 0, 1, 0), (13, .getfield 19, 3, 0)], [(16, .getfield 99, 3, 0), (19, .iload_n 1, 1, 0), (20, .aload_n 0, 1, 0), (21, .getfield 15, 3, 0), (24, .getfield 57, 3, 0), (27, .iastore, 1, 0), (28, .aload_n 0, 1, 0), (29, .getfield 15, 3, 0)], [(32, .getfield 57, 3, 0), (35, .lookupswitch 78 #[(7, 45), (8, 33), (18, 39)], 33, 0)], [], [(68, .aload_n 0, 1, 0), (69, .iload_n 1, 1, 0), (70, .invokevirtual 92, 3, 0), (73, .ireturn, 1, 0), (74, .aload_n 0, 1, 0), (75, .iload_n 1, 1, 0), (76, .invokevirtual 89, 3, 0), (79, .ireturn, 1, 0)], [(80, .aload_n 0, 1, 0), (81, .iload_n 1, 1, 0), (82, .invokevirtual 92, 3, 0), (85, .ifCond .eq 26, 3, 111), (88, .aload_n 0, 1, 0), (89, .iload_n 1, 1, 0), (90, .invokevirtual 102, 3, 0), (93, .ifCond .eq 18, 3, 111)], [(96, .aload_n 0, 1, 0), (97, .iload_n 1, 1, 0), (98, .iconst 0, 1, 0), (99, .bipush 9, 2, 0), (101, .invokevirtual 95, 3, 0), (104, .ifCond .eq 7, 3, 111), (107, .iconst 1, 1, 0), (108, .goto 4, 3, 112), (111, .iconst 0, 1, 0)], [(112, .ireturn, 1, 0), (113, .aload_n 0, 1, 0), (114, .getfield 15, 3, 0), (117, .iconst 2, 1, 0), (118, .invokevirtual 53, 3, 0), (121, .ireturn, 1, 0)]]
/-- X8_readTest -/
def rw_107 : am_Row := (107, (8, 2, some (.boolean), 2, 1, 0, 0), ⟨"IslandCall$YearsReader", "readTest", "(I)Z"⟩, prog_10_method_6_code, cd_107)
def cd_108 : List (List (Nat × Instr × Nat × Nat)) := [[(0, .aload_n 0, 1, 0), (1, .getfield 15, 3, 0), (4, .invokevirtual 105, 3, 0), (7, .ifCond .ne 5, 3, 12), (10, .iconst 0, 1, 0), (11, .ireturn, 1, 0), (12, .aload_n 0, 1, 0), (13, .getfield 23, 3, 0)], [(16, .aload_n 0, 1, 0), (17, .getfield 15, 3, 0), (20, .getfield 108, 3, 0), (23, .invokevirtual 112, 3, 0), (26, .istore_n 2, 1, 0), (27, .aload_n 0, 1, 0), (28, .getfield 19, 3, 0), (31, .getfield 118, 3, 0)], [(34, .iload_n 1, 1, 0), (35, .iload_n 2, 1, 0), (36, .iastore, 1, 0), (37, .iload_n 2, 1, 0), (38, .iconst (-1), 1, 0), (39, .if_icmp .ne 14, 3, 53), (42, .aload_n 0, 1, 0), (43, .getfield 15, 3, 0), (46, .iconst 3, 1, 0), (47, .invokevirtual 53, 3, 0)], [(50, .ifCond .eq 7, 3, 57), (53, .iconst 1, 1, 0), (54, .goto 4, 3, 58), (57, .iconst 0, 1, 0), (58, .ireturn, 1, 0)]]
/-- X8_readOmen -/
def rw_108 : am_Row := (108, (8, 3, some (.boolean), 2, 1, 0, 0), ⟨"IslandCall$YearsReader", "readOmen", "(I)Z"⟩, prog_10_method_7_code, cd_108)
def cd_109 : List (List (Nat × Instr × Nat × Nat)) := [[(0, .aload_n 0, 1, 0), (1, .getfield 15, 3, 0), (4, .invokevirtual 105, 3, 0), (7, .ifCond .ne 5, 3, 12), (10, .iconst 0, 1, 0), (11, .ireturn, 1, 0), (12, .aload_n 0, 1, 0), (13, .getfield 23, 3, 0)], [(16, .aload_n 0, 1, 0), (17, .getfield 15, 3, 0), (20, .getfield 108, 3, 0), (23, .invokevirtual 121, 3, 0), (26, .istore_n 2, 1, 0), (27, .aload_n 0, 1, 0), (28, .getfield 19, 3, 0), (31, .getfield 118, 3, 0)], [(34, .iload_n 1, 1, 0), (35, .iload_n 2, 1, 0), (36, .iastore, 1, 0), (37, .iload_n 2, 1, 0), (38, .iconst (-1), 1, 0), (39, .if_icmp .ne 14, 3, 53), (42, .aload_n 0, 1, 0), (43, .getfield 15, 3, 0), (46, .iconst 3, 1, 0), (47, .invokevirtual 53, 3, 0)], [(50, .ifCond .eq 7, 3, 57), (53, .iconst 1, 1, 0), (54, .goto 4, 3, 58), (57, .iconst 0, 1, 0), (58, .ireturn, 1, 0)]]
/-- X8_readPerson -/
def rw_109 : am_Row := (109, (8, 3, some (.boolean), 2, 1, 0, 0), ⟨"IslandCall$YearsReader", "readPerson", "(I)Z"⟩, prog_10_method_8_code, cd_109)
def cd_110 : List (List (Nat × Instr × Nat × Nat)) := [[(0, .aload_n 0, 1, 0), (1, .getfield 15, 3, 0), (4, .invokevirtual 46, 3, 0), (7, .ifCond .ne 5, 3, 12), (10, .iconst 0, 1, 0), (11, .ireturn, 1, 0), (12, .aload_n 0, 1, 0), (13, .getfield 19, 3, 0)], [(16, .getfield 124, 3, 0), (19, .iload_n 1, 1, 0), (20, .aload_n 0, 1, 0), (21, .getfield 15, 3, 0), (24, .getfield 127, 3, 0), (27, .iastore, 1, 0), (28, .aload_n 0, 1, 0), (29, .getfield 15, 3, 0)], [(32, .invokevirtual 130, 3, 0), (35, .ifCond .ne 14, 3, 49), (38, .aload_n 0, 1, 0), (39, .getfield 15, 3, 0), (42, .iconst 2, 1, 0), (43, .invokevirtual 53, 3, 0), (46, .ifCond .eq 7, 3, 53)], [(49, .iconst 1, 1, 0), (50, .goto 4, 3, 54), (53, .iconst 0, 1, 0), (54, .ireturn, 1, 0)]]
/-- X8_readCompare -/
def rw_110 : am_Row := (110, (8, 2, some (.boolean), 2, 1, 0, 0), ⟨"IslandCall$YearsReader", "readCompare", "(I)Z"⟩, prog_10_method_9_code, cd_110)
def cd_111 : List (List (Nat × Instr × Nat × Nat)) := [[(0, .aload_n 0, 1, 0), (1, .getfield 15, 3, 0), (4, .iload_n 2, 1, 0), (5, .iload_n 3, 1, 0), (6, .invokevirtual 133, 3, 0), (9, .ifCond .ne 5, 3, 14), (12, .iconst 0, 1, 0), (13, .ireturn, 1, 0), (14, .aload_n 0, 1, 0), (15, .getfield 19, 3, 0)], [(18, .getfield 136, 3, 0), (21, .iload_n 1, 1, 0), (22, .aload_n 0, 1, 0), (23, .getfield 15, 3, 0), (26, .getfield 127, 3, 0), (29, .iastore, 1, 0), (30, .iconst 1, 1, 0), (31, .ireturn, 1, 0)]]
/-- X8_readNumber -/
def rw_111 : am_Row := (111, (8, 4, some (.boolean), 4, 1, 0, 0), ⟨"IslandCall$YearsReader", "readNumber", "(III)Z"⟩, prog_10_method_10_code, cd_111)
def cd_112 : List (List (Nat × Instr × Nat × Nat)) := [[(0, .aload_n 0, 1, 0), (1, .invokespecial 1, 3, 0), (4, .aload_n 0, 1, 0), (5, .sipush 900, 3, 0), (8, .newarray .int, 2, 0), (10, .putfield 9, 3, 0), (13, .aload_n 0, 1, 0), (14, .new 13, 3, 0)], [(17, .dup, 1, 0), (18, .invokespecial 15, 3, 0), (21, .putfield 16, 3, 0), (24, .aload_n 0, 1, 0), (25, .new 20, 3, 0), (28, .dup, 1, 0), (29, .invokespecial 22, 3, 0)], [(32, .putfield 23, 3, 0), (35, .aload_n 0, 1, 0), (36, .new 27, 3, 0), (39, .dup, 1, 0), (40, .invokespecial 29, 3, 0), (43, .putfield 30, 3, 0), (46, .aload_n 0, 1, 0), (47, .new 34, 3, 0)], [(50, .dup, 1, 0), (51, .invokespecial 36, 3, 0), (54, .putfield 37, 3, 0), (57, .aload_n 0, 1, 0), (58, .new 27, 3, 0), (61, .dup, 1, 0), (62, .invokespecial 29, 3, 0)], [(65, .putfield 41, 3, 0), (68, .aload_n 0, 1, 0), (69, .new 34, 3, 0), (72, .dup, 1, 0), (73, .invokespecial 36, 3, 0), (76, .putfield 44, 3, 0), (79, .aload_n 0, 1, 0)], [(80, .iconst 3, 1, 0), (81, .anewarray 27, 3, 0), (84, .putfield 47, 3, 0), (87, .aload_n 0, 1, 0), (88, .iconst 3, 1, 0), (89, .anewarray 34, 3, 0), (92, .putfield 51, 3, 0), (95, .aload_n 0, 1, 0)], [(96, .new 55, 3, 0), (99, .dup, 1, 0), (100, .aload_n 0, 1, 0), (101, .getfield 9, 3, 0), (104, .invokespecial 57, 3, 0), (107, .putfield 60, 3, 0), (110, .aload_n 0, 1, 0), (111, .new 64, 3, 0)], [(114, .dup, 1, 0), (115, .aload_n 0, 1, 0), (116, .getfield 60, 3, 0), (119, .aload_n 0, 1, 0), (120, .getfield 41, 3, 0), (123, .invokespecial 66, 3, 0), (126, .putfield 69, 3, 0)], [(129, .aload_n 0, 1, 0), (130, .new 73, 3, 0), (133, .dup, 1, 0), (134, .aload_n 0, 1, 0), (135, .getfield 60, 3, 0), (138, .aload_n 0, 1, 0), (139, .getfield 44, 3, 0), (142, .aload_n 0, 1, 0), (143, .getfield 30, 3, 0)], [(146, .invokespecial 75, 3, 0), (149, .putfield 78, 3, 0), (152, .aload_n 0, 1, 0), (153, .new 82, 3, 0), (156, .dup, 1, 0), (157, .invokespecial 84, 3, 0)], [(160, .putfield 85, 3, 0), (163, .aload_n 0, 1, 0), (164, .new 82, 3, 0), (167, .dup, 1, 0), (168, .invokespecial 84, 3, 0), (171, .putfield 89, 3, 0), (174, .aload_n 0, 1, 0), (175, .new 92, 3, 0)], [(178, .dup, 1, 0), (179, .aload_n 0, 1, 0), (180, .getfield 30, 3, 0), (183, .invokespecial 94, 3, 0), (186, .putfield 97, 3, 0), (189, .iconst 0, 1, 0), (190, .istore_n 1, 1, 0), (191, .iload_n 1, 1, 0)], [(192, .iconst 3, 1, 0), (193, .if_icmp .ge 35, 3, 228), (196, .aload_n 0, 1, 0), (197, .getfield 47, 3, 0), (200, .iload_n 1, 1, 0), (201, .new 27, 3, 0), (204, .dup, 1, 0), (205, .invokespecial 29, 3, 0)], [(208, .aastore, 1, 0), (209, .aload_n 0, 1, 0), (210, .getfield 51, 3, 0), (213, .iload_n 1, 1, 0), (214, .new 34, 3, 0), (217, .dup, 1, 0), (218, .invokespecial 36, 3, 0), (221, .aastore, 1, 0), (222, .iinc 1 1, 3, 0)], [(225, .goto (-34), 3, 191), (228, .return_, 1, 0)]]
/-- X9_init -/
def rw_112 : am_Row := (112, (9, 2, none, 1, 2, 105, 3706), ⟨"IslandCall", "<init>", "()V"⟩, prog_1_method_1_code, cd_112)
def cd_113 : List (List (Nat × Instr × Nat × Nat)) := [[(0, .aload_n 0, 1, 0), (1, .getfield 101, 3, 0), (4, .ireturn, 1, 0)]]
/-- X9_status -/
def rw_113 : am_Row := (113, (9, 1, some (.int), 1, 1, 0, 0), ⟨"IslandCall", "status", "()I"⟩, prog_1_method_2_code, cd_113)
def cd_114 : List (List (Nat × Instr × Nat × Nat)) := [[(0, .aload_n 0, 1, 0), (1, .getfield 23, 3, 0), (4, .getfield 105, 3, 0), (7, .lreturn, 1, 0)]]
/-- X9_top -/
def rw_114 : am_Row := (114, (9, 1, some (.long), 1, 1, 0, 0), ⟨"IslandCall", "top", "()J"⟩, prog_1_method_3_code, cd_114)
def cd_115 : List (List (Nat × Instr × Nat × Nat)) := [[(0, .aload_n 0, 1, 0), (1, .getfield 23, 3, 0), (4, .getfield 109, 3, 0), (7, .lreturn, 1, 0)]]
/-- X9_bottom -/
def rw_115 : am_Row := (115, (9, 1, some (.long), 1, 1, 0, 0), ⟨"IslandCall", "bottom", "()J"⟩, prog_1_method_4_code, cd_115)
def cd_116 : List (List (Nat × Instr × Nat × Nat)) := [[(0, .aload_n 0, 1, 0), (1, .iconst 0, 1, 0), (2, .putfield 101, 3, 0), (5, .iload_n 1, 1, 0), (6, .ireturn, 1, 0)]]
/-- X9_answer -/
def rw_116 : am_Row := (116, (9, 2, some (.int), 2, 1, 0, 0), ⟨"IslandCall", "answer", "(I)I"⟩, prog_1_method_5_code, cd_116)
def cd_117 : List (List (Nat × Instr × Nat × Nat)) := [[(0, .aload_n 0, 1, 0), (1, .iload_n 1, 1, 0), (2, .putfield 101, 3, 0), (5, .iconst (-1), 1, 0), (6, .ireturn, 1, 0)]]
/-- X9_refuse -/
def rw_117 : am_Row := (117, (9, 2, some (.int), 2, 1, 0, 0), ⟨"IslandCall", "refuse", "(I)I"⟩, prog_1_method_6_code, cd_117)
def cd_118 : List (List (Nat × Instr × Nat × Nat)) := [[(0, .aload_n 0, 1, 0), (1, .iload_n 1, 1, 0), (2, .putfield 101, 3, 0), (5, .iload_n 1, 1, 0), (6, .ifCond .ne 7, 3, 13), (9, .iconst 1, 1, 0), (10, .goto 4, 3, 14), (13, .iconst 0, 1, 0), (14, .ireturn, 1, 0)]]
/-- X9_grant -/
def rw_118 : am_Row := (118, (9, 2, some (.boolean), 2, 1, 0, 0), ⟨"IslandCall", "grant", "(I)Z"⟩, prog_1_method_7_code, cd_118)
def cd_119 : List (List (Nat × Instr × Nat × Nat)) := [[(0, .iload_n 0, 1, 0), (1, .iload_n 1, 1, 0), (2, .if_icmp .lt 12, 3, 14), (5, .iload_n 0, 1, 0), (6, .iload_n 2, 1, 0), (7, .if_icmp .gt 7, 3, 14), (10, .iconst 1, 1, 0), (11, .goto 4, 3, 15), (14, .iconst 0, 1, 0), (15, .ireturn, 1, 0)]]
/-- X9_isWithin -/
def rw_119 : am_Row := (119, (9, 3, some (.boolean), 3, 0, 0, 0), ⟨"IslandCall", "isWithin", "(III)Z"⟩, prog_1_method_8_code, cd_119)
def cd_120 : List (List (Nat × Instr × Nat × Nat)) := [[(0, .aload_n 0, 1, 0), (1, .getfield 16, 3, 0), (4, .iload_n 1, 1, 0), (5, .invokevirtual 112, 3, 0), (8, .ifCond .eq 22, 3, 30), (11, .iload_n 2, 1, 0), (12, .iconst 0, 1, 0), (13, .iconst 3, 1, 0), (14, .invokestatic 116, 3, 0)], [(17, .ifCond .eq 13, 3, 30), (20, .iload_n 3, 1, 0), (21, .iconst 0, 1, 0), (22, .bipush 60, 2, 0), (24, .invokestatic 116, 3, 0), (27, .ifCond .ne 9, 3, 36), (30, .aload_n 0, 1, 0), (31, .iconst 1, 1, 0)], [(32, .invokevirtual 120, 3, 0), (35, .ireturn, 1, 0), (36, .aload_n 0, 1, 0), (37, .getfield 16, 3, 0), (40, .iload_n 1, 1, 0), (41, .iload_n 2, 1, 0), (42, .iload_n 3, 1, 0), (43, .invokevirtual 123, 3, 0), (46, .aload_n 0, 1, 0), (47, .iconst 0, 1, 0)], [(48, .invokevirtual 120, 3, 0), (51, .ireturn, 1, 0)]]
/-- X9_tray -/
def rw_120 : am_Row := (120, (9, 4, some (.boolean), 4, 1, 0, 0), ⟨"IslandCall", "tray", "(III)Z"⟩, prog_1_method_9_code, cd_120)
def cd_121 : List (List (Nat × Instr × Nat × Nat)) := [[(0, .aload_n 0, 1, 0), (1, .getfield 16, 3, 0), (4, .iload_n 1, 1, 0), (5, .iload_n 2, 1, 0), (6, .invokevirtual 127, 3, 0), (9, .istore 5, 2, 0), (11, .iload 5, 2, 0), (13, .ifCond .ne 13, 3, 26)], [(16, .aload_n 0, 1, 0), (17, .getfield 16, 3, 0), (20, .iload_n 1, 1, 0), (21, .iload_n 2, 1, 0), (22, .lload_n 3, 1, 0), (23, .invokevirtual 131, 3, 0), (26, .aload_n 0, 1, 0), (27, .iload 5, 2, 0), (29, .invokevirtual 120, 3, 0)], [(32, .ireturn, 1, 0)]]
/-- X9_write -/
def rw_121 : am_Row := (121, (9, 6, some (.boolean), 4, 1, 0, 0), ⟨"IslandCall", "write", "(IIJ)Z"⟩, prog_1_method_10_code, cd_121)
def cd_122 : List (List (Nat × Instr × Nat × Nat)) := [[(0, .aload_n 0, 1, 0), (1, .getfield 16, 3, 0), (4, .iload_n 1, 1, 0), (5, .iload_n 2, 1, 0), (6, .invokevirtual 127, 3, 0), (9, .istore_n 3, 1, 0), (10, .aload_n 0, 1, 0), (11, .iload_n 3, 1, 0), (12, .putfield 101, 3, 0), (15, .iload_n 3, 1, 0)], [(16, .ifCond .ne 15, 3, 31), (19, .aload_n 0, 1, 0), (20, .getfield 16, 3, 0), (23, .iload_n 1, 1, 0), (24, .iload_n 2, 1, 0), (25, .invokevirtual 135, 3, 0), (28, .goto 6, 3, 34), (31, .ldc2_w 139, 3, 0)], [(34, .lreturn, 1, 0)]]
/-- X9_read -/
def rw_122 : am_Row := (122, (9, 4, some (.long), 3, 1, 0, 0), ⟨"IslandCall", "read", "(II)J"⟩, prog_1_method_11_code, cd_122)
def cd_123 : List (List (Nat × Instr × Nat × Nat)) := [[(0, .aload_n 0, 1, 0), (1, .getfield 16, 3, 0), (4, .iload_n 1, 1, 0), (5, .iload_n 2, 1, 0), (6, .iload_n 3, 1, 0), (7, .iload 4, 2, 0), (9, .iload 5, 2, 0), (11, .invokevirtual 141, 3, 0), (14, .istore 6, 2, 0)], [(16, .iload 6, 2, 0), (18, .ifCond .ne 17, 3, 35), (21, .aload_n 0, 1, 0), (22, .getfield 16, 3, 0), (25, .iload_n 1, 1, 0), (26, .iload_n 2, 1, 0), (27, .iload_n 3, 1, 0), (28, .iload 4, 2, 0), (30, .iload 5, 2, 0)], [(32, .invokevirtual 145, 3, 0), (35, .aload_n 0, 1, 0), (36, .iload 6, 2, 0), (38, .invokevirtual 120, 3, 0), (41, .ireturn, 1, 0)]]
/-- X9_pour -/
def rw_123 : am_Row := (123, (9, 7, some (.boolean), 6, 1, 0, 0), ⟨"IslandCall", "pour", "(IIIII)Z"⟩, prog_1_method_12_code, cd_123)
def cd_124 : List (List (Nat × Instr × Nat × Nat)) := [[(0, .aload_n 0, 1, 0), (1, .getfield 149, 3, 0), (4, .bipush 20, 2, 0), (6, .iadd, 1, 0), (7, .sipush 900, 3, 0), (10, .if_icmp .le 5, 3, 15), (13, .iconst (-1), 1, 0), (14, .ireturn, 1, 0), (15, .aload_n 0, 1, 0)], [(16, .iload_n 1, 1, 0), (17, .invokevirtual 152, 3, 0), (20, .aload_n 0, 1, 0), (21, .iload_n 2, 1, 0), (22, .invokevirtual 152, 3, 0), (25, .aload_n 0, 1, 0), (26, .iload_n 3, 1, 0), (27, .invokevirtual 152, 3, 0), (30, .aload_n 0, 1, 0), (31, .iload 4, 2, 0)], [(33, .invokevirtual 152, 3, 0), (36, .aload_n 0, 1, 0), (37, .iload 5, 2, 0), (39, .invokevirtual 152, 3, 0), (42, .aload_n 0, 1, 0), (43, .getfield 149, 3, 0), (46, .ireturn, 1, 0)]]
/-- X9_feed -/
def rw_124 : am_Row := (124, (9, 6, some (.int), 6, 1, 0, 0), ⟨"IslandCall", "feed", "(IIIII)I"⟩, prog_1_method_13_code, cd_124)
def cd_125 : List (List (Nat × Instr × Nat × Nat)) := [[(0, .bipush 24, 2, 0), (2, .istore_n 2, 1, 0), (3, .iload_n 2, 1, 0), (4, .ifCond .lt 35, 3, 39), (7, .aload_n 0, 1, 0), (8, .getfield 9, 3, 0), (11, .aload_n 0, 1, 0), (12, .getfield 149, 3, 0), (15, .iload_n 1, 1, 0)], [(16, .iload_n 2, 1, 0), (17, .iushr, 1, 0), (18, .sipush 255, 3, 0), (21, .iand, 1, 0), (22, .iastore, 1, 0), (23, .aload_n 0, 1, 0), (24, .dup, 1, 0), (25, .getfield 149, 3, 0), (28, .iconst 1, 1, 0), (29, .iadd, 1, 0), (30, .putfield 149, 3, 0)], [(33, .iinc 2 (-8), 3, 0), (36, .goto (-33), 3, 3), (39, .return_, 1, 0)]]
/-- X9_feedFour -/
def rw_125 : am_Row := (125, (9, 3, none, 2, 1, 0, 0), ⟨"IslandCall", "feedFour", "(I)V"⟩, prog_1_method_14_code, cd_125)
def cd_126 : List (List (Nat × Instr × Nat × Nat)) := [[(0, .iload_n 1, 1, 0), (1, .iconst 0, 1, 0), (2, .aload_n 0, 1, 0), (3, .getfield 149, 3, 0), (6, .invokestatic 116, 3, 0), (9, .ifCond .ne 9, 3, 18), (12, .aload_n 0, 1, 0), (13, .iconst 1, 1, 0), (14, .invokevirtual 156, 3, 0)], [(17, .ireturn, 1, 0), (18, .aload_n 0, 1, 0), (19, .getfield 69, 3, 0), (22, .iload_n 1, 1, 0), (23, .invokevirtual 160, 3, 0), (26, .istore_n 2, 1, 0), (27, .aload_n 0, 1, 0), (28, .iconst 0, 1, 0), (29, .putfield 149, 3, 0)], [(32, .iload_n 2, 1, 0), (33, .ifCond .ne 10, 3, 43), (36, .aload_n 0, 1, 0), (37, .bipush 9, 2, 0), (39, .invokevirtual 156, 3, 0), (42, .ireturn, 1, 0), (43, .aload_n 0, 1, 0), (44, .getfield 30, 3, 0), (47, .aload_n 0, 1, 0)], [(48, .getfield 41, 3, 0), (51, .invokevirtual 163, 3, 0), (54, .aload_n 0, 1, 0), (55, .getfield 37, 3, 0), (58, .invokevirtual 166, 3, 0), (61, .aload_n 0, 1, 0), (62, .aload_n 0, 1, 0), (63, .getfield 30, 3, 0)], [(66, .getfield 169, 3, 0), (69, .invokevirtual 172, 3, 0), (72, .ireturn, 1, 0)]]
/-- X9_boat -/
def rw_126 : am_Row := (126, (9, 3, some (.int), 2, 1, 0, 0), ⟨"IslandCall", "boat", "(I)I"⟩, prog_1_method_15_code, cd_126)
def cd_127 : List (List (Nat × Instr × Nat × Nat)) := [[(0, .iload_n 1, 1, 0), (1, .iconst 0, 1, 0), (2, .aload_n 0, 1, 0), (3, .getfield 149, 3, 0), (6, .invokestatic 116, 3, 0), (9, .ifCond .eq 10, 3, 19), (12, .iload_n 1, 1, 0), (13, .sipush 300, 3, 0)], [(16, .if_icmp .le 9, 3, 25), (19, .aload_n 0, 1, 0), (20, .iconst 1, 1, 0), (21, .invokevirtual 156, 3, 0), (24, .ireturn, 1, 0), (25, .aload_n 0, 1, 0), (26, .getfield 78, 3, 0), (29, .iload_n 1, 1, 0), (30, .invokevirtual 175, 3, 0)], [(33, .istore_n 2, 1, 0), (34, .aload_n 0, 1, 0), (35, .iconst 0, 1, 0), (36, .putfield 149, 3, 0), (39, .iload_n 2, 1, 0), (40, .ifCond .ne 10, 3, 50), (43, .aload_n 0, 1, 0), (44, .bipush 9, 2, 0), (46, .invokevirtual 156, 3, 0)], [(49, .ireturn, 1, 0), (50, .aload_n 0, 1, 0), (51, .getfield 37, 3, 0), (54, .aload_n 0, 1, 0), (55, .getfield 44, 3, 0), (58, .invokevirtual 176, 3, 0), (61, .aload_n 0, 1, 0), (62, .aload_n 0, 1, 0), (63, .getfield 37, 3, 0)], [(66, .getfield 179, 3, 0), (69, .invokevirtual 172, 3, 0), (72, .ireturn, 1, 0)]]
/-- X9_years -/
def rw_127 : am_Row := (127, (9, 3, some (.int), 2, 1, 0, 0), ⟨"IslandCall", "years", "(I)I"⟩, prog_1_method_16_code, cd_127)
def cd_128 : List (List (Nat × Instr × Nat × Nat)) := [[(0, .iload_n 1, 1, 0), (1, .ifCond .ne 11, 3, 12), (4, .aload_n 0, 1, 0), (5, .getfield 60, 3, 0), (8, .getfield 182, 3, 0), (11, .ireturn, 1, 0), (12, .iload_n 1, 1, 0), (13, .iconst 1, 1, 0), (14, .if_icmp .ne 13, 3, 27)], [(17, .aload_n 0, 1, 0), (18, .getfield 60, 3, 0), (21, .getfield 185, 3, 0), (24, .goto 4, 3, 28), (27, .iconst (-1), 1, 0), (28, .ireturn, 1, 0)]]
/-- X9_fault -/
def rw_128 : am_Row := (128, (9, 2, some (.int), 2, 1, 0, 0), ⟨"IslandCall", "fault", "(I)I"⟩, prog_1_method_17_code, cd_128)
def cd_129 : List (List (Nat × Instr × Nat × Nat)) := [[(0, .iload_n 1, 1, 0), (1, .tableswitch 159 0 8 #[51, 63, 75, 87, 99, 111, 123, 135, 147], 51, 0)], [], [], [(52, .aload_n 0, 1, 0), (53, .aload_n 0, 1, 0), (54, .getfield 30, 3, 0), (57, .getfield 188, 3, 0), (60, .invokevirtual 172, 3, 0), (63, .ireturn, 1, 0)], [(64, .aload_n 0, 1, 0), (65, .aload_n 0, 1, 0), (66, .getfield 30, 3, 0), (69, .getfield 169, 3, 0), (72, .invokevirtual 172, 3, 0), (75, .ireturn, 1, 0), (76, .aload_n 0, 1, 0), (77, .aload_n 0, 1, 0), (78, .getfield 30, 3, 0)], [(81, .getfield 191, 3, 0), (84, .invokevirtual 172, 3, 0), (87, .ireturn, 1, 0), (88, .aload_n 0, 1, 0), (89, .aload_n 0, 1, 0), (90, .getfield 30, 3, 0), (93, .getfield 194, 3, 0)], [(96, .invokevirtual 172, 3, 0), (99, .ireturn, 1, 0), (100, .aload_n 0, 1, 0), (101, .aload_n 0, 1, 0), (102, .getfield 30, 3, 0), (105, .getfield 197, 3, 0), (108, .invokevirtual 172, 3, 0), (111, .ireturn, 1, 0)], [(112, .aload_n 0, 1, 0), (113, .aload_n 0, 1, 0), (114, .getfield 30, 3, 0), (117, .getfield 200, 3, 0), (120, .invokevirtual 172, 3, 0), (123, .ireturn, 1, 0), (124, .aload_n 0, 1, 0), (125, .aload_n 0, 1, 0), (126, .getfield 30, 3, 0)], [(129, .getfield 203, 3, 0), (132, .invokevirtual 172, 3, 0), (135, .ireturn, 1, 0), (136, .aload_n 0, 1, 0), (137, .aload_n 0, 1, 0), (138, .getfield 30, 3, 0), (141, .getfield 206, 3, 0)], [(144, .invokevirtual 172, 3, 0), (147, .ireturn, 1, 0), (148, .aload_n 0, 1, 0), (149, .aload_n 0, 1, 0), (150, .getfield 30, 3, 0), (153, .invokevirtual 209, 3, 0), (156, .invokevirtual 172, 3, 0), (159, .ireturn, 1, 0)], [(160, .aload_n 0, 1, 0), (161, .iconst 1, 1, 0), (162, .invokevirtual 156, 3, 0), (165, .ireturn, 1, 0)]]
/-- X9_told -/
def rw_129 : am_Row := (129, (9, 2, some (.int), 2, 1, 0, 0), ⟨"IslandCall", "told", "(I)I"⟩, prog_1_method_18_code, cd_129)
def cd_130 : List (List (Nat × Instr × Nat × Nat)) := [[(0, .aload_n 0, 1, 0), (1, .getfield 30, 3, 0), (4, .iload_n 1, 1, 0), (5, .invokevirtual 213, 3, 0), (8, .ifCond .ne 9, 3, 17), (11, .aload_n 0, 1, 0), (12, .iconst 1, 1, 0), (13, .invokevirtual 156, 3, 0)], [(16, .ireturn, 1, 0), (17, .iload_n 2, 1, 0), (18, .tableswitch 69 0 2 #[26, 40, 56], 26, 0)], [(44, .aload_n 0, 1, 0), (45, .aload_n 0, 1, 0), (46, .getfield 30, 3, 0)], [(49, .getfield 216, 3, 0), (52, .iload_n 1, 1, 0), (53, .iaload, 1, 0), (54, .invokevirtual 172, 3, 0), (57, .ireturn, 1, 0), (58, .aload_n 0, 1, 0), (59, .aload_n 0, 1, 0), (60, .getfield 30, 3, 0), (63, .getfield 206, 3, 0)], [(66, .iload_n 1, 1, 0), (67, .ishr, 1, 0), (68, .iconst 1, 1, 0), (69, .iand, 1, 0), (70, .invokevirtual 172, 3, 0), (73, .ireturn, 1, 0), (74, .aload_n 0, 1, 0), (75, .aload_n 0, 1, 0), (76, .getfield 30, 3, 0), (79, .iload_n 1, 1, 0)], [(80, .invokevirtual 219, 3, 0), (83, .invokevirtual 172, 3, 0), (86, .ireturn, 1, 0), (87, .aload_n 0, 1, 0), (88, .iconst 1, 1, 0), (89, .invokevirtual 156, 3, 0), (92, .ireturn, 1, 0)]]
/-- X9_omen -/
def rw_130 : am_Row := (130, (9, 3, some (.int), 3, 1, 0, 0), ⟨"IslandCall", "omen", "(II)I"⟩, prog_1_method_19_code, cd_130)
def cd_131 : List (List (Nat × Instr × Nat × Nat)) := [[(0, .aload_n 0, 1, 0), (1, .getfield 30, 3, 0), (4, .iload_n 1, 1, 0), (5, .invokevirtual 222, 3, 0), (8, .ifCond .ne 9, 3, 17), (11, .aload_n 0, 1, 0), (12, .iconst 1, 1, 0), (13, .invokevirtual 156, 3, 0)], [(16, .ireturn, 1, 0), (17, .iload_n 2, 1, 0), (18, .tableswitch 147 0 6 #[42, 56, 76, 92, 106, 120, 134], 42, 0)], [], [(60, .aload_n 0, 1, 0), (61, .aload_n 0, 1, 0), (62, .getfield 30, 3, 0)], [(65, .getfield 225, 3, 0), (68, .iload_n 1, 1, 0), (69, .iaload, 1, 0), (70, .invokevirtual 172, 3, 0), (73, .ireturn, 1, 0), (74, .aload_n 0, 1, 0), (75, .aload_n 0, 1, 0), (76, .getfield 30, 3, 0), (79, .iload_n 1, 1, 0)], [(80, .aload_n 0, 1, 0), (81, .getfield 30, 3, 0), (84, .getfield 206, 3, 0), (87, .invokevirtual 228, 3, 0), (90, .invokevirtual 172, 3, 0), (93, .ireturn, 1, 0), (94, .aload_n 0, 1, 0), (95, .aload_n 0, 1, 0)], [(96, .getfield 30, 3, 0), (99, .getfield 203, 3, 0), (102, .iload_n 1, 1, 0), (103, .ishr, 1, 0), (104, .iconst 1, 1, 0), (105, .iand, 1, 0), (106, .invokevirtual 172, 3, 0), (109, .ireturn, 1, 0), (110, .aload_n 0, 1, 0), (111, .aload_n 0, 1, 0)], [(112, .getfield 30, 3, 0), (115, .getfield 231, 3, 0), (118, .iload_n 1, 1, 0), (119, .iaload, 1, 0), (120, .invokevirtual 172, 3, 0), (123, .ireturn, 1, 0), (124, .aload_n 0, 1, 0), (125, .aload_n 0, 1, 0), (126, .getfield 30, 3, 0)], [(129, .getfield 234, 3, 0), (132, .iload_n 1, 1, 0), (133, .iaload, 1, 0), (134, .invokevirtual 172, 3, 0), (137, .ireturn, 1, 0), (138, .aload_n 0, 1, 0), (139, .aload_n 0, 1, 0), (140, .getfield 30, 3, 0), (143, .getfield 237, 3, 0)], [(146, .iload_n 1, 1, 0), (147, .iaload, 1, 0), (148, .invokevirtual 172, 3, 0), (151, .ireturn, 1, 0), (152, .aload_n 0, 1, 0), (153, .aload_n 0, 1, 0), (154, .getfield 30, 3, 0), (157, .iload_n 1, 1, 0), (158, .invokevirtual 240, 3, 0)], [(161, .invokevirtual 172, 3, 0), (164, .ireturn, 1, 0), (165, .aload_n 0, 1, 0), (166, .iconst 1, 1, 0), (167, .invokevirtual 156, 3, 0), (170, .ireturn, 1, 0)]]
/-- X9_person -/
def rw_131 : am_Row := (131, (9, 3, some (.int), 3, 1, 0, 0), ⟨"IslandCall", "person", "(II)I"⟩, prog_1_method_20_code, cd_131)
def cd_132 : List (List (Nat × Instr × Nat × Nat)) := [[(0, .aload_n 0, 1, 0), (1, .getfield 30, 3, 0), (4, .invokevirtual 243, 3, 0), (7, .ifCond .ne 9, 3, 16), (10, .aload_n 0, 1, 0), (11, .iconst 4, 1, 0), (12, .invokevirtual 156, 3, 0), (15, .ireturn, 1, 0)], [(16, .aload_n 0, 1, 0), (17, .aload_n 0, 1, 0), (18, .getfield 30, 3, 0), (21, .invokevirtual 247, 3, 0), (24, .invokevirtual 172, 3, 0), (27, .ireturn, 1, 0)]]
/-- X9_call -/
def rw_132 : am_Row := (132, (9, 1, some (.int), 1, 1, 0, 0), ⟨"IslandCall", "call", "()I"⟩, prog_1_method_21_code, cd_132)
def cd_133 : List (List (Nat × Instr × Nat × Nat)) := [[(0, .aload_n 0, 1, 0), (1, .getfield 30, 3, 0), (4, .iload_n 1, 1, 0), (5, .invokevirtual 213, 3, 0), (8, .ifCond .ne 9, 3, 17), (11, .aload_n 0, 1, 0), (12, .iconst 1, 1, 0), (13, .invokevirtual 120, 3, 0)], [(16, .ireturn, 1, 0), (17, .aload_n 0, 1, 0), (18, .aload_n 0, 1, 0), (19, .getfield 30, 3, 0), (22, .iload_n 1, 1, 0), (23, .iload_n 2, 1, 0), (24, .invokevirtual 250, 3, 0), (27, .ifCond .eq 7, 3, 34), (30, .iconst 0, 1, 0), (31, .goto 5, 3, 36)], [(34, .bipush 7, 2, 0), (36, .invokevirtual 120, 3, 0), (39, .ireturn, 1, 0)]]
/-- X9_show -/
def rw_133 : am_Row := (133, (9, 3, some (.boolean), 3, 1, 0, 0), ⟨"IslandCall", "show", "(IZ)Z"⟩, prog_1_method_22_code, cd_133)
def cd_134 : List (List (Nat × Instr × Nat × Nat)) := [[(0, .aload_n 0, 1, 0), (1, .getfield 30, 3, 0), (4, .iload_n 1, 1, 0), (5, .invokevirtual 222, 3, 0), (8, .ifCond .ne 9, 3, 17), (11, .aload_n 0, 1, 0), (12, .iconst 1, 1, 0), (13, .invokevirtual 156, 3, 0)], [(16, .ireturn, 1, 0), (17, .aload_n 0, 1, 0), (18, .getfield 30, 3, 0), (21, .iload_n 1, 1, 0), (22, .invokevirtual 254, 3, 0), (25, .ifCond .ne 10, 3, 35), (28, .aload_n 0, 1, 0), (29, .bipush 7, 2, 0), (31, .invokevirtual 156, 3, 0)], [(34, .ireturn, 1, 0), (35, .aload_n 0, 1, 0), (36, .aload_n 0, 1, 0), (37, .getfield 30, 3, 0), (40, .getfield 203, 3, 0), (43, .invokestatic 257, 3, 0), (46, .invokevirtual 172, 3, 0)], [(49, .ireturn, 1, 0)]]
/-- X9_board -/
def rw_134 : am_Row := (134, (9, 2, some (.int), 2, 1, 0, 0), ⟨"IslandCall", "board", "(I)I"⟩, prog_1_method_23_code, cd_134)
def cd_135 : List (List (Nat × Instr × Nat × Nat)) := [[(0, .aload_n 0, 1, 0), (1, .getfield 30, 3, 0), (4, .iload_n 1, 1, 0), (5, .invokevirtual 222, 3, 0), (8, .ifCond .eq 13, 3, 21), (11, .iload_n 2, 1, 0), (12, .iconst 0, 1, 0), (13, .bipush 9, 2, 0), (15, .invokestatic 116, 3, 0)], [(18, .ifCond .ne 9, 3, 27), (21, .aload_n 0, 1, 0), (22, .iconst 1, 1, 0), (23, .invokevirtual 120, 3, 0), (26, .ireturn, 1, 0), (27, .aload_n 0, 1, 0), (28, .getfield 30, 3, 0), (31, .getfield 225, 3, 0)], [(34, .iload_n 1, 1, 0), (35, .iload_n 2, 1, 0), (36, .iastore, 1, 0), (37, .aload_n 0, 1, 0), (38, .iconst 0, 1, 0), (39, .invokevirtual 120, 3, 0), (42, .ireturn, 1, 0)]]
/-- X9_sway -/
def rw_135 : am_Row := (135, (9, 3, some (.boolean), 3, 1, 0, 0), ⟨"IslandCall", "sway", "(II)Z"⟩, prog_1_method_24_code, cd_135)
def cd_136 : List (List (Nat × Instr × Nat × Nat)) := [[(0, .aload_n 0, 1, 0), (1, .getfield 30, 3, 0), (4, .iload_n 1, 1, 0), (5, .invokevirtual 222, 3, 0), (8, .ifCond .eq 14, 3, 22), (11, .aload_n 0, 1, 0), (12, .getfield 30, 3, 0), (15, .iload_n 2, 1, 0)], [(16, .invokevirtual 213, 3, 0), (19, .ifCond .ne 9, 3, 28), (22, .aload_n 0, 1, 0), (23, .iconst 1, 1, 0), (24, .invokevirtual 120, 3, 0), (27, .ireturn, 1, 0), (28, .aload_n 0, 1, 0), (29, .getfield 30, 3, 0)], [(32, .getfield 234, 3, 0), (35, .iload_n 1, 1, 0), (36, .iaload, 1, 0), (37, .iconst 1, 1, 0), (38, .iload_n 2, 1, 0), (39, .ishl, 1, 0), (40, .ixor, 1, 0), (41, .istore 4, 2, 0), (43, .iload 4, 2, 0), (45, .iload_n 2, 1, 0), (46, .ishr, 1, 0), (47, .iconst 1, 1, 0)], [(48, .iand, 1, 0), (49, .ifCond .eq 7, 3, 56), (52, .iconst 1, 1, 0), (53, .goto 4, 3, 57), (56, .iconst 0, 1, 0), (57, .istore 5, 2, 0), (59, .iload 5, 2, 0), (61, .iload_n 3, 1, 0), (62, .if_icmp .eq 10, 3, 72)], [(65, .aload_n 0, 1, 0), (66, .bipush 7, 2, 0), (68, .invokevirtual 120, 3, 0), (71, .ireturn, 1, 0), (72, .aload_n 0, 1, 0), (73, .getfield 30, 3, 0), (76, .getfield 234, 3, 0), (79, .iload_n 1, 1, 0)], [(80, .iload 4, 2, 0), (82, .iastore, 1, 0), (83, .aload_n 0, 1, 0), (84, .iconst 0, 1, 0), (85, .invokevirtual 120, 3, 0), (88, .ireturn, 1, 0)]]
/-- X9_excuse -/
def rw_136 : am_Row := (136, (9, 6, some (.boolean), 4, 1, 0, 0), ⟨"IslandCall", "excuse", "(IIZ)Z"⟩, prog_1_method_25_code, cd_136)
def cd_137 : List (List (Nat × Instr × Nat × Nat)) := [[(0, .aload_n 0, 1, 0), (1, .getfield 30, 3, 0), (4, .iload_n 1, 1, 0), (5, .invokevirtual 222, 3, 0), (8, .ifCond .eq 19, 3, 27), (11, .aload_n 0, 1, 0), (12, .getfield 30, 3, 0), (15, .iload_n 2, 1, 0)], [(16, .invokevirtual 222, 3, 0), (19, .ifCond .eq 8, 3, 27), (22, .iload_n 1, 1, 0), (23, .iload_n 2, 1, 0), (24, .if_icmp .ne 9, 3, 33), (27, .aload_n 0, 1, 0), (28, .iconst 1, 1, 0), (29, .invokevirtual 120, 3, 0)], [(32, .ireturn, 1, 0), (33, .aload_n 0, 1, 0), (34, .getfield 30, 3, 0), (37, .getfield 237, 3, 0), (40, .iload_n 1, 1, 0), (41, .iaload, 1, 0), (42, .iconst 1, 1, 0), (43, .iload_n 2, 1, 0), (44, .ishl, 1, 0), (45, .ixor, 1, 0), (46, .istore 4, 2, 0)], [(48, .iload 4, 2, 0), (50, .iload_n 2, 1, 0), (51, .ishr, 1, 0), (52, .iconst 1, 1, 0), (53, .iand, 1, 0), (54, .ifCond .eq 7, 3, 61), (57, .iconst 1, 1, 0), (58, .goto 4, 3, 62), (61, .iconst 0, 1, 0), (62, .istore 5, 2, 0)], [(64, .iload 5, 2, 0), (66, .iload_n 3, 1, 0), (67, .if_icmp .eq 10, 3, 77), (70, .aload_n 0, 1, 0), (71, .bipush 7, 2, 0), (73, .invokevirtual 120, 3, 0), (76, .ireturn, 1, 0), (77, .aload_n 0, 1, 0), (78, .getfield 30, 3, 0)], [(81, .getfield 237, 3, 0), (84, .iload_n 1, 1, 0), (85, .iload 4, 2, 0), (87, .iastore, 1, 0), (88, .aload_n 0, 1, 0), (89, .iconst 0, 1, 0), (90, .invokevirtual 120, 3, 0), (93, .ireturn, 1, 0)]]
/-- X9_see -/
def rw_137 : am_Row := (137, (9, 6, some (.boolean), 4, 1, 0, 0), ⟨"IslandCall", "see", "(IIZ)Z"⟩, prog_1_method_26_code, cd_137)
def cd_138 : List (List (Nat × Instr × Nat × Nat)) := [[(0, .aload_n 0, 1, 0), (1, .getfield 30, 3, 0), (4, .iload_n 1, 1, 0), (5, .invokevirtual 213, 3, 0), (8, .ifCond .eq 12, 3, 20), (11, .iload_n 2, 1, 0), (12, .iconst 1, 1, 0), (13, .iconst 5, 1, 0), (14, .invokestatic 116, 3, 0)], [(17, .ifCond .ne 9, 3, 26), (20, .aload_n 0, 1, 0), (21, .iconst 1, 1, 0), (22, .invokevirtual 120, 3, 0), (25, .ireturn, 1, 0), (26, .aload_n 0, 1, 0), (27, .getfield 30, 3, 0), (30, .getfield 216, 3, 0)], [(33, .iload_n 1, 1, 0), (34, .iload_n 2, 1, 0), (35, .iastore, 1, 0), (36, .aload_n 0, 1, 0), (37, .iconst 0, 1, 0), (38, .invokevirtual 120, 3, 0), (41, .ireturn, 1, 0)]]
/-- X9_paint -/
def rw_138 : am_Row := (138, (9, 3, some (.boolean), 3, 1, 0, 0), ⟨"IslandCall", "paint", "(II)Z"⟩, prog_1_method_27_code, cd_138)
def cd_139 : List (List (Nat × Instr × Nat × Nat)) := [[(0, .iload_n 1, 1, 0), (1, .iconst 0, 1, 0), (2, .bipush 9, 2, 0), (4, .invokestatic 116, 3, 0), (7, .ifCond .ne 9, 3, 16), (10, .aload_n 0, 1, 0), (11, .iconst 1, 1, 0), (12, .invokevirtual 156, 3, 0), (15, .ireturn, 1, 0)], [(16, .aload_n 0, 1, 0), (17, .getfield 30, 3, 0), (20, .getfield 169, 3, 0), (23, .bipush 8, 2, 0), (25, .if_icmp .lt 9, 3, 34), (28, .aload_n 0, 1, 0), (29, .iconst 4, 1, 0), (30, .invokevirtual 156, 3, 0)], [(33, .ireturn, 1, 0), (34, .aload_n 0, 1, 0), (35, .aload_n 0, 1, 0), (36, .getfield 30, 3, 0), (39, .lconst 0, 1, 0), (40, .iload_n 1, 1, 0), (41, .invokevirtual 262, 3, 0), (44, .invokevirtual 172, 3, 0), (47, .ireturn, 1, 0)]]
/-- X9_come -/
def rw_139 : am_Row := (139, (9, 2, some (.int), 2, 1, 0, 0), ⟨"IslandCall", "come", "(I)I"⟩, prog_1_method_28_code, cd_139)
def cd_140 : List (List (Nat × Instr × Nat × Nat)) := [[(0, .aload_n 0, 1, 0), (1, .aload_n 0, 1, 0), (2, .getfield 30, 3, 0), (5, .iload_n 1, 1, 0), (6, .iload_n 2, 1, 0), (7, .invokevirtual 266, 3, 0), (10, .ifCond .eq 7, 3, 17), (13, .iconst 0, 1, 0), (14, .goto 4, 3, 18)], [(17, .iconst 1, 1, 0), (18, .invokevirtual 120, 3, 0), (21, .ireturn, 1, 0)]]
/-- X9_rule -/
def rw_140 : am_Row := (140, (9, 3, some (.boolean), 3, 1, 0, 0), ⟨"IslandCall", "rule", "(II)Z"⟩, prog_1_method_29_code, cd_140)
def cd_141 : List (List (Nat × Instr × Nat × Nat)) := [[(0, .aload_n 0, 1, 0), (1, .getfield 30, 3, 0), (4, .iload_n 1, 1, 0), (5, .invokevirtual 222, 3, 0), (8, .ifCond .eq 15, 3, 23), (11, .aload_n 0, 1, 0), (12, .getfield 30, 3, 0), (15, .iload_n 2, 1, 0)], [(16, .i2l, 1, 0), (17, .invokevirtual 270, 3, 0), (20, .ifCond .ne 9, 3, 29), (23, .aload_n 0, 1, 0), (24, .iconst 1, 1, 0), (25, .invokevirtual 156, 3, 0), (28, .ireturn, 1, 0), (29, .aload_n 0, 1, 0), (30, .aload_n 0, 1, 0), (31, .getfield 30, 3, 0)], [(34, .iload_n 1, 1, 0), (35, .iload_n 2, 1, 0), (36, .invokevirtual 228, 3, 0), (39, .invokevirtual 172, 3, 0), (42, .ireturn, 1, 0)]]
/-- X9_need -/
def rw_141 : am_Row := (141, (9, 3, some (.int), 3, 1, 0, 0), ⟨"IslandCall", "need", "(II)I"⟩, prog_1_method_30_code, cd_141)
def cd_142 : List (List (Nat × Instr × Nat × Nat)) := [[(0, .aload_n 0, 1, 0), (1, .getfield 30, 3, 0), (4, .iload_n 1, 1, 0), (5, .invokevirtual 222, 3, 0), (8, .ifCond .eq 15, 3, 23), (11, .aload_n 0, 1, 0), (12, .getfield 30, 3, 0), (15, .iload_n 2, 1, 0)], [(16, .i2l, 1, 0), (17, .invokevirtual 270, 3, 0), (20, .ifCond .ne 5, 3, 25), (23, .iconst 1, 1, 0), (24, .ireturn, 1, 0), (25, .aload_n 0, 1, 0), (26, .getfield 30, 3, 0), (29, .iload_n 1, 1, 0), (30, .invokevirtual 274, 3, 0)], [(33, .ifCond .eq 7, 3, 40), (36, .iconst 0, 1, 0), (37, .goto 5, 3, 42), (40, .bipush 7, 2, 0), (42, .ireturn, 1, 0)]]
/-- X9_troubleWith -/
def rw_142 : am_Row := (142, (9, 3, some (.int), 3, 1, 0, 0), ⟨"IslandCall", "troubleWith", "(II)I"⟩, prog_1_method_31_code, cd_142)
def cd_143 : List (List (Nat × Instr × Nat × Nat)) := [[(0, .aload_n 0, 1, 0), (1, .iload_n 1, 1, 0), (2, .iload_n 2, 1, 0), (3, .invokevirtual 277, 3, 0), (6, .istore_n 3, 1, 0), (7, .iload_n 3, 1, 0), (8, .ifCond .eq 9, 3, 17), (11, .aload_n 0, 1, 0), (12, .iload_n 3, 1, 0), (13, .invokevirtual 156, 3, 0)], [(16, .ireturn, 1, 0), (17, .aload_n 0, 1, 0), (18, .getfield 97, 3, 0), (21, .iload_n 1, 1, 0), (22, .iload_n 2, 1, 0), (23, .invokevirtual 280, 3, 0), (26, .istore 4, 2, 0), (28, .iload 4, 2, 0), (30, .iconst (-1), 1, 0), (31, .if_icmp .ne 12, 3, 43)], [(34, .aload_n 0, 1, 0), (35, .bipush 6, 2, 0), (37, .invokevirtual 156, 3, 0), (40, .goto 9, 3, 49), (43, .aload_n 0, 1, 0), (44, .iload 4, 2, 0), (46, .invokevirtual 172, 3, 0)], [(49, .ireturn, 1, 0)]]
/-- X9_roundOf -/
def rw_143 : am_Row := (143, (9, 5, some (.int), 3, 1, 0, 0), ⟨"IslandCall", "roundOf", "(II)I"⟩, prog_1_method_32_code, cd_143)
def cd_144 : List (List (Nat × Instr × Nat × Nat)) := [[(0, .aload_n 0, 1, 0), (1, .getfield 30, 3, 0), (4, .iload_n 1, 1, 0), (5, .i2l, 1, 0), (6, .invokevirtual 270, 3, 0), (9, .ifCond .ne 9, 3, 18), (12, .aload_n 0, 1, 0), (13, .iconst 1, 1, 0), (14, .invokevirtual 156, 3, 0)], [(17, .ireturn, 1, 0), (18, .aload_n 0, 1, 0), (19, .aload_n 0, 1, 0), (20, .getfield 30, 3, 0), (23, .aload_n 0, 1, 0), (24, .getfield 30, 3, 0), (27, .getfield 203, 3, 0), (30, .iload_n 1, 1, 0), (31, .invokevirtual 283, 3, 0)], [(34, .invokevirtual 172, 3, 0), (37, .ireturn, 1, 0)]]
/-- X9_outBy -/
def rw_144 : am_Row := (144, (9, 2, some (.int), 2, 1, 0, 0), ⟨"IslandCall", "outBy", "(I)I"⟩, prog_1_method_33_code, cd_144)
def cd_145 : List (List (Nat × Instr × Nat × Nat)) := [[(0, .aload_n 0, 1, 0), (1, .getfield 30, 3, 0), (4, .iload_n 1, 1, 0), (5, .i2l, 1, 0), (6, .invokevirtual 270, 3, 0), (9, .ifCond .ne 9, 3, 18), (12, .aload_n 0, 1, 0), (13, .iconst 1, 1, 0), (14, .invokevirtual 156, 3, 0)], [(17, .ireturn, 1, 0), (18, .aload_n 0, 1, 0), (19, .aload_n 0, 1, 0), (20, .getfield 97, 3, 0), (23, .iload_n 1, 1, 0), (24, .invokevirtual 286, 3, 0), (27, .invokevirtual 172, 3, 0), (30, .ireturn, 1, 0)]]
/-- X9_restBy -/
def rw_145 : am_Row := (145, (9, 2, some (.int), 2, 1, 0, 0), ⟨"IslandCall", "restBy", "(I)I"⟩, prog_1_method_34_code, cd_145)
def cd_146 : List (List (Nat × Instr × Nat × Nat)) := [[(0, .aload_n 0, 1, 0), (1, .getfield 30, 3, 0), (4, .iload_n 1, 1, 0), (5, .i2l, 1, 0), (6, .invokevirtual 270, 3, 0), (9, .ifCond .ne 9, 3, 18), (12, .aload_n 0, 1, 0), (13, .iconst 1, 1, 0), (14, .invokevirtual 156, 3, 0)], [(17, .ireturn, 1, 0), (18, .aload_n 0, 1, 0), (19, .aload_n 0, 1, 0), (20, .getfield 97, 3, 0), (23, .iload_n 1, 1, 0), (24, .invokevirtual 289, 3, 0), (27, .invokevirtual 172, 3, 0), (30, .ireturn, 1, 0)]]
/-- X9_rounds -/
def rw_146 : am_Row := (146, (9, 2, some (.int), 2, 1, 0, 0), ⟨"IslandCall", "rounds", "(I)I"⟩, prog_1_method_35_code, cd_146)
def cd_147 : List (List (Nat × Instr × Nat × Nat)) := [[(0, .aload_n 0, 1, 0), (1, .getfield 30, 3, 0), (4, .iload_n 1, 1, 0), (5, .i2l, 1, 0), (6, .invokevirtual 292, 3, 0), (9, .ifCond .eq 15, 3, 24), (12, .aload_n 0, 1, 0), (13, .getfield 30, 3, 0)], [(16, .iload_n 2, 1, 0), (17, .i2l, 1, 0), (18, .invokevirtual 270, 3, 0), (21, .ifCond .ne 9, 3, 30), (24, .aload_n 0, 1, 0), (25, .iconst 1, 1, 0), (26, .invokevirtual 156, 3, 0), (29, .ireturn, 1, 0), (30, .iload_n 1, 1, 0), (31, .aload_n 0, 1, 0)], [(32, .getfield 30, 3, 0), (35, .getfield 203, 3, 0), (38, .iconst (-1), 1, 0), (39, .ixor, 1, 0), (40, .iand, 1, 0), (41, .ifCond .eq 10, 3, 51), (44, .aload_n 0, 1, 0), (45, .bipush 7, 2, 0), (47, .invokevirtual 156, 3, 0)], [(50, .ireturn, 1, 0), (51, .aload_n 0, 1, 0), (52, .aload_n 0, 1, 0), (53, .getfield 97, 3, 0), (56, .iload_n 1, 1, 0), (57, .iload_n 2, 1, 0), (58, .invokevirtual 295, 3, 0), (61, .ifCond .eq 7, 3, 68)], [(64, .iconst 1, 1, 0), (65, .goto 4, 3, 69), (68, .iconst 0, 1, 0), (69, .invokevirtual 172, 3, 0), (72, .ireturn, 1, 0)]]
/-- X9_atRest -/
def rw_147 : am_Row := (147, (9, 3, some (.int), 3, 1, 0, 0), ⟨"IslandCall", "atRest", "(II)I"⟩, prog_1_method_36_code, cd_147)
def cd_148 : List (List (Nat × Instr × Nat × Nat)) := [[(0, .aload_n 0, 1, 0), (1, .getfield 30, 3, 0), (4, .iload_n 1, 1, 0), (5, .i2l, 1, 0), (6, .invokevirtual 270, 3, 0), (9, .ifCond .ne 9, 3, 18), (12, .aload_n 0, 1, 0), (13, .iconst 1, 1, 0), (14, .invokevirtual 156, 3, 0)], [(17, .ireturn, 1, 0), (18, .aload_n 0, 1, 0), (19, .aload_n 0, 1, 0), (20, .getfield 97, 3, 0), (23, .iload_n 1, 1, 0), (24, .invokevirtual 298, 3, 0), (27, .invokevirtual 172, 3, 0), (30, .ireturn, 1, 0)]]
/-- X9_rests -/
def rw_148 : am_Row := (148, (9, 2, some (.int), 2, 1, 0, 0), ⟨"IslandCall", "rests", "(I)I"⟩, prog_1_method_37_code, cd_148)
def cd_149 : List (List (Nat × Instr × Nat × Nat)) := [[(0, .aload_n 0, 1, 0), (1, .getfield 30, 3, 0), (4, .iload_n 1, 1, 0), (5, .i2l, 1, 0), (6, .invokevirtual 270, 3, 0), (9, .ifCond .ne 9, 3, 18), (12, .aload_n 0, 1, 0), (13, .iconst 1, 1, 0), (14, .invokevirtual 156, 3, 0)], [(17, .ireturn, 1, 0), (18, .aload_n 0, 1, 0), (19, .aload_n 0, 1, 0), (20, .getfield 97, 3, 0), (23, .iload_n 1, 1, 0), (24, .invokevirtual 301, 3, 0), (27, .invokevirtual 172, 3, 0), (30, .ireturn, 1, 0)]]
/-- X9_greatest -/
def rw_149 : am_Row := (149, (9, 2, some (.int), 2, 1, 0, 0), ⟨"IslandCall", "greatest", "(I)I"⟩, prog_1_method_38_code, cd_149)
def cd_150 : List (List (Nat × Instr × Nat × Nat)) := [[(0, .aload_n 0, 1, 0), (1, .getfield 30, 3, 0), (4, .iload_n 1, 1, 0), (5, .i2l, 1, 0), (6, .invokevirtual 270, 3, 0), (9, .ifCond .ne 9, 3, 18), (12, .aload_n 0, 1, 0), (13, .iconst 1, 1, 0), (14, .invokevirtual 156, 3, 0)], [(17, .ireturn, 1, 0), (18, .aload_n 0, 1, 0), (19, .aload_n 0, 1, 0), (20, .getfield 97, 3, 0), (23, .iload_n 1, 1, 0), (24, .invokevirtual 304, 3, 0), (27, .invokestatic 257, 3, 0), (30, .invokevirtual 172, 3, 0)], [(33, .ireturn, 1, 0)]]
/-- X9_seeds -/
def rw_150 : am_Row := (150, (9, 2, some (.int), 2, 1, 0, 0), ⟨"IslandCall", "seeds", "(I)I"⟩, prog_1_method_39_code, cd_150)
def cd_151 : List (List (Nat × Instr × Nat × Nat)) := [[(0, .aload_n 0, 1, 0), (1, .getfield 30, 3, 0), (4, .iload_n 1, 1, 0), (5, .i2l, 1, 0), (6, .invokevirtual 270, 3, 0), (9, .ifCond .ne 9, 3, 18), (12, .aload_n 0, 1, 0), (13, .iconst 1, 1, 0), (14, .invokevirtual 156, 3, 0)], [(17, .ireturn, 1, 0), (18, .aload_n 0, 1, 0), (19, .aload_n 0, 1, 0), (20, .getfield 97, 3, 0), (23, .iload_n 1, 1, 0), (24, .invokevirtual 304, 3, 0), (27, .invokevirtual 172, 3, 0), (30, .ireturn, 1, 0)]]
/-- X9_seedSet -/
def rw_151 : am_Row := (151, (9, 2, some (.int), 2, 1, 0, 0), ⟨"IslandCall", "seedSet", "(I)I"⟩, prog_1_method_40_code, cd_151)
def cd_152 : List (List (Nat × Instr × Nat × Nat)) := [[(0, .aload_n 0, 1, 0), (1, .iload_n 1, 1, 0), (2, .iload_n 2, 1, 0), (3, .invokevirtual 277, 3, 0), (6, .istore_n 3, 1, 0), (7, .iload_n 3, 1, 0), (8, .ifCond .eq 9, 3, 17), (11, .aload_n 0, 1, 0), (12, .iload_n 3, 1, 0), (13, .invokevirtual 156, 3, 0)], [(16, .ireturn, 1, 0), (17, .aload_n 0, 1, 0), (18, .aload_n 0, 1, 0), (19, .getfield 97, 3, 0), (22, .iload_n 1, 1, 0), (23, .iload_n 2, 1, 0), (24, .invokevirtual 307, 3, 0), (27, .invokevirtual 172, 3, 0), (30, .ireturn, 1, 0)]]
/-- X9_weight -/
def rw_152 : am_Row := (152, (9, 4, some (.int), 3, 1, 0, 0), ⟨"IslandCall", "weight", "(II)I"⟩, prog_1_method_41_code, cd_152)
def cd_153 : List (List (Nat × Instr × Nat × Nat)) := [[(0, .aload_n 0, 1, 0), (1, .getfield 30, 3, 0), (4, .iload_n 1, 1, 0), (5, .i2l, 1, 0), (6, .invokevirtual 270, 3, 0), (9, .ifCond .ne 9, 3, 18), (12, .aload_n 0, 1, 0), (13, .iconst 1, 1, 0), (14, .invokevirtual 156, 3, 0)], [(17, .ireturn, 1, 0), (18, .aload_n 0, 1, 0), (19, .getfield 97, 3, 0), (22, .iload_n 1, 1, 0), (23, .invokevirtual 310, 3, 0), (26, .istore_n 2, 1, 0), (27, .iload_n 2, 1, 0), (28, .iconst (-1), 1, 0), (29, .if_icmp .ne 12, 3, 41)], [(32, .aload_n 0, 1, 0), (33, .bipush 6, 2, 0), (35, .invokevirtual 156, 3, 0), (38, .goto 8, 3, 46), (41, .aload_n 0, 1, 0), (42, .iload_n 2, 1, 0), (43, .invokevirtual 172, 3, 0), (46, .ireturn, 1, 0)]]
/-- X9_keystone -/
def rw_153 : am_Row := (153, (9, 3, some (.int), 2, 1, 0, 0), ⟨"IslandCall", "keystone", "(I)I"⟩, prog_1_method_42_code, cd_153)
def cd_154 : List (List (Nat × Instr × Nat × Nat)) := [[(0, .aload_n 0, 1, 0), (1, .iload_n 1, 1, 0), (2, .iconst 0, 1, 0), (3, .invokevirtual 277, 3, 0), (6, .istore_n 2, 1, 0), (7, .iload_n 2, 1, 0), (8, .ifCond .eq 9, 3, 17), (11, .aload_n 0, 1, 0), (12, .iload_n 2, 1, 0), (13, .invokevirtual 156, 3, 0)], [(16, .ireturn, 1, 0), (17, .aload_n 0, 1, 0), (18, .getfield 97, 3, 0), (21, .iload_n 1, 1, 0), (22, .invokevirtual 313, 3, 0), (25, .istore_n 3, 1, 0), (26, .iload_n 3, 1, 0), (27, .iconst (-1), 1, 0), (28, .if_icmp .ne 12, 3, 40), (31, .aload_n 0, 1, 0)], [(32, .bipush 6, 2, 0), (34, .invokevirtual 156, 3, 0), (37, .goto 11, 3, 48), (40, .aload_n 0, 1, 0), (41, .iload_n 3, 1, 0), (42, .invokestatic 257, 3, 0), (45, .invokevirtual 172, 3, 0)], [(48, .ireturn, 1, 0)]]
/-- X9_lures -/
def rw_154 : am_Row := (154, (9, 4, some (.int), 2, 1, 0, 0), ⟨"IslandCall", "lures", "(I)I"⟩, prog_1_method_43_code, cd_154)
def cd_155 : List (List (Nat × Instr × Nat × Nat)) := [[(0, .aload_n 0, 1, 0), (1, .iload_n 1, 1, 0), (2, .iconst 0, 1, 0), (3, .invokevirtual 277, 3, 0), (6, .istore_n 2, 1, 0), (7, .iload_n 2, 1, 0), (8, .ifCond .eq 9, 3, 17), (11, .aload_n 0, 1, 0), (12, .iload_n 2, 1, 0), (13, .invokevirtual 156, 3, 0)], [(16, .ireturn, 1, 0), (17, .aload_n 0, 1, 0), (18, .getfield 97, 3, 0), (21, .iload_n 1, 1, 0), (22, .invokevirtual 313, 3, 0), (25, .istore_n 3, 1, 0), (26, .iload_n 3, 1, 0), (27, .iconst (-1), 1, 0), (28, .if_icmp .ne 12, 3, 40), (31, .aload_n 0, 1, 0)], [(32, .bipush 6, 2, 0), (34, .invokevirtual 156, 3, 0), (37, .goto 8, 3, 45), (40, .aload_n 0, 1, 0), (41, .iload_n 3, 1, 0), (42, .invokevirtual 172, 3, 0), (45, .ireturn, 1, 0)]]
/-- X9_lureSet -/
def rw_155 : am_Row := (155, (9, 4, some (.int), 2, 1, 0, 0), ⟨"IslandCall", "lureSet", "(I)I"⟩, prog_1_method_44_code, cd_155)
def cd_156 : List (List (Nat × Instr × Nat × Nat)) := [[(0, .aload_n 0, 1, 0), (1, .aload_n 0, 1, 0), (2, .getfield 97, 3, 0), (5, .invokevirtual 316, 3, 0), (8, .invokevirtual 172, 3, 0), (11, .ireturn, 1, 0)]]
/-- X9_best -/
def rw_156 : am_Row := (156, (9, 1, some (.int), 1, 1, 0, 0), ⟨"IslandCall", "best", "()I"⟩, prog_1_method_45_code, cd_156)
def cd_157 : List (List (Nat × Instr × Nat × Nat)) := [[(0, .aload_n 0, 1, 0), (1, .aload_n 0, 1, 0), (2, .getfield 97, 3, 0), (5, .aload_n 0, 1, 0), (6, .getfield 97, 3, 0), (9, .invokevirtual 316, 3, 0), (12, .invokevirtual 319, 3, 0), (15, .invokevirtual 172, 3, 0)], [(18, .ireturn, 1, 0)]]
/-- X9_bestOut -/
def rw_157 : am_Row := (157, (9, 1, some (.int), 1, 1, 0, 0), ⟨"IslandCall", "bestOut", "()I"⟩, prog_1_method_46_code, cd_157)
def cd_158 : List (List (Nat × Instr × Nat × Nat)) := [[(0, .aload_n 0, 1, 0), (1, .aload_n 0, 1, 0), (2, .getfield 97, 3, 0), (5, .invokevirtual 322, 3, 0), (8, .invokevirtual 172, 3, 0), (11, .ireturn, 1, 0)]]
/-- X9_never -/
def rw_158 : am_Row := (158, (9, 1, some (.int), 1, 1, 0, 0), ⟨"IslandCall", "never", "()I"⟩, prog_1_method_47_code, cd_158)
def cd_159 : List (List (Nat × Instr × Nat × Nat)) := [[(0, .aload_n 0, 1, 0), (1, .getfield 41, 3, 0), (4, .aload_n 0, 1, 0), (5, .getfield 30, 3, 0), (8, .invokevirtual 163, 3, 0), (11, .iconst 0, 1, 0), (12, .istore_n 2, 1, 0), (13, .iload_n 2, 1, 0), (14, .iload_n 1, 1, 0), (15, .if_icmp .ge 17, 3, 32)], [(18, .aload_n 0, 1, 0), (19, .getfield 41, 3, 0), (22, .invokevirtual 247, 3, 0), (25, .pop, 1, 0), (26, .iinc 2 1, 3, 0), (29, .goto (-16), 3, 13)], [(32, .return_, 1, 0)]]
/-- X9_tryCalls -/
def rw_159 : am_Row := (159, (9, 3, none, 2, 1, 0, 0), ⟨"IslandCall", "tryCalls", "(I)V"⟩, prog_1_method_48_code, cd_159)
def cd_160 : List (List (Nat × Instr × Nat × Nat)) := [[(0, .iload_n 1, 1, 0), (1, .iconst 0, 1, 0), (2, .bipush 60, 2, 0), (4, .invokestatic 116, 3, 0), (7, .ifCond .ne 9, 3, 16), (10, .aload_n 0, 1, 0), (11, .iconst 1, 1, 0), (12, .invokevirtual 156, 3, 0), (15, .ireturn, 1, 0)], [(16, .aload_n 0, 1, 0), (17, .iload_n 1, 1, 0), (18, .invokevirtual 325, 3, 0), (21, .aload_n 0, 1, 0), (22, .aload_n 0, 1, 0), (23, .getfield 41, 3, 0), (26, .invokevirtual 328, 3, 0), (29, .invokevirtual 172, 3, 0)], [(32, .ireturn, 1, 0)]]
/-- X9_outIn -/
def rw_160 : am_Row := (160, (9, 2, some (.int), 2, 1, 0, 0), ⟨"IslandCall", "outIn", "(I)I"⟩, prog_1_method_49_code, cd_160)
def cd_161 : List (List (Nat × Instr × Nat × Nat)) := [[(0, .aload_n 0, 1, 0), (1, .iload_n 1, 1, 0), (2, .iconst 0, 1, 0), (3, .invokevirtual 277, 3, 0), (6, .istore_n 2, 1, 0), (7, .iload_n 2, 1, 0), (8, .ifCond .eq 9, 3, 17), (11, .aload_n 0, 1, 0), (12, .iload_n 2, 1, 0), (13, .invokevirtual 156, 3, 0)], [(16, .ireturn, 1, 0), (17, .aload_n 0, 1, 0), (18, .getfield 41, 3, 0), (21, .aload_n 0, 1, 0), (22, .getfield 30, 3, 0), (25, .invokevirtual 163, 3, 0), (28, .iconst 1, 1, 0), (29, .istore_n 3, 1, 0), (30, .iload_n 3, 1, 0), (31, .bipush 60, 2, 0)], [(33, .if_icmp .gt 33, 3, 66), (36, .aload_n 0, 1, 0), (37, .getfield 41, 3, 0), (40, .invokevirtual 247, 3, 0), (43, .istore 4, 2, 0), (45, .iload 4, 2, 0), (47, .iload_n 1, 1, 0)], [(48, .ishr, 1, 0), (49, .iconst 1, 1, 0), (50, .iand, 1, 0), (51, .ifCond .eq 9, 3, 60), (54, .aload_n 0, 1, 0), (55, .iload_n 3, 1, 0), (56, .invokevirtual 172, 3, 0), (59, .ireturn, 1, 0), (60, .iinc 3 1, 3, 0), (63, .goto (-33), 3, 30)], [(66, .aload_n 0, 1, 0), (67, .bipush 6, 2, 0), (69, .invokevirtual 156, 3, 0), (72, .ireturn, 1, 0)]]
/-- X9_outAt -/
def rw_161 : am_Row := (161, (9, 5, some (.int), 2, 1, 0, 0), ⟨"IslandCall", "outAt", "(I)I"⟩, prog_1_method_50_code, cd_161)
def cd_162 : List (List (Nat × Instr × Nat × Nat)) := [[(0, .aload_n 0, 1, 0), (1, .getfield 30, 3, 0), (4, .iload_n 1, 1, 0), (5, .invokevirtual 222, 3, 0), (8, .ifCond .eq 13, 3, 21), (11, .iload_n 2, 1, 0), (12, .iconst 0, 1, 0), (13, .bipush 60, 2, 0), (15, .invokestatic 116, 3, 0)], [(18, .ifCond .ne 9, 3, 27), (21, .aload_n 0, 1, 0), (22, .iconst 1, 1, 0), (23, .invokevirtual 156, 3, 0), (26, .ireturn, 1, 0), (27, .aload_n 0, 1, 0), (28, .iload_n 2, 1, 0), (29, .invokevirtual 325, 3, 0)], [(32, .aload_n 0, 1, 0), (33, .aload_n 0, 1, 0), (34, .getfield 41, 3, 0), (37, .getfield 225, 3, 0), (40, .iload_n 1, 1, 0), (41, .iaload, 1, 0), (42, .invokevirtual 172, 3, 0), (45, .ireturn, 1, 0)]]
/-- X9_holdIn -/
def rw_162 : am_Row := (162, (9, 3, some (.int), 3, 1, 0, 0), ⟨"IslandCall", "holdIn", "(II)I"⟩, prog_1_method_51_code, cd_162)
def cd_163 : List (List (Nat × Instr × Nat × Nat)) := [[(0, .aload_n 0, 1, 0), (1, .getfield 30, 3, 0), (4, .iload_n 1, 1, 0), (5, .invokevirtual 222, 3, 0), (8, .ifCond .eq 24, 3, 32), (11, .aload_n 0, 1, 0), (12, .getfield 16, 3, 0), (15, .iload_n 2, 1, 0)], [(16, .invokevirtual 112, 3, 0), (19, .ifCond .eq 13, 3, 32), (22, .iload_n 3, 1, 0), (23, .iconst 0, 1, 0), (24, .bipush 20, 2, 0), (26, .invokestatic 116, 3, 0), (29, .ifCond .ne 5, 3, 34)], [(32, .iconst 1, 1, 0), (33, .ireturn, 1, 0), (34, .aload_n 0, 1, 0), (35, .getfield 16, 3, 0), (38, .iload_n 2, 1, 0), (39, .invokevirtual 331, 3, 0), (42, .ifCond .eq 5, 3, 47), (45, .iconst 2, 1, 0), (46, .ireturn, 1, 0), (47, .aload_n 0, 1, 0)], [(48, .getfield 16, 3, 0), (51, .iload_n 2, 1, 0), (52, .invokevirtual 334, 3, 0), (55, .iconst 2, 1, 0), (56, .iload_n 3, 1, 0), (57, .imul, 1, 0), (58, .if_icmp .ge 5, 3, 63), (61, .iconst 3, 1, 0), (62, .ireturn, 1, 0), (63, .iconst 0, 1, 0)], [(64, .istore 4, 2, 0), (66, .iload 4, 2, 0), (68, .iload_n 3, 1, 0), (69, .if_icmp .ge 57, 3, 126), (72, .aload_n 0, 1, 0), (73, .getfield 30, 3, 0), (76, .aload_n 0, 1, 0), (77, .getfield 16, 3, 0)], [(80, .iload_n 2, 1, 0), (81, .iconst 2, 1, 0), (82, .iload 4, 2, 0), (84, .imul, 1, 0), (85, .invokevirtual 135, 3, 0), (88, .invokevirtual 270, 3, 0), (91, .ifCond .eq 27, 3, 118), (94, .aload_n 0, 1, 0), (95, .getfield 30, 3, 0)], [(98, .aload_n 0, 1, 0), (99, .getfield 16, 3, 0), (102, .iload_n 2, 1, 0), (103, .iconst 2, 1, 0), (104, .iload 4, 2, 0), (106, .imul, 1, 0), (107, .iconst 1, 1, 0), (108, .iadd, 1, 0), (109, .invokevirtual 135, 3, 0)], [(112, .invokevirtual 292, 3, 0), (115, .ifCond .ne 5, 3, 120), (118, .iconst 5, 1, 0), (119, .ireturn, 1, 0), (120, .iinc 4 1, 3, 0), (123, .goto (-57), 3, 66), (126, .iconst 0, 1, 0), (127, .ireturn, 1, 0)]]
/-- X9_troubleWithSeen -/
def rw_163 : am_Row := (163, (9, 5, some (.int), 4, 1, 0, 0), ⟨"IslandCall", "troubleWithSeen", "(III)I"⟩, prog_1_method_52_code, cd_163)
def cd_164 : List (List (Nat × Instr × Nat × Nat)) := [[(0, .iconst 0, 1, 0), (1, .istore 4, 2, 0), (3, .iconst 0, 1, 0), (4, .istore 5, 2, 0), (6, .iload 5, 2, 0), (8, .bipush 9, 2, 0), (10, .if_icmp .gt 143, 3, 153), (13, .iconst 1, 1, 0), (14, .istore 6, 2, 0)], [(16, .iconst 0, 1, 0), (17, .istore 7, 2, 0), (19, .iload 7, 2, 0), (21, .iload_n 3, 1, 0), (22, .if_icmp .ge 107, 3, 129), (25, .aload_n 0, 1, 0), (26, .getfield 16, 3, 0), (29, .iload_n 2, 1, 0), (30, .iconst 2, 1, 0), (31, .iload 7, 2, 0)], [(33, .imul, 1, 0), (34, .invokevirtual 135, 3, 0), (37, .l2i, 1, 0), (38, .istore 8, 2, 0), (40, .aload_n 0, 1, 0), (41, .getfield 16, 3, 0), (44, .iload_n 2, 1, 0), (45, .iconst 2, 1, 0), (46, .iload 7, 2, 0)], [(48, .imul, 1, 0), (49, .iconst 1, 1, 0), (50, .iadd, 1, 0), (51, .invokevirtual 135, 3, 0), (54, .l2i, 1, 0), (55, .istore 9, 2, 0), (57, .aload_n 0, 1, 0), (58, .getfield 30, 3, 0), (61, .getfield 237, 3, 0)], [(64, .iload_n 1, 1, 0), (65, .iaload, 1, 0), (66, .iload 9, 2, 0), (68, .iand, 1, 0), (69, .invokestatic 257, 3, 0), (72, .aload_n 0, 1, 0), (73, .getfield 30, 3, 0), (76, .iload 5, 2, 0), (78, .iload_n 1, 1, 0), (79, .iload 8, 2, 0)], [(81, .invokevirtual 337, 3, 0), (84, .if_icmp .lt 7, 3, 91), (87, .iconst 1, 1, 0), (88, .goto 4, 3, 92), (91, .iconst 0, 1, 0), (92, .istore 10, 2, 0), (94, .iload 6, 2, 0)], [(96, .iload 10, 2, 0), (98, .iload 9, 2, 0), (100, .iload_n 1, 1, 0), (101, .ishr, 1, 0), (102, .iconst 1, 1, 0), (103, .iand, 1, 0), (104, .ifCond .eq 7, 3, 111), (107, .iconst 1, 1, 0), (108, .goto 4, 3, 112), (111, .iconst 0, 1, 0)], [(112, .if_icmp .ne 7, 3, 119), (115, .iconst 1, 1, 0), (116, .goto 4, 3, 120), (119, .iconst 0, 1, 0), (120, .iand, 1, 0), (121, .istore 6, 2, 0), (123, .iinc 7 1, 3, 0), (126, .goto (-107), 3, 19)], [(129, .iload 4, 2, 0), (131, .iload 6, 2, 0), (133, .ifCond .eq 10, 3, 143), (136, .iconst 1, 1, 0), (137, .iload 5, 2, 0), (139, .ishl, 1, 0), (140, .goto 4, 3, 144), (143, .iconst 0, 1, 0)], [(144, .ior, 1, 0), (145, .istore 4, 2, 0), (147, .iinc 5 1, 3, 0), (150, .goto (-144), 3, 6), (153, .iload 4, 2, 0), (155, .ireturn, 1, 0)]]
/-- X9_fittingHolds -/
def rw_164 : am_Row := (164, (9, 11, some (.int), 4, 1, 0, 0), ⟨"IslandCall", "fittingHolds", "(III)I"⟩, prog_1_method_53_code, cd_164)
def cd_165 : List (List (Nat × Instr × Nat × Nat)) := [[(0, .aload_n 0, 1, 0), (1, .iload_n 1, 1, 0), (2, .iload_n 2, 1, 0), (3, .iload_n 3, 1, 0), (4, .invokevirtual 341, 3, 0), (7, .istore 4, 2, 0), (9, .iload 4, 2, 0), (11, .ifCond .eq 10, 3, 21), (14, .aload_n 0, 1, 0), (15, .iload 4, 2, 0)], [(17, .invokevirtual 156, 3, 0), (20, .ireturn, 1, 0), (21, .aload_n 0, 1, 0), (22, .aload_n 0, 1, 0), (23, .iload_n 1, 1, 0), (24, .iload_n 2, 1, 0), (25, .iload_n 3, 1, 0), (26, .invokevirtual 344, 3, 0), (29, .invokestatic 257, 3, 0)], [(32, .invokevirtual 172, 3, 0), (35, .ireturn, 1, 0)]]
/-- X9_fits -/
def rw_165 : am_Row := (165, (9, 5, some (.int), 4, 1, 0, 0), ⟨"IslandCall", "fits", "(III)I"⟩, prog_1_method_54_code, cd_165)
def cd_166 : List (List (Nat × Instr × Nat × Nat)) := [[(0, .iload 4, 2, 0), (2, .iconst 0, 1, 0), (3, .iconst 1, 1, 0), (4, .invokestatic 116, 3, 0), (7, .ifCond .eq 13, 3, 20), (10, .aload_n 0, 1, 0), (11, .iload_n 1, 1, 0), (12, .iload_n 2, 1, 0), (13, .iload_n 3, 1, 0), (14, .invokevirtual 341, 3, 0)], [(17, .goto 4, 3, 21), (20, .iconst 1, 1, 0), (21, .istore 5, 2, 0), (23, .iload 5, 2, 0), (25, .ifCond .eq 10, 3, 35), (28, .aload_n 0, 1, 0), (29, .iload 5, 2, 0), (31, .invokevirtual 156, 3, 0)], [(34, .ireturn, 1, 0), (35, .aload_n 0, 1, 0), (36, .iload_n 1, 1, 0), (37, .iload_n 2, 1, 0), (38, .iload_n 3, 1, 0), (39, .invokevirtual 344, 3, 0), (42, .istore 6, 2, 0), (44, .iconst 0, 1, 0), (45, .istore 7, 2, 0), (47, .iload 7, 2, 0)], [(49, .bipush 9, 2, 0), (51, .if_icmp .gt 43, 3, 94), (54, .iload 4, 2, 0), (56, .ifCond .ne 8, 3, 64), (59, .iload 7, 2, 0), (61, .goto 8, 3, 69)], [(64, .bipush 9, 2, 0), (66, .iload 7, 2, 0), (68, .isub, 1, 0), (69, .istore 8, 2, 0), (71, .iload 6, 2, 0), (73, .iload 8, 2, 0), (75, .ishr, 1, 0), (76, .iconst 1, 1, 0), (77, .iand, 1, 0), (78, .ifCond .eq 10, 3, 88)], [(81, .aload_n 0, 1, 0), (82, .iload 8, 2, 0), (84, .invokevirtual 172, 3, 0), (87, .ireturn, 1, 0), (88, .iinc 7 1, 3, 0), (91, .goto (-44), 3, 47), (94, .aload_n 0, 1, 0), (95, .bipush 6, 2, 0)], [(97, .invokevirtual 156, 3, 0), (100, .ireturn, 1, 0)]]
/-- X9_fitsAt -/
def rw_166 : am_Row := (166, (9, 9, some (.int), 5, 1, 0, 0), ⟨"IslandCall", "fitsAt", "(IIII)I"⟩, prog_1_method_55_code, cd_166)
def cd_167 : List (List (Nat × Instr × Nat × Nat)) := [[(0, .aload_n 0, 1, 0), (1, .iload_n 1, 1, 0), (2, .iload_n 2, 1, 0), (3, .iload_n 3, 1, 0), (4, .invokevirtual 341, 3, 0), (7, .istore 4, 2, 0), (9, .iload 4, 2, 0), (11, .ifCond .eq 10, 3, 21), (14, .aload_n 0, 1, 0), (15, .iload 4, 2, 0)], [(17, .invokevirtual 156, 3, 0), (20, .ireturn, 1, 0), (21, .aload_n 0, 1, 0), (22, .iload_n 1, 1, 0), (23, .iload_n 2, 1, 0), (24, .iload_n 3, 1, 0), (25, .invokevirtual 344, 3, 0), (28, .istore 5, 2, 0), (30, .iload 5, 2, 0)], [(32, .invokestatic 257, 3, 0), (35, .istore 6, 2, 0), (37, .iload 6, 2, 0), (39, .iconst 2, 1, 0), (40, .if_icmp .ge 7, 3, 47), (43, .iconst (-1), 1, 0), (44, .goto 15, 3, 59), (47, .aload_n 0, 1, 0)], [(48, .getfield 97, 3, 0), (51, .iload_n 1, 1, 0), (52, .iload 5, 2, 0), (54, .iload 6, 2, 0), (56, .invokevirtual 347, 3, 0), (59, .istore 7, 2, 0), (61, .iload 7, 2, 0), (63, .iconst (-1), 1, 0)], [(64, .if_icmp .ne 12, 3, 76), (67, .aload_n 0, 1, 0), (68, .bipush 6, 2, 0), (70, .invokevirtual 156, 3, 0), (73, .goto 9, 3, 82), (76, .aload_n 0, 1, 0), (77, .iload 7, 2, 0), (79, .invokevirtual 172, 3, 0)], [(82, .ireturn, 1, 0)]]
/-- X9_ask -/
def rw_167 : am_Row := (167, (9, 8, some (.int), 4, 1, 0, 0), ⟨"IslandCall", "ask", "(III)I"⟩, prog_1_method_56_code, cd_167)
def cd_168 : List (List (Nat × Instr × Nat × Nat)) := [[(0, .aload_n 0, 1, 0), (1, .aload_n 0, 1, 0), (2, .getfield 97, 3, 0), (5, .invokevirtual 350, 3, 0), (8, .invokestatic 257, 3, 0), (11, .invokevirtual 172, 3, 0), (14, .ireturn, 1, 0)]]
/-- X9_lookouts -/
def rw_168 : am_Row := (168, (9, 1, some (.int), 1, 1, 0, 0), ⟨"IslandCall", "lookouts", "()I"⟩, prog_1_method_57_code, cd_168)
def cd_169 : List (List (Nat × Instr × Nat × Nat)) := [[(0, .aload_n 0, 1, 0), (1, .aload_n 0, 1, 0), (2, .getfield 97, 3, 0), (5, .invokevirtual 350, 3, 0), (8, .invokevirtual 172, 3, 0), (11, .ireturn, 1, 0)]]
/-- X9_lookoutSet -/
def rw_169 : am_Row := (169, (9, 1, some (.int), 1, 1, 0, 0), ⟨"IslandCall", "lookoutSet", "()I"⟩, prog_1_method_58_code, cd_169)
def cd_170 : List (List (Nat × Instr × Nat × Nat)) := [[(0, .aload_n 0, 1, 0), (1, .aload_n 0, 1, 0), (2, .getfield 97, 3, 0), (5, .invokevirtual 353, 3, 0), (8, .invokevirtual 172, 3, 0), (11, .ireturn, 1, 0)]]
/-- X9_couples -/
def rw_170 : am_Row := (170, (9, 1, some (.int), 1, 1, 0, 0), ⟨"IslandCall", "couples", "()I"⟩, prog_1_method_59_code, cd_170)
def cd_171 : List (List (Nat × Instr × Nat × Nat)) := [[(0, .iload_n 1, 1, 0), (1, .iconst 0, 1, 0), (2, .iconst 3, 1, 0), (3, .invokestatic 116, 3, 0), (6, .ifCond .ne 9, 3, 15), (9, .aload_n 0, 1, 0), (10, .iconst 1, 1, 0), (11, .invokevirtual 156, 3, 0), (14, .ireturn, 1, 0), (15, .aload_n 0, 1, 0)], [(16, .getfield 97, 3, 0), (19, .iconst 1, 1, 0), (20, .iload_n 1, 1, 0), (21, .invokevirtual 356, 3, 0), (24, .aload_n 0, 1, 0), (25, .aload_n 0, 1, 0), (26, .getfield 97, 3, 0), (29, .invokevirtual 360, 3, 0)], [(32, .invokevirtual 172, 3, 0), (35, .ireturn, 1, 0)]]
/-- X9_game -/
def rw_171 : am_Row := (171, (9, 2, some (.int), 2, 1, 0, 0), ⟨"IslandCall", "game", "(I)I"⟩, prog_1_method_60_code, cd_171)
def cd_172 : List (List (Nat × Instr × Nat × Nat)) := [[(0, .iload_n 1, 1, 0), (1, .iconst 1, 1, 0), (2, .iconst 3, 1, 0), (3, .invokestatic 116, 3, 0), (6, .ifCond .ne 9, 3, 15), (9, .aload_n 0, 1, 0), (10, .iconst 1, 1, 0), (11, .invokevirtual 156, 3, 0), (14, .ireturn, 1, 0), (15, .aload_n 0, 1, 0)], [(16, .getfield 97, 3, 0), (19, .iconst 2, 1, 0), (20, .iload_n 1, 1, 0), (21, .invokevirtual 356, 3, 0), (24, .aload_n 0, 1, 0), (25, .getfield 97, 3, 0), (28, .invokevirtual 363, 3, 0), (31, .istore_n 2, 1, 0)], [(32, .iload_n 2, 1, 0), (33, .iconst (-1), 1, 0), (34, .if_icmp .ne 12, 3, 46), (37, .aload_n 0, 1, 0), (38, .bipush 6, 2, 0), (40, .invokevirtual 156, 3, 0), (43, .goto 8, 3, 51), (46, .aload_n 0, 1, 0), (47, .iload_n 2, 1, 0)], [(48, .invokevirtual 172, 3, 0), (51, .ireturn, 1, 0)]]
/-- X9_moveOf -/
def rw_172 : am_Row := (172, (9, 3, some (.int), 2, 1, 0, 0), ⟨"IslandCall", "moveOf", "(I)I"⟩, prog_1_method_61_code, cd_172)
def cd_173 : List (List (Nat × Instr × Nat × Nat)) := [[(0, .iload_n 1, 1, 0), (1, .iconst 0, 1, 0), (2, .bipush 12, 2, 0), (4, .invokestatic 116, 3, 0), (7, .ifCond .eq 13, 3, 20), (10, .iload_n 2, 1, 0), (11, .iconst 0, 1, 0), (12, .bipush 12, 2, 0), (14, .invokestatic 116, 3, 0)], [(17, .ifCond .ne 9, 3, 26), (20, .aload_n 0, 1, 0), (21, .iconst 1, 1, 0), (22, .invokevirtual 120, 3, 0), (25, .ireturn, 1, 0), (26, .lconst 0, 1, 0), (27, .lstore_n 3, 1, 0), (28, .lconst 1, 1, 0), (29, .lstore 5, 2, 0), (31, .iconst 0, 1, 0)], [(32, .istore 7, 2, 0), (34, .iload 7, 2, 0), (36, .iload_n 1, 1, 0), (37, .if_icmp .gt 67, 3, 104), (40, .iload 7, 2, 0), (42, .iload_n 2, 1, 0), (43, .if_icmp .lt 39, 3, 82), (46, .lload_n 3, 1, 0), (47, .lload 5, 2, 0)], [(49, .aload_n 0, 1, 0), (50, .getfield 30, 3, 0), (53, .getfield 197, 3, 0), (56, .iload 7, 2, 0), (58, .invokestatic 366, 3, 0), (61, .lmul, 1, 0), (62, .bipush 16, 2, 0)], [(64, .aload_n 0, 1, 0), (65, .getfield 30, 3, 0), (68, .getfield 197, 3, 0), (71, .isub, 1, 0), (72, .iload_n 1, 1, 0), (73, .iload 7, 2, 0), (75, .isub, 1, 0), (76, .invokestatic 366, 3, 0), (79, .lmul, 1, 0)], [(80, .ladd, 1, 0), (81, .lstore_n 3, 1, 0), (82, .lload 5, 2, 0), (84, .iload_n 1, 1, 0), (85, .iload 7, 2, 0), (87, .isub, 1, 0), (88, .i2l, 1, 0), (89, .lmul, 1, 0), (90, .iload 7, 2, 0), (92, .iconst 1, 1, 0), (93, .iadd, 1, 0), (94, .i2l, 1, 0), (95, .ldiv, 1, 0)], [(96, .lstore 5, 2, 0), (98, .iinc 7 1, 3, 0), (101, .goto (-67), 3, 34), (104, .aload_n 0, 1, 0), (105, .getfield 23, 3, 0), (108, .lload_n 3, 1, 0), (109, .bipush 16, 2, 0), (111, .iload_n 1, 1, 0)], [(112, .invokestatic 366, 3, 0), (115, .invokevirtual 369, 3, 0), (118, .aload_n 0, 1, 0), (119, .iconst 0, 1, 0), (120, .invokevirtual 120, 3, 0), (123, .ireturn, 1, 0)]]
/-- X9_tides -/
def rw_173 : am_Row := (173, (9, 8, some (.boolean), 3, 1, 0, 0), ⟨"IslandCall", "tides", "(II)Z"⟩, prog_1_method_62_code, cd_173)
def cd_174 : List (List (Nat × Instr × Nat × Nat)) := [[(0, .lconst 1, 1, 0), (1, .lstore_n 2, 1, 0), (2, .iconst 0, 1, 0), (3, .istore 4, 2, 0), (5, .iload 4, 2, 0), (7, .iload_n 1, 1, 0), (8, .if_icmp .ge 14, 3, 22), (11, .lload_n 2, 1, 0), (12, .iload_n 0, 1, 0), (13, .i2l, 1, 0), (14, .lmul, 1, 0), (15, .lstore_n 2, 1, 0)], [(16, .iinc 4 1, 3, 0), (19, .goto (-14), 3, 5), (22, .lload_n 2, 1, 0), (23, .lreturn, 1, 0)]]
/-- X9_power -/
def rw_174 : am_Row := (174, (9, 5, some (.long), 2, 0, 0, 0), ⟨"IslandCall", "power", "(II)J"⟩, prog_1_method_63_code, cd_174)
def cd_175 : List (List (Nat × Instr × Nat × Nat)) := [[(0, .aload_n 0, 1, 0), (1, .getfield 30, 3, 0), (4, .iload_n 1, 1, 0), (5, .invokevirtual 222, 3, 0), (8, .ifCond .ne 9, 3, 17), (11, .aload_n 0, 1, 0), (12, .iconst 1, 1, 0), (13, .invokevirtual 120, 3, 0)], [(16, .ireturn, 1, 0), (17, .aload_n 0, 1, 0), (18, .getfield 30, 3, 0), (21, .getfield 200, 3, 0), (24, .ifCond .ne 10, 3, 34), (27, .aload_n 0, 1, 0), (28, .bipush 6, 2, 0), (30, .invokevirtual 120, 3, 0)], [(33, .ireturn, 1, 0), (34, .aload_n 0, 1, 0), (35, .getfield 23, 3, 0), (38, .aload_n 0, 1, 0), (39, .getfield 30, 3, 0), (42, .getfield 231, 3, 0), (45, .iload_n 1, 1, 0), (46, .iaload, 1, 0), (47, .i2l, 1, 0)], [(48, .aload_n 0, 1, 0), (49, .getfield 30, 3, 0), (52, .getfield 200, 3, 0), (55, .i2l, 1, 0), (56, .invokevirtual 369, 3, 0), (59, .aload_n 0, 1, 0), (60, .iconst 0, 1, 0), (61, .invokevirtual 120, 3, 0)], [(64, .ireturn, 1, 0)]]
/-- X9_sloth -/
def rw_175 : am_Row := (175, (9, 2, some (.boolean), 2, 1, 0, 0), ⟨"IslandCall", "sloth", "(I)Z"⟩, prog_1_method_64_code, cd_175)
def cd_176 : List (List (Nat × Instr × Nat × Nat)) := [[(0, .aload_n 0, 1, 0), (1, .getfield 16, 3, 0), (4, .iload_n 1, 1, 0), (5, .invokevirtual 112, 3, 0), (8, .ifCond .ne 9, 3, 17), (11, .aload_n 0, 1, 0), (12, .iconst 1, 1, 0), (13, .invokevirtual 156, 3, 0)], [(16, .ireturn, 1, 0), (17, .aload_n 0, 1, 0), (18, .getfield 16, 3, 0), (21, .iload_n 1, 1, 0), (22, .invokevirtual 331, 3, 0), (25, .ifCond .eq 9, 3, 34), (28, .aload_n 0, 1, 0), (29, .iconst 2, 1, 0), (30, .invokevirtual 156, 3, 0)], [(33, .ireturn, 1, 0), (34, .aload_n 0, 1, 0), (35, .getfield 16, 3, 0), (38, .iload_n 1, 1, 0), (39, .invokevirtual 334, 3, 0), (42, .aload_n 0, 1, 0), (43, .getfield 30, 3, 0), (46, .getfield 169, 3, 0)], [(49, .if_icmp .ge 9, 3, 58), (52, .aload_n 0, 1, 0), (53, .iconst 3, 1, 0), (54, .invokevirtual 156, 3, 0), (57, .ireturn, 1, 0), (58, .iconst 0, 1, 0), (59, .istore_n 2, 1, 0), (60, .iload_n 2, 1, 0), (61, .aload_n 0, 1, 0), (62, .getfield 30, 3, 0)], [(65, .getfield 169, 3, 0), (68, .if_icmp .ge 28, 3, 96), (71, .aload_n 0, 1, 0), (72, .getfield 16, 3, 0), (75, .iload_n 1, 1, 0), (76, .iload_n 2, 1, 0), (77, .aload_n 0, 1, 0), (78, .getfield 30, 3, 0)], [(81, .getfield 225, 3, 0), (84, .iload_n 2, 1, 0), (85, .iaload, 1, 0), (86, .i2l, 1, 0), (87, .invokevirtual 131, 3, 0), (90, .iinc 2 1, 3, 0), (93, .goto (-33), 3, 60)], [(96, .aload_n 0, 1, 0), (97, .aload_n 0, 1, 0), (98, .getfield 30, 3, 0), (101, .getfield 169, 3, 0), (104, .invokevirtual 172, 3, 0), (107, .ireturn, 1, 0)]]
/-- X9_copyHolds -/
def rw_176 : am_Row := (176, (9, 3, some (.int), 2, 1, 0, 0), ⟨"IslandCall", "copyHolds", "(I)I"⟩, prog_1_method_65_code, cd_176)
def cd_177 : List (List (Nat × Instr × Nat × Nat)) := [[(0, .iload_n 1, 1, 0), (1, .iconst 0, 1, 0), (2, .sipush 9999, 3, 0), (5, .invokestatic 116, 3, 0), (8, .ifCond .ne 9, 3, 17), (11, .aload_n 0, 1, 0), (12, .iconst 1, 1, 0), (13, .invokevirtual 156, 3, 0)], [(16, .ireturn, 1, 0), (17, .aload_n 0, 1, 0), (18, .getfield 37, 3, 0), (21, .getfield 373, 3, 0), (24, .ifCond .ne 10, 3, 34), (27, .aload_n 0, 1, 0), (28, .bipush 6, 2, 0), (30, .invokevirtual 156, 3, 0)], [(33, .ireturn, 1, 0), (34, .aload_n 0, 1, 0), (35, .getfield 85, 3, 0), (38, .aload_n 0, 1, 0), (39, .getfield 30, 3, 0), (42, .aload_n 0, 1, 0), (43, .getfield 37, 3, 0), (46, .iload_n 1, 1, 0), (47, .invokevirtual 377, 3, 0)], [(50, .aload_n 0, 1, 0), (51, .aload_n 0, 1, 0), (52, .getfield 85, 3, 0), (55, .getfield 381, 3, 0), (58, .invokevirtual 172, 3, 0), (61, .ireturn, 1, 0)]]
/-- X9_live -/
def rw_177 : am_Row := (177, (9, 2, some (.int), 2, 1, 0, 0), ⟨"IslandCall", "live", "(I)I"⟩, prog_1_method_66_code, cd_177)
def cd_178 : List (List (Nat × Instr × Nat × Nat)) := [[(0, .iload_n 1, 1, 0), (1, .iconst 0, 1, 0), (2, .iconst 4, 1, 0), (3, .invokestatic 116, 3, 0), (6, .ifCond .ne 9, 3, 15), (9, .aload_n 0, 1, 0), (10, .iconst 1, 1, 0), (11, .invokevirtual 156, 3, 0), (14, .ireturn, 1, 0), (15, .aload_n 0, 1, 0)], [(16, .getfield 85, 3, 0), (19, .getfield 382, 3, 0), (22, .ifCond .ne 10, 3, 32), (25, .aload_n 0, 1, 0), (26, .bipush 6, 2, 0), (28, .invokevirtual 156, 3, 0), (31, .ireturn, 1, 0)], [(32, .iload_n 1, 1, 0), (33, .tableswitch 79 0 3 #[31, 43, 55, 67], 31, 0)], [], [(64, .aload_n 0, 1, 0), (65, .aload_n 0, 1, 0), (66, .getfield 85, 3, 0), (69, .getfield 385, 3, 0), (72, .invokevirtual 172, 3, 0), (75, .ireturn, 1, 0), (76, .aload_n 0, 1, 0), (77, .aload_n 0, 1, 0), (78, .getfield 85, 3, 0)], [(81, .getfield 388, 3, 0), (84, .invokevirtual 172, 3, 0), (87, .ireturn, 1, 0), (88, .aload_n 0, 1, 0), (89, .aload_n 0, 1, 0), (90, .getfield 85, 3, 0), (93, .getfield 391, 3, 0)], [(96, .invokevirtual 172, 3, 0), (99, .ireturn, 1, 0), (100, .aload_n 0, 1, 0), (101, .aload_n 0, 1, 0), (102, .getfield 85, 3, 0), (105, .getfield 394, 3, 0), (108, .invokevirtual 172, 3, 0), (111, .ireturn, 1, 0)], [(112, .aload_n 0, 1, 0), (113, .aload_n 0, 1, 0), (114, .getfield 85, 3, 0), (117, .getfield 397, 3, 0), (120, .ifCond .eq 7, 3, 127), (123, .iconst 1, 1, 0), (124, .goto 4, 3, 128), (127, .iconst 0, 1, 0)], [(128, .invokevirtual 172, 3, 0), (131, .ireturn, 1, 0)]]
/-- X9_lived -/
def rw_178 : am_Row := (178, (9, 2, some (.int), 2, 1, 0, 0), ⟨"IslandCall", "lived", "(I)I"⟩, prog_1_method_67_code, cd_178)
def cd_179 : List (List (Nat × Instr × Nat × Nat)) := [[(0, .iload_n 1, 1, 0), (1, .iconst 0, 1, 0), (2, .sipush 9999, 3, 0), (5, .invokestatic 116, 3, 0), (8, .ifCond .eq 24, 3, 32), (11, .iload_n 2, 1, 0), (12, .iconst 1, 1, 0), (13, .bipush 20, 2, 0), (15, .invokestatic 116, 3, 0)], [(18, .ifCond .eq 14, 3, 32), (21, .iload_n 1, 1, 0), (22, .iload_n 2, 1, 0), (23, .iadd, 1, 0), (24, .iconst 1, 1, 0), (25, .isub, 1, 0), (26, .sipush 9999, 3, 0), (29, .if_icmp .le 9, 3, 38)], [(32, .aload_n 0, 1, 0), (33, .iconst 1, 1, 0), (34, .invokevirtual 120, 3, 0), (37, .ireturn, 1, 0), (38, .aload_n 0, 1, 0), (39, .getfield 37, 3, 0), (42, .getfield 373, 3, 0), (45, .ifCond .ne 10, 3, 55)], [(48, .aload_n 0, 1, 0), (49, .bipush 6, 2, 0), (51, .invokevirtual 120, 3, 0), (54, .ireturn, 1, 0), (55, .iconst 0, 1, 0), (56, .istore_n 3, 1, 0), (57, .iconst 0, 1, 0), (58, .istore 4, 2, 0), (60, .iload 4, 2, 0), (62, .iload_n 2, 1, 0), (63, .if_icmp .ge 52, 3, 115)], [(66, .aload_n 0, 1, 0), (67, .getfield 41, 3, 0), (70, .aload_n 0, 1, 0), (71, .getfield 30, 3, 0), (74, .invokevirtual 163, 3, 0), (77, .aload_n 0, 1, 0), (78, .getfield 89, 3, 0)], [(81, .aload_n 0, 1, 0), (82, .getfield 41, 3, 0), (85, .aload_n 0, 1, 0), (86, .getfield 37, 3, 0), (89, .iload_n 1, 1, 0), (90, .iload 4, 2, 0), (92, .iadd, 1, 0), (93, .invokevirtual 377, 3, 0)], [(96, .iload_n 3, 1, 0), (97, .aload_n 0, 1, 0), (98, .getfield 41, 3, 0), (101, .invokevirtual 328, 3, 0), (104, .invokestatic 257, 3, 0), (107, .iadd, 1, 0), (108, .istore_n 3, 1, 0), (109, .iinc 4 1, 3, 0)], [(112, .goto (-52), 3, 60), (115, .aload_n 0, 1, 0), (116, .getfield 23, 3, 0), (119, .iload_n 3, 1, 0), (120, .i2l, 1, 0), (121, .iload_n 2, 1, 0), (122, .i2l, 1, 0), (123, .invokevirtual 369, 3, 0), (126, .aload_n 0, 1, 0), (127, .iconst 0, 1, 0)], [(128, .invokevirtual 120, 3, 0), (131, .ireturn, 1, 0)]]
/-- X9_mean -/
def rw_179 : am_Row := (179, (9, 5, some (.boolean), 3, 1, 0, 0), ⟨"IslandCall", "mean", "(II)Z"⟩, prog_1_method_68_code, cd_179)
def cd_180 : List (List (Nat × Instr × Nat × Nat)) := [[(0, .aload_n 0, 1, 0), (1, .getfield 400, 3, 0), (4, .iconst 3, 1, 0), (5, .if_icmp .lt 9, 3, 14), (8, .aload_n 0, 1, 0), (9, .iconst 4, 1, 0), (10, .invokevirtual 156, 3, 0), (13, .ireturn, 1, 0), (14, .aload_n 0, 1, 0), (15, .getfield 47, 3, 0)], [(18, .aload_n 0, 1, 0), (19, .getfield 400, 3, 0), (22, .aaload, 1, 0), (23, .aload_n 0, 1, 0), (24, .getfield 30, 3, 0), (27, .invokevirtual 163, 3, 0), (30, .aload_n 0, 1, 0), (31, .getfield 51, 3, 0)], [(34, .aload_n 0, 1, 0), (35, .getfield 400, 3, 0), (38, .aaload, 1, 0), (39, .aload_n 0, 1, 0), (40, .getfield 37, 3, 0), (43, .invokevirtual 176, 3, 0), (46, .aload_n 0, 1, 0), (47, .dup, 1, 0)], [(48, .getfield 400, 3, 0), (51, .iconst 1, 1, 0), (52, .iadd, 1, 0), (53, .putfield 400, 3, 0), (56, .aload_n 0, 1, 0), (57, .aload_n 0, 1, 0), (58, .getfield 400, 3, 0), (61, .invokevirtual 172, 3, 0)], [(64, .ireturn, 1, 0)]]
/-- X9_mark -/
def rw_180 : am_Row := (180, (9, 1, some (.int), 1, 1, 0, 0), ⟨"IslandCall", "mark", "()I"⟩, prog_1_method_69_code, cd_180)
def cd_181 : List (List (Nat × Instr × Nat × Nat)) := [[(0, .aload_n 0, 1, 0), (1, .getfield 400, 3, 0), (4, .ifCond .gt 10, 3, 14), (7, .aload_n 0, 1, 0), (8, .bipush 6, 2, 0), (10, .invokevirtual 156, 3, 0), (13, .ireturn, 1, 0), (14, .aload_n 0, 1, 0), (15, .dup, 1, 0)], [(16, .getfield 400, 3, 0), (19, .iconst 1, 1, 0), (20, .isub, 1, 0), (21, .putfield 400, 3, 0), (24, .aload_n 0, 1, 0), (25, .getfield 30, 3, 0), (28, .aload_n 0, 1, 0), (29, .getfield 47, 3, 0)], [(32, .aload_n 0, 1, 0), (33, .getfield 400, 3, 0), (36, .aaload, 1, 0), (37, .invokevirtual 163, 3, 0), (40, .aload_n 0, 1, 0), (41, .getfield 37, 3, 0), (44, .aload_n 0, 1, 0), (45, .getfield 51, 3, 0)], [(48, .aload_n 0, 1, 0), (49, .getfield 400, 3, 0), (52, .aaload, 1, 0), (53, .invokevirtual 176, 3, 0), (56, .aload_n 0, 1, 0), (57, .aload_n 0, 1, 0), (58, .getfield 400, 3, 0), (61, .invokevirtual 172, 3, 0)], [(64, .ireturn, 1, 0)]]
/-- X9_undo -/
def rw_181 : am_Row := (181, (9, 1, some (.int), 1, 1, 0, 0), ⟨"IslandCall", "undo", "()I"⟩, prog_1_method_70_code, cd_181)
def cd_182 : List (List (Nat × Instr × Nat × Nat)) := [[(0, .aload_n 0, 1, 0), (1, .invokespecial 1, 3, 0), (4, .aload_n 0, 1, 0), (5, .sipush 2592, 3, 0), (8, .newarray .int, 2, 0), (10, .putfield 7, 3, 0), (13, .aload_n 0, 1, 0), (14, .bipush 84, 2, 0)], [(16, .newarray .long, 2, 0), (18, .putfield 13, 3, 0), (21, .aload_n 0, 1, 0), (22, .lconst 1, 1, 0), (23, .putfield 17, 3, 0), (26, .aload_n 0, 1, 0), (27, .iconst 4, 1, 0), (28, .newarray .int, 2, 0), (30, .putfield 21, 3, 0)], [(33, .aload_n 0, 1, 0), (34, .iconst 4, 1, 0), (35, .newarray .int, 2, 0), (37, .dup, 1, 0), (38, .iconst 0, 1, 0), (39, .iconst (-1), 1, 0), (40, .iastore, 1, 0), (41, .dup, 1, 0), (42, .iconst 1, 1, 0), (43, .iconst (-1), 1, 0), (44, .iastore, 1, 0), (45, .dup, 1, 0), (46, .iconst 2, 1, 0), (47, .iconst (-1), 1, 0)], [(48, .iastore, 1, 0), (49, .dup, 1, 0), (50, .iconst 3, 1, 0), (51, .iconst (-1), 1, 0), (52, .iastore, 1, 0), (53, .putfield 24, 3, 0), (56, .aload_n 0, 1, 0), (57, .sipush 240, 3, 0), (60, .newarray .long, 2, 0), (62, .putfield 27, 3, 0)], [(65, .aload_n 0, 1, 0), (66, .sipush 900, 3, 0), (69, .newarray .byte, 2, 0), (71, .putfield 30, 3, 0), (74, .aload_n 0, 1, 0), (75, .sipush 900, 3, 0), (78, .newarray .byte, 2, 0)], [(80, .putfield 34, 3, 0), (83, .aload_n 0, 1, 0), (84, .iconst (-1), 1, 0), (85, .putfield 37, 3, 0), (88, .aload_n 0, 1, 0), (89, .iconst (-1), 1, 0), (90, .putfield 41, 3, 0), (93, .aload_n 0, 1, 0), (94, .iconst 3, 1, 0), (95, .newarray .int, 2, 0)], [(97, .putfield 44, 3, 0), (100, .aload_n 0, 1, 0), (101, .bipush 8, 2, 0), (103, .newarray .int, 2, 0), (105, .putfield 47, 3, 0), (108, .aload_n 0, 1, 0), (109, .bipush 64, 2, 0), (111, .newarray .int, 2, 0)], [(113, .putfield 50, 3, 0), (116, .aload_n 0, 1, 0), (117, .bipush 64, 2, 0), (119, .newarray .int, 2, 0), (121, .putfield 53, 3, 0), (124, .aload_n 0, 1, 0), (125, .bipush 13, 2, 0), (127, .newarray .long, 2, 0)], [(129, .putfield 56, 3, 0), (132, .aload_n 0, 1, 0), (133, .bipush 80, 2, 0), (135, .newarray .int, 2, 0), (137, .putfield 59, 3, 0), (140, .aload_n 0, 1, 0), (141, .iconst 5, 1, 0), (142, .newarray .int, 2, 0)], [(144, .putfield 62, 3, 0), (147, .aload_n 0, 1, 0), (148, .iconst 5, 1, 0), (149, .newarray .int, 2, 0), (151, .putfield 65, 3, 0), (154, .aload_n 0, 1, 0), (155, .iconst 0, 1, 0), (156, .invokevirtual 68, 3, 0), (159, .return_, 1, 0)]]
/-- X10_init -/
def rw_182 : am_Row := (182, (10, 1, none, 1, 2, 15, 4966), ⟨"IslandCallModel", "<init>", "()V"⟩, prog_12_method_1_code, cd_182)
def cd_183 : List (List (Nat × Instr × Nat × Nat)) := [[(0, .iconst 0, 1, 0), (1, .istore_n 2, 1, 0), (2, .iload_n 2, 1, 0), (3, .sipush 416, 3, 0), (6, .if_icmp .ge 18, 3, 24), (9, .aload_n 0, 1, 0), (10, .getfield 7, 3, 0), (13, .iload_n 1, 1, 0), (14, .iload_n 2, 1, 0), (15, .iadd, 1, 0)], [(16, .iconst 0, 1, 0), (17, .iastore, 1, 0), (18, .iinc 2 1, 3, 0), (21, .goto (-19), 3, 2), (24, .aload_n 0, 1, 0), (25, .getfield 7, 3, 0), (28, .iload_n 1, 1, 0), (29, .iconst 2, 1, 0), (30, .iadd, 1, 0), (31, .iconst 4, 1, 0)], [(32, .iastore, 1, 0), (33, .aload_n 0, 1, 0), (34, .getfield 7, 3, 0), (37, .iload_n 1, 1, 0), (38, .iconst 3, 1, 0), (39, .iadd, 1, 0), (40, .iconst 1, 1, 0), (41, .iastore, 1, 0), (42, .aload_n 0, 1, 0), (43, .getfield 7, 3, 0), (46, .iload_n 1, 1, 0), (47, .iconst 4, 1, 0)], [(48, .iadd, 1, 0), (49, .bipush 12, 2, 0), (51, .iastore, 1, 0), (52, .aload_n 0, 1, 0), (53, .getfield 7, 3, 0), (56, .iload_n 1, 1, 0), (57, .bipush 8, 2, 0), (59, .iadd, 1, 0), (60, .iconst (-1), 1, 0), (61, .iastore, 1, 0), (62, .return_, 1, 0)]]
/-- X10_plain -/
def rw_183 : am_Row := (183, (10, 3, none, 2, 1, 0, 0), ⟨"IslandCallModel", "plain", "(I)V"⟩, prog_12_method_2_code, cd_183)
def cd_184 : List (List (Nat × Instr × Nat × Nat)) := [[(0, .aload_n 0, 1, 0), (1, .getfield 72, 3, 0), (4, .ireturn, 1, 0)]]
/-- X10_status -/
def rw_184 : am_Row := (184, (10, 1, some (.int), 1, 1, 0, 0), ⟨"IslandCallModel", "status", "()I"⟩, prog_12_method_3_code, cd_184)
def cd_185 : List (List (Nat × Instr × Nat × Nat)) := [[(0, .aload_n 0, 1, 0), (1, .getfield 75, 3, 0), (4, .lreturn, 1, 0)]]
/-- X10_top -/
def rw_185 : am_Row := (185, (10, 1, some (.long), 1, 1, 0, 0), ⟨"IslandCallModel", "top", "()J"⟩, prog_12_method_4_code, cd_185)
def cd_186 : List (List (Nat × Instr × Nat × Nat)) := [[(0, .aload_n 0, 1, 0), (1, .getfield 17, 3, 0), (4, .lreturn, 1, 0)]]
/-- X10_bottom -/
def rw_186 : am_Row := (186, (10, 1, some (.long), 1, 1, 0, 0), ⟨"IslandCallModel", "bottom", "()J"⟩, prog_12_method_5_code, cd_186)
def cd_187 : List (List (Nat × Instr × Nat × Nat)) := [[(0, .aload_n 0, 1, 0), (1, .iload_n 1, 1, 0), (2, .putfield 72, 3, 0), (5, .iload_n 1, 1, 0), (6, .ifCond .ne 7, 3, 13), (9, .iconst 1, 1, 0), (10, .goto 4, 3, 14), (13, .iconst 0, 1, 0), (14, .ireturn, 1, 0)]]
/-- X10_is -/
def rw_187 : am_Row := (187, (10, 2, some (.boolean), 2, 1, 0, 0), ⟨"IslandCallModel", "is", "(I)Z"⟩, prog_12_method_6_code, cd_187)
def cd_188 : List (List (Nat × Instr × Nat × Nat)) := [[(0, .aload_n 0, 1, 0), (1, .iload_n 1, 1, 0), (2, .putfield 72, 3, 0), (5, .iconst (-1), 1, 0), (6, .ireturn, 1, 0)]]
/-- X10_refuse -/
def rw_188 : am_Row := (188, (10, 2, some (.int), 2, 1, 0, 0), ⟨"IslandCallModel", "refuse", "(I)I"⟩, prog_12_method_7_code, cd_188)
def cd_189 : List (List (Nat × Instr × Nat × Nat)) := [[(0, .aload_n 0, 1, 0), (1, .iconst 0, 1, 0), (2, .putfield 72, 3, 0), (5, .iload_n 1, 1, 0), (6, .ireturn, 1, 0)]]
/-- X10_gives -/
def rw_189 : am_Row := (189, (10, 2, some (.int), 2, 1, 0, 0), ⟨"IslandCallModel", "gives", "(I)I"⟩, prog_12_method_8_code, cd_189)
def cd_190 : List (List (Nat × Instr × Nat × Nat)) := [[(0, .iload_n 1, 1, 0), (1, .iconst (-1), 1, 0), (2, .if_icmp .ne 10, 3, 12), (5, .aload_n 0, 1, 0), (6, .bipush 6, 2, 0), (8, .invokevirtual 78, 3, 0), (11, .ireturn, 1, 0), (12, .aload_n 0, 1, 0), (13, .iload_n 1, 1, 0), (14, .invokevirtual 82, 3, 0)], [(17, .ireturn, 1, 0)]]
/-- X10_orNone -/
def rw_190 : am_Row := (190, (10, 2, some (.int), 2, 1, 0, 0), ⟨"IslandCallModel", "orNone", "(I)I"⟩, prog_12_method_9_code, cd_190)
def cd_191 : List (List (Nat × Instr × Nat × Nat)) := [[(0, .lload_n 1, 1, 0), (1, .lstore 5, 2, 0), (3, .lload_n 3, 1, 0), (4, .lstore 7, 2, 0), (6, .lload 7, 2, 0), (8, .lconst 0, 1, 0), (9, .lcmp, 1, 0), (10, .ifCond .eq 21, 3, 31), (13, .lload 5, 2, 0), (15, .lload 7, 2, 0)], [(17, .lrem, 1, 0), (18, .lstore 9, 2, 0), (20, .lload 7, 2, 0), (22, .lstore 5, 2, 0), (24, .lload 9, 2, 0), (26, .lstore 7, 2, 0), (28, .goto (-22), 3, 6), (31, .aload_n 0, 1, 0)], [(32, .lload_n 1, 1, 0), (33, .lload 5, 2, 0), (35, .ldiv, 1, 0), (36, .putfield 75, 3, 0), (39, .aload_n 0, 1, 0), (40, .lload_n 3, 1, 0), (41, .lload 5, 2, 0), (43, .ldiv, 1, 0), (44, .putfield 17, 3, 0), (47, .aload_n 0, 1, 0)], [(48, .iconst 0, 1, 0), (49, .invokevirtual 85, 3, 0), (52, .ireturn, 1, 0)]]
/-- X10_tellsBy -/
def rw_191 : am_Row := (191, (10, 11, some (.boolean), 3, 1, 0, 0), ⟨"IslandCallModel", "tellsBy", "(JJ)Z"⟩, prog_12_method_10_code, cd_191)
def cd_192 : List (List (Nat × Instr × Nat × Nat)) := [[(0, .iload_n 0, 1, 0), (1, .ifCond .lt 12, 3, 13), (4, .iload_n 0, 1, 0), (5, .iconst 4, 1, 0), (6, .if_icmp .ge 7, 3, 13), (9, .iconst 1, 1, 0), (10, .goto 4, 3, 14), (13, .iconst 0, 1, 0), (14, .ireturn, 1, 0)]]
/-- X10_isTray -/
def rw_192 : am_Row := (192, (10, 1, some (.boolean), 1, 0, 0, 0), ⟨"IslandCallModel", "isTray", "(I)Z"⟩, prog_12_method_11_code, cd_192)
def cd_193 : List (List (Nat × Instr × Nat × Nat)) := [[(0, .iload_n 2, 1, 0), (1, .ifCond .ne 10, 3, 11), (4, .lload_n 0, 1, 0), (5, .l2i, 1, 0), (6, .i2b, 1, 0), (7, .i2l, 1, 0), (8, .goto 27, 3, 35), (11, .iload_n 2, 1, 0), (12, .iconst 1, 1, 0), (13, .if_icmp .ne 10, 3, 23)], [(16, .lload_n 0, 1, 0), (17, .l2i, 1, 0), (18, .i2s, 1, 0), (19, .i2l, 1, 0), (20, .goto 15, 3, 35), (23, .iload_n 2, 1, 0), (24, .iconst 2, 1, 0), (25, .if_icmp .ne 9, 3, 34), (28, .lload_n 0, 1, 0), (29, .l2i, 1, 0), (30, .i2l, 1, 0), (31, .goto 4, 3, 35)], [(34, .lload_n 0, 1, 0), (35, .lreturn, 1, 0)]]
/-- X10_cut -/
def rw_193 : am_Row := (193, (10, 3, some (.long), 2, 0, 0, 0), ⟨"IslandCallModel", "cut", "(JI)J"⟩, prog_12_method_12_code, cd_193)
def cd_194 : List (List (Nat × Instr × Nat × Nat)) := [[(0, .iload_n 1, 1, 0), (1, .invokestatic 89, 3, 0), (4, .ifCond .eq 22, 3, 26), (7, .iload_n 2, 1, 0), (8, .ifCond .lt 18, 3, 26), (11, .iload_n 2, 1, 0), (12, .iconst 3, 1, 0), (13, .if_icmp .gt 13, 3, 26)], [(16, .iload_n 3, 1, 0), (17, .ifCond .lt 9, 3, 26), (20, .iload_n 3, 1, 0), (21, .bipush 60, 2, 0), (23, .if_icmp .le 9, 3, 32), (26, .aload_n 0, 1, 0), (27, .iconst 1, 1, 0), (28, .invokevirtual 85, 3, 0), (31, .ireturn, 1, 0)], [(32, .aload_n 0, 1, 0), (33, .getfield 21, 3, 0), (36, .iload_n 1, 1, 0), (37, .iload_n 2, 1, 0), (38, .iastore, 1, 0), (39, .aload_n 0, 1, 0), (40, .getfield 24, 3, 0), (43, .iload_n 1, 1, 0), (44, .iload_n 3, 1, 0), (45, .iastore, 1, 0), (46, .iconst 0, 1, 0), (47, .istore 4, 2, 0)], [(49, .iload 4, 2, 0), (51, .iload_n 3, 1, 0), (52, .if_icmp .ge 22, 3, 74), (55, .aload_n 0, 1, 0), (56, .getfield 27, 3, 0), (59, .bipush 60, 2, 0), (61, .iload_n 1, 1, 0), (62, .imul, 1, 0), (63, .iload 4, 2, 0)], [(65, .iadd, 1, 0), (66, .lconst 0, 1, 0), (67, .lastore, 1, 0), (68, .iinc 4 1, 3, 0), (71, .goto (-22), 3, 49), (74, .aload_n 0, 1, 0), (75, .iconst 0, 1, 0), (76, .invokevirtual 85, 3, 0), (79, .ireturn, 1, 0)]]
/-- X10_tray -/
def rw_194 : am_Row := (194, (10, 5, some (.boolean), 4, 1, 0, 0), ⟨"IslandCallModel", "tray", "(III)Z"⟩, prog_12_method_13_code, cd_194)
def cd_195 : List (List (Nat × Instr × Nat × Nat)) := [[(0, .iload_n 1, 1, 0), (1, .invokestatic 89, 3, 0), (4, .ifCond .ne 7, 3, 11), (7, .iconst 1, 1, 0), (8, .goto 36, 3, 44), (11, .aload_n 0, 1, 0), (12, .getfield 24, 3, 0), (15, .iload_n 1, 1, 0)], [(16, .iaload, 1, 0), (17, .iconst (-1), 1, 0), (18, .if_icmp .ne 7, 3, 25), (21, .iconst 2, 1, 0), (22, .goto 22, 3, 44), (25, .iload_n 2, 1, 0), (26, .ifCond .lt 13, 3, 39), (29, .iload_n 2, 1, 0), (30, .aload_n 0, 1, 0), (31, .getfield 24, 3, 0)], [(34, .iload_n 1, 1, 0), (35, .iaload, 1, 0), (36, .if_icmp .lt 7, 3, 43), (39, .iconst 3, 1, 0), (40, .goto 4, 3, 44), (43, .iconst 0, 1, 0), (44, .ireturn, 1, 0)]]
/-- X10_wrongPlace -/
def rw_195 : am_Row := (195, (10, 3, some (.int), 3, 1, 0, 0), ⟨"IslandCallModel", "wrongPlace", "(II)I"⟩, prog_12_method_14_code, cd_195)
def cd_196 : List (List (Nat × Instr × Nat × Nat)) := [[(0, .aload_n 0, 1, 0), (1, .iload_n 1, 1, 0), (2, .iload_n 2, 1, 0), (3, .invokevirtual 92, 3, 0), (6, .istore 5, 2, 0), (8, .iload 5, 2, 0), (10, .ifCond .ne 24, 3, 34), (13, .aload_n 0, 1, 0), (14, .getfield 27, 3, 0)], [(17, .bipush 60, 2, 0), (19, .iload_n 1, 1, 0), (20, .imul, 1, 0), (21, .iload_n 2, 1, 0), (22, .iadd, 1, 0), (23, .lload_n 3, 1, 0), (24, .aload_n 0, 1, 0), (25, .getfield 21, 3, 0), (28, .iload_n 1, 1, 0), (29, .iaload, 1, 0), (30, .invokestatic 96, 3, 0)], [(33, .lastore, 1, 0), (34, .aload_n 0, 1, 0), (35, .iload 5, 2, 0), (37, .invokevirtual 85, 3, 0), (40, .ireturn, 1, 0)]]
/-- X10_write -/
def rw_196 : am_Row := (196, (10, 6, some (.boolean), 4, 1, 0, 0), ⟨"IslandCallModel", "write", "(IIJ)Z"⟩, prog_12_method_15_code, cd_196)
def cd_197 : List (List (Nat × Instr × Nat × Nat)) := [[(0, .aload_n 0, 1, 0), (1, .aload_n 0, 1, 0), (2, .iload_n 1, 1, 0), (3, .iload_n 2, 1, 0), (4, .invokevirtual 92, 3, 0), (7, .putfield 72, 3, 0), (10, .aload_n 0, 1, 0), (11, .getfield 72, 3, 0), (14, .ifCond .le 9, 3, 23)], [(17, .ldc2_w 100, 3, 0), (20, .goto 14, 3, 34), (23, .aload_n 0, 1, 0), (24, .getfield 27, 3, 0), (27, .bipush 60, 2, 0), (29, .iload_n 1, 1, 0), (30, .imul, 1, 0), (31, .iload_n 2, 1, 0)], [(32, .iadd, 1, 0), (33, .laload, 1, 0), (34, .lreturn, 1, 0)]]
/-- X10_read -/
def rw_197 : am_Row := (197, (10, 3, some (.long), 3, 1, 0, 0), ⟨"IslandCallModel", "read", "(II)J"⟩, prog_12_method_16_code, cd_197)
def cd_198 : List (List (Nat × Instr × Nat × Nat)) := [[(0, .iload_n 1, 1, 0), (1, .invokestatic 89, 3, 0), (4, .ifCond .eq 24, 3, 28), (7, .iload_n 3, 1, 0), (8, .invokestatic 89, 3, 0), (11, .ifCond .eq 17, 3, 28), (14, .iload_n 2, 1, 0), (15, .ifCond .lt 13, 3, 28)], [(18, .iload 4, 2, 0), (20, .ifCond .lt 8, 3, 28), (23, .iload 5, 2, 0), (25, .ifCond .ge 9, 3, 34), (28, .aload_n 0, 1, 0), (29, .iconst 1, 1, 0), (30, .invokevirtual 85, 3, 0)], [(33, .ireturn, 1, 0), (34, .aload_n 0, 1, 0), (35, .getfield 24, 3, 0), (38, .iload_n 1, 1, 0), (39, .iaload, 1, 0), (40, .iconst (-1), 1, 0), (41, .if_icmp .eq 13, 3, 54), (44, .aload_n 0, 1, 0), (45, .getfield 24, 3, 0)], [(48, .iload_n 3, 1, 0), (49, .iaload, 1, 0), (50, .iconst (-1), 1, 0), (51, .if_icmp .ne 9, 3, 60), (54, .aload_n 0, 1, 0), (55, .iconst 2, 1, 0), (56, .invokevirtual 85, 3, 0), (59, .ireturn, 1, 0), (60, .aload_n 0, 1, 0), (61, .getfield 21, 3, 0)], [(64, .iload_n 1, 1, 0), (65, .iaload, 1, 0), (66, .aload_n 0, 1, 0), (67, .getfield 21, 3, 0), (70, .iload_n 3, 1, 0), (71, .iaload, 1, 0), (72, .if_icmp .eq 10, 3, 82), (75, .aload_n 0, 1, 0), (76, .bipush 8, 2, 0), (78, .invokevirtual 85, 3, 0)], [(81, .ireturn, 1, 0), (82, .iload 5, 2, 0), (84, .aload_n 0, 1, 0), (85, .getfield 24, 3, 0), (88, .iload_n 1, 1, 0), (89, .iaload, 1, 0), (90, .iload_n 2, 1, 0), (91, .isub, 1, 0), (92, .if_icmp .gt 17, 3, 109), (95, .iload 5, 2, 0)], [(97, .aload_n 0, 1, 0), (98, .getfield 24, 3, 0), (101, .iload_n 3, 1, 0), (102, .iaload, 1, 0), (103, .iload 4, 2, 0), (105, .isub, 1, 0), (106, .if_icmp .le 9, 3, 115), (109, .aload_n 0, 1, 0), (110, .iconst 3, 1, 0), (111, .invokevirtual 85, 3, 0)], [(114, .ireturn, 1, 0), (115, .iconst 0, 1, 0), (116, .istore 6, 2, 0), (118, .iload 6, 2, 0), (120, .iload 5, 2, 0), (122, .if_icmp .ge 58, 3, 180), (125, .iload_n 2, 1, 0), (126, .iload 4, 2, 0)], [(128, .if_icmp .ge 13, 3, 141), (131, .iload 5, 2, 0), (133, .iconst 1, 1, 0), (134, .isub, 1, 0), (135, .iload 6, 2, 0), (137, .isub, 1, 0), (138, .goto 5, 3, 143), (141, .iload 6, 2, 0), (143, .istore 7, 2, 0)], [(145, .aload_n 0, 1, 0), (146, .getfield 27, 3, 0), (149, .bipush 60, 2, 0), (151, .iload_n 3, 1, 0), (152, .imul, 1, 0), (153, .iload 4, 2, 0), (155, .iadd, 1, 0), (156, .iload 7, 2, 0), (158, .iadd, 1, 0), (159, .aload_n 0, 1, 0)], [(160, .getfield 27, 3, 0), (163, .bipush 60, 2, 0), (165, .iload_n 1, 1, 0), (166, .imul, 1, 0), (167, .iload_n 2, 1, 0), (168, .iadd, 1, 0), (169, .iload 7, 2, 0), (171, .iadd, 1, 0), (172, .laload, 1, 0), (173, .lastore, 1, 0), (174, .iinc 6 1, 3, 0)], [(177, .goto (-59), 3, 118), (180, .aload_n 0, 1, 0), (181, .iconst 0, 1, 0), (182, .invokevirtual 85, 3, 0), (185, .ireturn, 1, 0)]]
/-- X10_pour -/
def rw_198 : am_Row := (198, (10, 8, some (.boolean), 6, 1, 0, 0), ⟨"IslandCallModel", "pour", "(IIIII)Z"⟩, prog_12_method_17_code, cd_198)
def cd_199 : List (List (Nat × Instr × Nat × Nat)) := [[(0, .lload_n 0, 1, 0), (1, .lload_n 2, 1, 0), (2, .lcmp, 1, 0), (3, .ifCond .lt 14, 3, 17), (6, .lload_n 0, 1, 0), (7, .lload 4, 2, 0), (9, .lcmp, 1, 0), (10, .ifCond .gt 7, 3, 17), (13, .iconst 1, 1, 0), (14, .goto 4, 3, 18)], [(17, .iconst 0, 1, 0), (18, .ireturn, 1, 0)]]
/-- X10_isFrom -/
def rw_199 : am_Row := (199, (10, 6, some (.boolean), 3, 0, 0, 0), ⟨"IslandCallModel", "isFrom", "(JJJ)Z"⟩, prog_12_method_18_code, cd_199)
def cd_200 : List (List (Nat × Instr × Nat × Nat)) := [[(0, .aload_n 0, 1, 0), (1, .getfield 102, 3, 0), (4, .bipush 20, 2, 0), (6, .iadd, 1, 0), (7, .sipush 900, 3, 0), (10, .if_icmp .le 5, 3, 15), (13, .iconst (-1), 1, 0), (14, .ireturn, 1, 0), (15, .aload_n 0, 1, 0)], [(16, .iload_n 1, 1, 0), (17, .invokevirtual 105, 3, 0), (20, .aload_n 0, 1, 0), (21, .iload_n 2, 1, 0), (22, .invokevirtual 105, 3, 0), (25, .aload_n 0, 1, 0), (26, .iload_n 3, 1, 0), (27, .invokevirtual 105, 3, 0), (30, .aload_n 0, 1, 0), (31, .iload 4, 2, 0)], [(33, .invokevirtual 105, 3, 0), (36, .aload_n 0, 1, 0), (37, .iload 5, 2, 0), (39, .invokevirtual 105, 3, 0), (42, .aload_n 0, 1, 0), (43, .getfield 102, 3, 0), (46, .ireturn, 1, 0)]]
/-- X10_feed -/
def rw_200 : am_Row := (200, (10, 6, some (.int), 6, 1, 0, 0), ⟨"IslandCallModel", "feed", "(IIIII)I"⟩, prog_12_method_19_code, cd_200)
def cd_201 : List (List (Nat × Instr × Nat × Nat)) := [[(0, .bipush 24, 2, 0), (2, .istore_n 2, 1, 0), (3, .iload_n 2, 1, 0), (4, .ifCond .lt 32, 3, 36), (7, .aload_n 0, 1, 0), (8, .getfield 30, 3, 0), (11, .aload_n 0, 1, 0), (12, .getfield 102, 3, 0), (15, .iload_n 1, 1, 0)], [(16, .iload_n 2, 1, 0), (17, .ishr, 1, 0), (18, .i2b, 1, 0), (19, .bastore, 1, 0), (20, .aload_n 0, 1, 0), (21, .dup, 1, 0), (22, .getfield 102, 3, 0), (25, .iconst 1, 1, 0), (26, .iadd, 1, 0), (27, .putfield 102, 3, 0), (30, .iinc 2 (-8), 3, 0)], [(33, .goto (-30), 3, 3), (36, .return_, 1, 0)]]
/-- X10_four -/
def rw_201 : am_Row := (201, (10, 3, none, 2, 1, 0, 0), ⟨"IslandCallModel", "four", "(I)V"⟩, prog_12_method_20_code, cd_201)
def cd_202 : List (List (Nat × Instr × Nat × Nat)) := [[(0, .iload_n 1, 1, 0), (1, .aload_n 0, 1, 0), (2, .getfield 108, 3, 0), (5, .if_icmp .ge 16, 3, 21), (8, .aload_n 0, 1, 0), (9, .getfield 34, 3, 0), (12, .iload_n 1, 1, 0), (13, .baload, 1, 0), (14, .sipush 255, 3, 0)], [(17, .iand, 1, 0), (18, .goto 4, 3, 22), (21, .iconst (-1), 1, 0), (22, .ireturn, 1, 0)]]
/-- X10_byteAt -/
def rw_202 : am_Row := (202, (10, 2, some (.int), 2, 1, 0, 0), ⟨"IslandCallModel", "byteAt", "(I)I"⟩, prog_12_method_21_code, cd_202)
def cd_203 : List (List (Nat × Instr × Nat × Nat)) := [[(0, .iload_n 0, 1, 0), (1, .bipush 97, 2, 0), (3, .if_icmp .lt 13, 3, 16), (6, .iload_n 0, 1, 0), (7, .bipush 122, 2, 0), (9, .if_icmp .gt 7, 3, 16), (12, .iconst 1, 1, 0), (13, .goto 4, 3, 17)], [(16, .iconst 0, 1, 0), (17, .ireturn, 1, 0)]]
/-- X10_isSmall -/
def rw_203 : am_Row := (203, (10, 1, some (.boolean), 1, 0, 0, 0), ⟨"IslandCallModel", "isSmall", "(I)Z"⟩, prog_12_method_22_code, cd_203)
def cd_204 : List (List (Nat × Instr × Nat × Nat)) := [[(0, .iload_n 0, 1, 0), (1, .bipush 48, 2, 0), (3, .if_icmp .lt 13, 3, 16), (6, .iload_n 0, 1, 0), (7, .bipush 57, 2, 0), (9, .if_icmp .gt 7, 3, 16), (12, .iconst 1, 1, 0), (13, .goto 4, 3, 17)], [(16, .iconst 0, 1, 0), (17, .ireturn, 1, 0)]]
/-- X10_isDigit -/
def rw_204 : am_Row := (204, (10, 1, some (.boolean), 1, 0, 0, 0), ⟨"IslandCallModel", "isDigit", "(I)Z"⟩, prog_12_method_23_code, cd_204)
def cd_205 : List (List (Nat × Instr × Nat × Nat)) := [[(0, .aload_n 0, 1, 0), (1, .aload_n 0, 1, 0), (2, .getfield 111, 3, 0), (5, .invokevirtual 114, 3, 0), (8, .bipush 32, 2, 0), (10, .if_icmp .eq 16, 3, 26), (13, .aload_n 0, 1, 0), (14, .aload_n 0, 1, 0), (15, .getfield 111, 3, 0)], [(18, .invokevirtual 114, 3, 0), (21, .bipush 10, 2, 0), (23, .if_icmp .ne 16, 3, 39), (26, .aload_n 0, 1, 0), (27, .dup, 1, 0), (28, .getfield 111, 3, 0), (31, .iconst 1, 1, 0)], [(32, .iadd, 1, 0), (33, .putfield 111, 3, 0), (36, .goto (-36), 3, 0), (39, .aload_n 0, 1, 0), (40, .aload_n 0, 1, 0), (41, .getfield 111, 3, 0), (44, .putfield 117, 3, 0), (47, .aload_n 0, 1, 0)], [(48, .aload_n 0, 1, 0), (49, .getfield 111, 3, 0), (52, .invokevirtual 114, 3, 0), (55, .istore_n 1, 1, 0), (56, .aload_n 0, 1, 0), (57, .iload_n 1, 1, 0), (58, .putfield 120, 3, 0), (61, .iload_n 1, 1, 0), (62, .iconst (-1), 1, 0), (63, .if_icmp .ne 11, 3, 74)], [(66, .aload_n 0, 1, 0), (67, .iconst 0, 1, 0), (68, .putfield 123, 3, 0), (71, .goto 180, 3, 251), (74, .iload_n 1, 1, 0), (75, .invokestatic 126, 3, 0), (78, .ifCond .eq 38, 3, 116)], [(81, .aload_n 0, 1, 0), (82, .aload_n 0, 1, 0), (83, .getfield 111, 3, 0), (86, .invokevirtual 114, 3, 0), (89, .invokestatic 126, 3, 0), (92, .ifCond .eq 16, 3, 108), (95, .aload_n 0, 1, 0)], [(96, .dup, 1, 0), (97, .getfield 111, 3, 0), (100, .iconst 1, 1, 0), (101, .iadd, 1, 0), (102, .putfield 111, 3, 0), (105, .goto (-24), 3, 81), (108, .aload_n 0, 1, 0), (109, .iconst 2, 1, 0), (110, .putfield 123, 3, 0)], [(113, .goto 138, 3, 251), (116, .iload_n 1, 1, 0), (117, .invokestatic 129, 3, 0), (120, .ifCond .eq 88, 3, 208), (123, .aload_n 0, 1, 0), (124, .iconst 0, 1, 0), (125, .putfield 120, 3, 0)], [(128, .aload_n 0, 1, 0), (129, .aload_n 0, 1, 0), (130, .getfield 111, 3, 0), (133, .invokevirtual 114, 3, 0), (136, .invokestatic 129, 3, 0), (139, .ifCond .eq 44, 3, 183), (142, .aload_n 0, 1, 0), (143, .ldc 132, 2, 0)], [(145, .bipush 10, 2, 0), (147, .aload_n 0, 1, 0), (148, .getfield 120, 3, 0), (151, .imul, 1, 0), (152, .aload_n 0, 1, 0), (153, .aload_n 0, 1, 0), (154, .getfield 111, 3, 0), (157, .invokevirtual 114, 3, 0)], [(160, .iadd, 1, 0), (161, .bipush 48, 2, 0), (163, .isub, 1, 0), (164, .invokestatic 133, 3, 0), (167, .putfield 120, 3, 0), (170, .aload_n 0, 1, 0), (171, .dup, 1, 0), (172, .getfield 111, 3, 0), (175, .iconst 1, 1, 0)], [(176, .iadd, 1, 0), (177, .putfield 111, 3, 0), (180, .goto (-52), 3, 128), (183, .aload_n 0, 1, 0), (184, .aload_n 0, 1, 0), (185, .getfield 111, 3, 0), (188, .aload_n 0, 1, 0), (189, .getfield 117, 3, 0)], [(192, .isub, 1, 0), (193, .iconst 4, 1, 0), (194, .if_icmp .le 7, 3, 201), (197, .iconst 1, 1, 0), (198, .goto 4, 3, 202), (201, .iconst 3, 1, 0), (202, .putfield 123, 3, 0), (205, .goto 46, 3, 251)], [(208, .aload_n 0, 1, 0), (209, .dup, 1, 0), (210, .getfield 111, 3, 0), (213, .iconst 1, 1, 0), (214, .iadd, 1, 0), (215, .putfield 111, 3, 0), (218, .aload_n 0, 1, 0), (219, .iload_n 1, 1, 0), (220, .bipush 59, 2, 0), (222, .if_icmp .eq 21, 3, 243)], [(225, .iload_n 1, 1, 0), (226, .bipush 60, 2, 0), (228, .if_icmp .eq 15, 3, 243), (231, .iload_n 1, 1, 0), (232, .bipush 62, 2, 0), (234, .if_icmp .eq 9, 3, 243), (237, .iload_n 1, 1, 0), (238, .bipush 61, 2, 0)], [(240, .if_icmp .ne 7, 3, 247), (243, .iconst 4, 1, 0), (244, .goto 4, 3, 248), (247, .iconst 1, 1, 0), (248, .putfield 123, 3, 0), (251, .return_, 1, 0)]]
/-- X10_ahead -/
def rw_205 : am_Row := (205, (10, 2, none, 1, 1, 0, 0), ⟨"IslandCallModel", "ahead", "()V"⟩, prog_12_method_24_code, cd_205)
def cd_206 : List (List (Nat × Instr × Nat × Nat)) := [[(0, .aload_n 0, 1, 0), (1, .getfield 123, 3, 0), (4, .iconst 4, 1, 0), (5, .if_icmp .ne 15, 3, 20), (8, .aload_n 0, 1, 0), (9, .getfield 120, 3, 0), (12, .iload_n 1, 1, 0), (13, .if_icmp .ne 7, 3, 20)], [(16, .iconst 1, 1, 0), (17, .goto 4, 3, 21), (20, .iconst 0, 1, 0), (21, .ireturn, 1, 0)]]
/-- X10_isSign -/
def rw_206 : am_Row := (206, (10, 2, some (.boolean), 2, 1, 0, 0), ⟨"IslandCallModel", "isSign", "(I)Z"⟩, prog_12_method_25_code, cd_206)
def cd_207 : List (List (Nat × Instr × Nat × Nat)) := [[(0, .aload_n 0, 1, 0), (1, .getfield 123, 3, 0), (4, .iconst 2, 1, 0), (5, .if_icmp .eq 5, 3, 10), (8, .iconst (-1), 1, 0), (9, .ireturn, 1, 0), (10, .iconst 0, 1, 0), (11, .istore_n 2, 1, 0), (12, .iconst 1, 1, 0), (13, .istore_n 3, 1, 0), (14, .iload_n 3, 1, 0), (15, .aload_n 1, 1, 0)], [(16, .invokevirtual 138, 3, 0), (19, .if_icmp .ge 114, 3, 133), (22, .iload_n 3, 1, 0), (23, .istore 4, 2, 0), (25, .aload_n 1, 1, 0), (26, .iload 4, 2, 0), (28, .invokevirtual 144, 3, 0), (31, .bipush 32, 2, 0)], [(33, .if_icmp .eq 9, 3, 42), (36, .iinc 4 1, 3, 0), (39, .goto (-14), 3, 25), (42, .iload 4, 2, 0), (44, .iload_n 3, 1, 0), (45, .isub, 1, 0), (46, .aload_n 0, 1, 0), (47, .getfield 111, 3, 0)], [(50, .aload_n 0, 1, 0), (51, .getfield 117, 3, 0), (54, .isub, 1, 0), (55, .if_icmp .ne 7, 3, 62), (58, .iconst 1, 1, 0), (59, .goto 4, 3, 63), (62, .iconst 0, 1, 0), (63, .istore 5, 2, 0)], [(65, .iload_n 3, 1, 0), (66, .istore 6, 2, 0), (68, .iload 6, 2, 0), (70, .iload 4, 2, 0), (72, .if_icmp .ge 43, 3, 115), (75, .iload 5, 2, 0), (77, .ifCond .eq 38, 3, 115)], [(80, .aload_n 1, 1, 0), (81, .iload 6, 2, 0), (83, .invokevirtual 144, 3, 0), (86, .aload_n 0, 1, 0), (87, .aload_n 0, 1, 0), (88, .getfield 117, 3, 0), (91, .iload 6, 2, 0), (93, .iadd, 1, 0), (94, .iload_n 3, 1, 0), (95, .isub, 1, 0)], [(96, .invokevirtual 114, 3, 0), (99, .if_icmp .ne 7, 3, 106), (102, .iconst 1, 1, 0), (103, .goto 4, 3, 107), (106, .iconst 0, 1, 0), (107, .istore 5, 2, 0), (109, .iinc 6 1, 3, 0)], [(112, .goto (-44), 3, 68), (115, .iload 5, 2, 0), (117, .ifCond .eq 5, 3, 122), (120, .iload_n 2, 1, 0), (121, .ireturn, 1, 0), (122, .iinc 2 1, 3, 0), (125, .iload 4, 2, 0), (127, .iconst 1, 1, 0)], [(128, .iadd, 1, 0), (129, .istore_n 3, 1, 0), (130, .goto (-116), 3, 14), (133, .iconst (-1), 1, 0), (134, .ireturn, 1, 0)]]
/-- X10_inWords -/
def rw_207 : am_Row := (207, (10, 7, some (.int), 2, 1, 0, 0), ⟨"IslandCallModel", "inWords", "(Ljava/lang/String;)I"⟩, prog_12_method_26_code, cd_207)
def cd_208 : List (List (Nat × Instr × Nat × Nat)) := [[(0, .aload_n 0, 1, 0), (1, .getfield 148, 3, 0), (4, .ifCond .ne 28, 3, 32), (7, .aload_n 0, 1, 0), (8, .aload_n 0, 1, 0), (9, .getfield 123, 3, 0), (12, .iconst 1, 1, 0), (13, .if_icmp .ne 7, 3, 20)], [(16, .iconst 1, 1, 0), (17, .goto 4, 3, 21), (20, .iload_n 1, 1, 0), (21, .putfield 148, 3, 0), (24, .aload_n 0, 1, 0), (25, .aload_n 0, 1, 0), (26, .getfield 117, 3, 0), (29, .putfield 41, 3, 0)], [(32, .iconst 0, 1, 0), (33, .ireturn, 1, 0)]]
/-- X10_fails -/
def rw_208 : am_Row := (208, (10, 2, some (.boolean), 2, 1, 0, 0), ⟨"IslandCallModel", "fails", "(I)Z"⟩, prog_12_method_27_code, cd_208)
def cd_209 : List (List (Nat × Instr × Nat × Nat)) := [[(0, .iload_n 1, 1, 0), (1, .ifCond .lt 16, 3, 17), (4, .iload_n 1, 1, 0), (5, .aload_n 0, 1, 0), (6, .getfield 102, 3, 0), (9, .if_icmp .gt 8, 3, 17), (12, .iload_n 1, 1, 0), (13, .iload_n 2, 1, 0), (14, .if_icmp .le 5, 3, 19)], [(17, .iconst 0, 1, 0), (18, .ireturn, 1, 0), (19, .aload_n 0, 1, 0), (20, .iload_n 1, 1, 0), (21, .putfield 108, 3, 0), (24, .iconst 0, 1, 0), (25, .istore_n 3, 1, 0), (26, .iload_n 3, 1, 0), (27, .iload_n 1, 1, 0), (28, .if_icmp .ge 21, 3, 49), (31, .aload_n 0, 1, 0)], [(32, .getfield 34, 3, 0), (35, .iload_n 3, 1, 0), (36, .aload_n 0, 1, 0), (37, .getfield 30, 3, 0), (40, .iload_n 3, 1, 0), (41, .baload, 1, 0), (42, .bastore, 1, 0), (43, .iinc 3 1, 3, 0), (46, .goto (-20), 3, 26)], [(49, .aload_n 0, 1, 0), (50, .iconst 0, 1, 0), (51, .putfield 102, 3, 0), (54, .aload_n 0, 1, 0), (55, .iconst 0, 1, 0), (56, .putfield 148, 3, 0), (59, .aload_n 0, 1, 0), (60, .iconst (-1), 1, 0), (61, .putfield 41, 3, 0)], [(64, .aload_n 0, 1, 0), (65, .iconst 0, 1, 0), (66, .putfield 111, 3, 0), (69, .aload_n 0, 1, 0), (70, .iconst 0, 1, 0), (71, .putfield 151, 3, 0), (74, .aload_n 0, 1, 0), (75, .invokevirtual 154, 3, 0), (78, .iconst 1, 1, 0), (79, .ireturn, 1, 0)]]
/-- X10_begins -/
def rw_209 : am_Row := (209, (10, 4, some (.boolean), 3, 1, 0, 0), ⟨"IslandCallModel", "begins", "(II)Z"⟩, prog_12_method_28_code, cd_209)
def cd_210 : List (List (Nat × Instr × Nat × Nat)) := [[(0, .aload_n 0, 1, 0), (1, .iload_n 1, 1, 0), (2, .invokevirtual 157, 3, 0), (5, .ifCond .ne 9, 3, 14), (8, .aload_n 0, 1, 0), (9, .iconst 2, 1, 0), (10, .invokevirtual 160, 3, 0), (13, .ireturn, 1, 0), (14, .aload_n 0, 1, 0), (15, .invokevirtual 154, 3, 0)], [(18, .iconst 1, 1, 0), (19, .ireturn, 1, 0)]]
/-- X10_wantSign -/
def rw_210 : am_Row := (210, (10, 2, some (.boolean), 2, 1, 0, 0), ⟨"IslandCallModel", "wantSign", "(I)Z"⟩, prog_12_method_29_code, cd_210)
def cd_211 : List (List (Nat × Instr × Nat × Nat)) := [[(0, .aload_n 0, 1, 0), (1, .aload_n 1, 1, 0), (2, .invokevirtual 163, 3, 0), (5, .iload_n 2, 1, 0), (6, .if_icmp .eq 9, 3, 15), (9, .aload_n 0, 1, 0), (10, .iconst 2, 1, 0), (11, .invokevirtual 160, 3, 0), (14, .ireturn, 1, 0), (15, .aload_n 0, 1, 0)], [(16, .invokevirtual 154, 3, 0), (19, .iconst 1, 1, 0), (20, .ireturn, 1, 0)]]
/-- X10_wantWord -/
def rw_211 : am_Row := (211, (10, 3, some (.boolean), 3, 1, 0, 0), ⟨"IslandCallModel", "wantWord", "(Ljava/lang/String;I)Z"⟩, prog_12_method_30_code, cd_211)
def cd_212 : List (List (Nat × Instr × Nat × Nat)) := [[(0, .aload_n 0, 1, 0), (1, .getfield 123, 3, 0), (4, .iconst 3, 1, 0), (5, .if_icmp .eq 9, 3, 14), (8, .aload_n 0, 1, 0), (9, .iconst 2, 1, 0), (10, .invokevirtual 160, 3, 0), (13, .ireturn, 1, 0), (14, .aload_n 0, 1, 0), (15, .getfield 120, 3, 0)], [(18, .iload_n 2, 1, 0), (19, .if_icmp .lt 11, 3, 30), (22, .aload_n 0, 1, 0), (23, .getfield 120, 3, 0), (26, .iload_n 3, 1, 0), (27, .if_icmp .le 9, 3, 36), (30, .aload_n 0, 1, 0), (31, .iconst 4, 1, 0)], [(32, .invokevirtual 160, 3, 0), (35, .ireturn, 1, 0), (36, .aload_n 0, 1, 0), (37, .getfield 7, 3, 0), (40, .iload_n 1, 1, 0), (41, .aload_n 0, 1, 0), (42, .getfield 120, 3, 0), (45, .iastore, 1, 0), (46, .aload_n 0, 1, 0), (47, .invokevirtual 154, 3, 0)], [(50, .iconst 1, 1, 0), (51, .ireturn, 1, 0)]]
/-- X10_number -/
def rw_212 : am_Row := (212, (10, 4, some (.boolean), 4, 1, 0, 0), ⟨"IslandCallModel", "number", "(III)Z"⟩, prog_12_method_31_code, cd_212)
def cd_213 : List (List (Nat × Instr × Nat × Nat)) := [[(0, .aload_n 0, 1, 0), (1, .getfield 123, 3, 0), (4, .iconst 2, 1, 0), (5, .if_icmp .ne 30, 3, 35), (8, .aload_n 0, 1, 0), (9, .getfield 111, 3, 0), (12, .aload_n 0, 1, 0), (13, .getfield 117, 3, 0)], [(16, .isub, 1, 0), (17, .bipush 8, 2, 0), (19, .if_icmp .gt 16, 3, 35), (22, .aload_n 0, 1, 0), (23, .aload_n 1, 1, 0), (24, .invokevirtual 163, 3, 0), (27, .iconst (-1), 1, 0), (28, .if_icmp .ne 7, 3, 35), (31, .iconst 1, 1, 0)], [(32, .goto 4, 3, 36), (35, .iconst 0, 1, 0), (36, .ireturn, 1, 0)]]
/-- X10_isName -/
def rw_213 : am_Row := (213, (10, 2, some (.boolean), 2, 1, 0, 0), ⟨"IslandCallModel", "isName", "(Ljava/lang/String;)Z"⟩, prog_12_method_32_code, cd_213)
def cd_214 : List (List (Nat × Instr × Nat × Nat)) := [[(0, .lconst 0, 1, 0), (1, .lstore_n 1, 1, 0), (2, .aload_n 0, 1, 0), (3, .getfield 117, 3, 0), (6, .istore_n 3, 1, 0), (7, .iload_n 3, 1, 0), (8, .aload_n 0, 1, 0), (9, .getfield 111, 3, 0), (12, .if_icmp .ge 21, 3, 33), (15, .lload_n 1, 1, 0)], [(16, .bipush 8, 2, 0), (18, .lshl, 1, 0), (19, .aload_n 0, 1, 0), (20, .iload_n 3, 1, 0), (21, .invokevirtual 114, 3, 0), (24, .i2l, 1, 0), (25, .lor, 1, 0), (26, .lstore_n 1, 1, 0), (27, .iinc 3 1, 3, 0), (30, .goto (-23), 3, 7)], [(33, .lload_n 1, 1, 0), (34, .lreturn, 1, 0)]]
/-- X10_nameHere -/
def rw_214 : am_Row := (214, (10, 4, some (.long), 1, 1, 0, 0), ⟨"IslandCallModel", "nameHere", "()J"⟩, prog_12_method_33_code, cd_214)
def cd_215 : List (List (Nat × Instr × Nat × Nat)) := [[(0, .iconst 0, 1, 0), (1, .istore_n 3, 1, 0), (2, .iload_n 3, 1, 0), (3, .iload_n 2, 1, 0), (4, .if_icmp .ge 27, 3, 31), (7, .aload_n 0, 1, 0), (8, .getfield 13, 3, 0), (11, .iload_n 1, 1, 0), (12, .iload_n 3, 1, 0), (13, .iadd, 1, 0), (14, .laload, 1, 0), (15, .aload_n 0, 1, 0)], [(16, .invokevirtual 167, 3, 0), (19, .lcmp, 1, 0), (20, .ifCond .ne 5, 3, 25), (23, .iload_n 3, 1, 0), (24, .ireturn, 1, 0), (25, .iinc 3 1, 3, 0), (28, .goto (-26), 3, 2), (31, .iconst (-1), 1, 0)], [(32, .ireturn, 1, 0)]]
/-- X10_findHere -/
def rw_215 : am_Row := (215, (10, 4, some (.int), 3, 1, 0, 0), ⟨"IslandCallModel", "findHere", "(II)I"⟩, prog_12_method_34_code, cd_215)
def cd_216 : List (List (Nat × Instr × Nat × Nat)) := [[(0, .iload_n 1, 1, 0), (1, .ifCond .ne 10, 3, 11), (4, .aload_n 0, 1, 0), (5, .getfield 37, 3, 0), (8, .goto 16, 3, 24), (11, .iload_n 1, 1, 0), (12, .iconst 1, 1, 0), (13, .if_icmp .ne 10, 3, 23)], [(16, .aload_n 0, 1, 0), (17, .getfield 41, 3, 0), (20, .goto 4, 3, 24), (23, .iconst (-1), 1, 0), (24, .ireturn, 1, 0)]]
/-- X10_fault -/
def rw_216 : am_Row := (216, (10, 2, some (.int), 2, 1, 0, 0), ⟨"IslandCallModel", "fault", "(I)I"⟩, prog_12_method_35_code, cd_216)
def cd_217 : List (List (Nat × Instr × Nat × Nat)) := [[(0, .aload_n 0, 1, 0), (1, .aload_n 0, 1, 0), (2, .getfield 148, 3, 0), (5, .putfield 37, 3, 0), (8, .aload_n 0, 1, 0), (9, .getfield 148, 3, 0), (12, .ifCond .le 12, 3, 24), (15, .aload_n 0, 1, 0)], [(16, .bipush 9, 2, 0), (18, .invokevirtual 78, 3, 0), (21, .goto 8, 3, 29), (24, .aload_n 0, 1, 0), (25, .iload_n 1, 1, 0), (26, .invokevirtual 82, 3, 0), (29, .ireturn, 1, 0)]]
/-- X10_taken -/
def rw_217 : am_Row := (217, (10, 2, some (.int), 2, 1, 0, 0), ⟨"IslandCallModel", "taken", "(I)I"⟩, prog_12_method_36_code, cd_217)
def cd_218 : List (List (Nat × Instr × Nat × Nat)) := [[(0, .bipush 16, 2, 0), (2, .iconst 4, 1, 0), (3, .iload_n 0, 1, 0), (4, .imul, 1, 0), (5, .iadd, 1, 0), (6, .ireturn, 1, 0)]]
/-- X10_personRow -/
def rw_218 : am_Row := (218, (10, 1, some (.int), 1, 0, 0, 0), ⟨"IslandCallModel", "personRow", "(I)I"⟩, prog_12_method_37_code, cd_218)
def cd_219 : List (List (Nat × Instr × Nat × Nat)) := [[(0, .aload_n 0, 1, 0), (1, .ldc 171, 2, 0), (3, .invokevirtual 163, 3, 0), (6, .iload_n 1, 1, 0), (7, .if_icmp .eq 5, 3, 12), (10, .iconst 0, 1, 0), (11, .ireturn, 1, 0), (12, .aload_n 0, 1, 0), (13, .invokevirtual 154, 3, 0)], [(16, .iconst 1, 1, 0), (17, .ireturn, 1, 0)]]
/-- X10_isThere -/
def rw_219 : am_Row := (219, (10, 2, some (.boolean), 2, 1, 0, 0), ⟨"IslandCallModel", "isThere", "(I)Z"⟩, prog_12_method_38_code, cd_219)
def cd_220 : List (List (Nat × Instr × Nat × Nat)) := [[(0, .aload_n 0, 1, 0), (1, .getfield 7, 3, 0), (4, .sipush 1664, 3, 0), (7, .iload_n 1, 1, 0), (8, .iadd, 1, 0), (9, .iaload, 1, 0), (10, .iload_n 2, 1, 0), (11, .if_icmp .ne 10, 3, 21), (14, .aload_n 0, 1, 0), (15, .bipush 6, 2, 0)], [(17, .invokevirtual 160, 3, 0), (20, .ireturn, 1, 0), (21, .aload_n 0, 1, 0), (22, .invokevirtual 154, 3, 0), (25, .aload_n 0, 1, 0), (26, .ldc 171, 2, 0), (28, .invokevirtual 173, 3, 0), (31, .ifCond .ne 9, 3, 40)], [(34, .aload_n 0, 1, 0), (35, .iconst 2, 1, 0), (36, .invokevirtual 160, 3, 0), (39, .ireturn, 1, 0), (40, .aload_n 0, 1, 0), (41, .bipush 56, 2, 0), (43, .aload_n 0, 1, 0), (44, .getfield 7, 3, 0), (47, .sipush 1664, 3, 0)], [(50, .iaload, 1, 0), (51, .invokevirtual 177, 3, 0), (54, .iconst (-1), 1, 0), (55, .if_icmp .ne 21, 3, 76), (58, .aload_n 0, 1, 0), (59, .bipush 62, 2, 0), (61, .aload_n 0, 1, 0), (62, .getfield 7, 3, 0)], [(65, .sipush 1665, 3, 0), (68, .iaload, 1, 0), (69, .invokevirtual 177, 3, 0), (72, .iconst (-1), 1, 0), (73, .if_icmp .eq 9, 3, 82), (76, .aload_n 0, 1, 0), (77, .iconst 3, 1, 0), (78, .invokevirtual 160, 3, 0)], [(81, .ireturn, 1, 0), (82, .aload_n 0, 1, 0), (83, .getfield 13, 3, 0), (86, .bipush 56, 2, 0), (88, .iload_n 3, 1, 0), (89, .iadd, 1, 0), (90, .aload_n 0, 1, 0), (91, .getfield 7, 3, 0), (94, .sipush 1664, 3, 0)], [(97, .iload_n 1, 1, 0), (98, .iadd, 1, 0), (99, .iaload, 1, 0), (100, .iadd, 1, 0), (101, .aload_n 0, 1, 0), (102, .invokevirtual 167, 3, 0), (105, .lastore, 1, 0), (106, .aload_n 0, 1, 0), (107, .invokevirtual 154, 3, 0), (110, .iconst 1, 1, 0), (111, .ireturn, 1, 0)]]
/-- X10_newOne -/
def rw_220 : am_Row := (220, (10, 4, some (.boolean), 4, 1, 0, 0), ⟨"IslandCallModel", "newOne", "(III)Z"⟩, prog_12_method_39_code, cd_220)
def cd_221 : List (List (Nat × Instr × Nat × Nat)) := [[(0, .aload_n 0, 1, 0), (1, .ldc 171, 2, 0), (3, .invokevirtual 173, 3, 0), (6, .ifCond .ne 9, 3, 15), (9, .aload_n 0, 1, 0), (10, .iconst 2, 1, 0), (11, .invokevirtual 160, 3, 0), (14, .ireturn, 1, 0), (15, .aload_n 0, 1, 0)], [(16, .getfield 7, 3, 0), (19, .iload_n 3, 1, 0), (20, .aload_n 0, 1, 0), (21, .iload_n 1, 1, 0), (22, .iload_n 2, 1, 0), (23, .invokevirtual 177, 3, 0), (26, .iastore, 1, 0), (27, .aload_n 0, 1, 0), (28, .getfield 7, 3, 0), (31, .iload_n 3, 1, 0)], [(32, .iaload, 1, 0), (33, .iconst (-1), 1, 0), (34, .if_icmp .ne 9, 3, 43), (37, .aload_n 0, 1, 0), (38, .iconst 3, 1, 0), (39, .invokevirtual 160, 3, 0), (42, .ireturn, 1, 0), (43, .aload_n 0, 1, 0), (44, .invokevirtual 154, 3, 0), (47, .iconst 1, 1, 0)], [(48, .ireturn, 1, 0)]]
/-- X10_oldOne -/
def rw_221 : am_Row := (221, (10, 4, some (.boolean), 4, 1, 0, 0), ⟨"IslandCallModel", "oldOne", "(III)Z"⟩, prog_12_method_40_code, cd_221)
def cd_222 : List (List (Nat × Instr × Nat × Nat)) := [[(0, .aload_n 0, 1, 0), (1, .getfield 7, 3, 0), (4, .sipush 1664, 3, 0), (7, .iaload, 1, 0), (8, .istore_n 1, 1, 0), (9, .aload_n 0, 1, 0), (10, .iconst 0, 1, 0), (11, .bipush 6, 2, 0), (13, .iconst 0, 1, 0), (14, .invokevirtual 180, 3, 0)], [(17, .ifCond .eq 28, 3, 45), (20, .aload_n 0, 1, 0), (21, .ldc 171, 2, 0), (23, .bipush 6, 2, 0), (25, .invokevirtual 184, 3, 0), (28, .ifCond .eq 17, 3, 45), (31, .aload_n 0, 1, 0)], [(32, .sipush 1674, 3, 0), (35, .iload_n 1, 1, 0), (36, .iadd, 1, 0), (37, .iconst 1, 1, 0), (38, .iconst 5, 1, 0), (39, .invokevirtual 188, 3, 0), (42, .ifCond .ne 5, 3, 47), (45, .iconst 0, 1, 0), (46, .ireturn, 1, 0), (47, .aload_n 0, 1, 0)], [(48, .getfield 7, 3, 0), (51, .sipush 1670, 3, 0), (54, .dup2, 1, 0), (55, .iaload, 1, 0), (56, .aload_n 0, 1, 0), (57, .bipush 7, 2, 0), (59, .invokevirtual 191, 3, 0), (62, .ifCond .eq 9, 3, 71)], [(65, .iconst 1, 1, 0), (66, .iload_n 1, 1, 0), (67, .ishl, 1, 0), (68, .goto 4, 3, 72), (71, .iconst 0, 1, 0), (72, .ior, 1, 0), (73, .iastore, 1, 0), (74, .aload_n 0, 1, 0), (75, .getfield 7, 3, 0), (78, .sipush 1664, 3, 0)], [(81, .dup2, 1, 0), (82, .iaload, 1, 0), (83, .iconst 1, 1, 0), (84, .iadd, 1, 0), (85, .iastore, 1, 0), (86, .iconst 1, 1, 0), (87, .ireturn, 1, 0)]]
/-- X10_anOmen -/
def rw_222 : am_Row := (222, (10, 2, some (.boolean), 1, 1, 0, 0), ⟨"IslandCallModel", "anOmen", "()Z"⟩, prog_12_method_41_code, cd_222)
def cd_223 : List (List (Nat × Instr × Nat × Nat)) := [[(0, .iconst 0, 1, 0), (1, .istore_n 2, 1, 0), (2, .aload_n 0, 1, 0), (3, .ldc 171, 2, 0), (5, .invokevirtual 173, 3, 0), (8, .ifCond .eq 57, 3, 65), (11, .aload_n 0, 1, 0), (12, .bipush 56, 2, 0), (14, .aload_n 0, 1, 0), (15, .getfield 7, 3, 0)], [(18, .sipush 1664, 3, 0), (21, .iaload, 1, 0), (22, .invokevirtual 177, 3, 0), (25, .istore_n 3, 1, 0), (26, .iload_n 3, 1, 0), (27, .iconst (-1), 1, 0), (28, .if_icmp .ne 9, 3, 37), (31, .aload_n 0, 1, 0)], [(32, .iconst 3, 1, 0), (33, .invokevirtual 160, 3, 0), (36, .ireturn, 1, 0), (37, .iload_n 2, 1, 0), (38, .iload_n 3, 1, 0), (39, .ishr, 1, 0), (40, .iconst 1, 1, 0), (41, .iand, 1, 0), (42, .iconst 1, 1, 0), (43, .if_icmp .ne 9, 3, 52), (46, .aload_n 0, 1, 0), (47, .iconst 5, 1, 0)], [(48, .invokevirtual 160, 3, 0), (51, .ireturn, 1, 0), (52, .iload_n 2, 1, 0), (53, .iconst 1, 1, 0), (54, .iload_n 3, 1, 0), (55, .ishl, 1, 0), (56, .ior, 1, 0), (57, .istore_n 2, 1, 0), (58, .aload_n 0, 1, 0), (59, .invokevirtual 154, 3, 0), (62, .goto (-60), 3, 2)], [(65, .aload_n 0, 1, 0), (66, .getfield 7, 3, 0), (69, .iload_n 1, 1, 0), (70, .iload_n 2, 1, 0), (71, .iastore, 1, 0), (72, .iconst 1, 1, 0), (73, .ireturn, 1, 0)]]
/-- X10_excuses -/
def rw_223 : am_Row := (223, (10, 4, some (.boolean), 2, 1, 0, 0), ⟨"IslandCallModel", "excuses", "(I)Z"⟩, prog_12_method_42_code, cd_223)
def cd_224 : List (List (Nat × Instr × Nat × Nat)) := [[(0, .aload_n 0, 1, 0), (1, .getfield 7, 3, 0), (4, .sipush 1665, 3, 0), (7, .iaload, 1, 0), (8, .istore_n 1, 1, 0), (9, .sipush 1664, 3, 0), (12, .iload_n 1, 1, 0), (13, .invokestatic 194, 3, 0)], [(16, .iadd, 1, 0), (17, .istore_n 2, 1, 0), (18, .aload_n 0, 1, 0), (19, .iconst 1, 1, 0), (20, .bipush 8, 2, 0), (22, .bipush 6, 2, 0), (24, .invokevirtual 180, 3, 0), (27, .ifCond .eq 25, 3, 52), (30, .aload_n 0, 1, 0), (31, .ldc 171, 2, 0)], [(33, .bipush 8, 2, 0), (35, .invokevirtual 184, 3, 0), (38, .ifCond .eq 14, 3, 52), (41, .aload_n 0, 1, 0), (42, .iload_n 2, 1, 0), (43, .iconst 0, 1, 0), (44, .bipush 9, 2, 0), (46, .invokevirtual 188, 3, 0)], [(49, .ifCond .ne 5, 3, 54), (52, .iconst 0, 1, 0), (53, .ireturn, 1, 0), (54, .aload_n 0, 1, 0), (55, .getfield 7, 3, 0), (58, .sipush 1671, 3, 0), (61, .dup2, 1, 0), (62, .iaload, 1, 0), (63, .aload_n 0, 1, 0)], [(64, .bipush 9, 2, 0), (66, .invokevirtual 191, 3, 0), (69, .ifCond .eq 9, 3, 78), (72, .iconst 1, 1, 0), (73, .iload_n 1, 1, 0), (74, .ishl, 1, 0), (75, .goto 4, 3, 79), (78, .iconst 0, 1, 0), (79, .ior, 1, 0)], [(80, .iastore, 1, 0), (81, .aload_n 0, 1, 0), (82, .bipush 10, 2, 0), (84, .invokevirtual 191, 3, 0), (87, .ifCond .eq 15, 3, 102), (90, .aload_n 0, 1, 0), (91, .iload_n 2, 1, 0), (92, .iconst 2, 1, 0), (93, .iadd, 1, 0), (94, .invokevirtual 197, 3, 0)], [(97, .ifCond .ne 5, 3, 102), (100, .iconst 0, 1, 0), (101, .ireturn, 1, 0), (102, .aload_n 0, 1, 0), (103, .getfield 7, 3, 0), (106, .sipush 1665, 3, 0), (109, .dup2, 1, 0), (110, .iaload, 1, 0), (111, .iconst 1, 1, 0)], [(112, .iadd, 1, 0), (113, .iastore, 1, 0), (114, .iconst 1, 1, 0), (115, .ireturn, 1, 0)]]
/-- X10_aPerson -/
def rw_224 : am_Row := (224, (10, 3, some (.boolean), 1, 1, 0, 0), ⟨"IslandCallModel", "aPerson", "()Z"⟩, prog_12_method_43_code, cd_224)
def cd_225 : List (List (Nat × Instr × Nat × Nat)) := [[(0, .aload_n 0, 1, 0), (1, .bipush 62, 2, 0), (3, .aload_n 0, 1, 0), (4, .getfield 7, 3, 0), (7, .sipush 1665, 3, 0), (10, .iaload, 1, 0), (11, .iload_n 1, 1, 0), (12, .invokevirtual 200, 3, 0), (15, .ireturn, 1, 0)]]
/-- X10_newPersonTo -/
def rw_225 : am_Row := (225, (10, 2, some (.boolean), 2, 1, 0, 0), ⟨"IslandCallModel", "newPersonTo", "(I)Z"⟩, prog_12_method_44_code, cd_225)
def cd_226 : List (List (Nat × Instr × Nat × Nat)) := [[(0, .sipush 2072, 3, 0), (3, .istore_n 1, 1, 0), (4, .aload_n 0, 1, 0), (5, .invokevirtual 154, 3, 0), (8, .aload_n 0, 1, 0), (9, .iload_n 1, 1, 0), (10, .invokevirtual 203, 3, 0), (13, .ifCond .ne 5, 3, 18)], [(16, .iconst 0, 1, 0), (17, .ireturn, 1, 0), (18, .aload_n 0, 1, 0), (19, .ldc 171, 2, 0), (21, .invokevirtual 173, 3, 0), (24, .ifCond .eq 32, 3, 56), (27, .aload_n 0, 1, 0), (28, .bipush 62, 2, 0), (30, .aload_n 0, 1, 0), (31, .getfield 7, 3, 0)], [(34, .sipush 1665, 3, 0), (37, .iaload, 1, 0), (38, .invokevirtual 177, 3, 0), (41, .aload_n 0, 1, 0), (42, .getfield 7, 3, 0), (45, .iload_n 1, 1, 0), (46, .iaload, 1, 0), (47, .if_icmp .ne 9, 3, 56)], [(50, .aload_n 0, 1, 0), (51, .iconst 5, 1, 0), (52, .invokevirtual 160, 3, 0), (55, .ireturn, 1, 0), (56, .aload_n 0, 1, 0), (57, .iload_n 1, 1, 0), (58, .iconst 1, 1, 0), (59, .iadd, 1, 0), (60, .invokevirtual 203, 3, 0), (63, .ifCond .ne 5, 3, 68)], [(66, .iconst 0, 1, 0), (67, .ireturn, 1, 0), (68, .aload_n 0, 1, 0), (69, .getfield 7, 3, 0), (72, .sipush 1664, 3, 0), (75, .aload_n 0, 1, 0), (76, .getfield 7, 3, 0), (79, .iload_n 1, 1, 0)], [(80, .iaload, 1, 0), (81, .invokestatic 194, 3, 0), (84, .iadd, 1, 0), (85, .iconst 3, 1, 0), (86, .iadd, 1, 0), (87, .dup2, 1, 0), (88, .iaload, 1, 0), (89, .iconst 1, 1, 0), (90, .aload_n 0, 1, 0), (91, .getfield 7, 3, 0), (94, .iload_n 1, 1, 0), (95, .iconst 1, 1, 0)], [(96, .iadd, 1, 0), (97, .iaload, 1, 0), (98, .ishl, 1, 0), (99, .ior, 1, 0), (100, .iastore, 1, 0), (101, .iconst 1, 1, 0), (102, .ireturn, 1, 0)]]
/-- X10_aBlindness -/
def rw_226 : am_Row := (226, (10, 2, some (.boolean), 1, 1, 0, 0), ⟨"IslandCallModel", "aBlindness", "()Z"⟩, prog_12_method_45_code, cd_226)
def cd_227 : List (List (Nat × Instr × Nat × Nat)) := [[(0, .aload_n 0, 1, 0), (1, .ldc 171, 2, 0), (3, .invokevirtual 163, 3, 0), (6, .istore_n 1, 1, 0), (7, .iload_n 1, 1, 0), (8, .ifCond .lt 8, 3, 16), (11, .iload_n 1, 1, 0), (12, .iconst 5, 1, 0), (13, .if_icmp .le 9, 3, 22)], [(16, .aload_n 0, 1, 0), (17, .iconst 2, 1, 0), (18, .invokevirtual 160, 3, 0), (21, .ireturn, 1, 0), (22, .iload_n 1, 1, 0), (23, .iconst 2, 1, 0), (24, .if_icmp .gt 21, 3, 45), (27, .aload_n 0, 1, 0), (28, .getfield 206, 3, 0), (31, .iload_n 1, 1, 0)], [(32, .ishr, 1, 0), (33, .iconst 1, 1, 0), (34, .iand, 1, 0), (35, .iconst 1, 1, 0), (36, .if_icmp .ne 9, 3, 45), (39, .aload_n 0, 1, 0), (40, .iconst 5, 1, 0), (41, .invokevirtual 160, 3, 0), (44, .ireturn, 1, 0), (45, .aload_n 0, 1, 0), (46, .dup, 1, 0), (47, .getfield 206, 3, 0)], [(50, .iconst 1, 1, 0), (51, .iload_n 1, 1, 0), (52, .ishl, 1, 0), (53, .ior, 1, 0), (54, .putfield 206, 3, 0), (57, .iload_n 1, 1, 0), (58, .iconst 2, 1, 0), (59, .if_icmp .gt 7, 3, 66), (62, .aload_n 0, 1, 0), (63, .invokevirtual 154, 3, 0)], [(66, .iload_n 1, 1, 0), (67, .tableswitch 90 0 4 #[33, 47, 60, 74, 82], 33, 0)], [], [(100, .aload_n 0, 1, 0), (101, .sipush 1666, 3, 0), (104, .iconst 1, 1, 0), (105, .bipush 9, 2, 0), (107, .invokevirtual 188, 3, 0), (110, .istore_n 2, 1, 0), (111, .goto 51, 3, 162)], [(114, .aload_n 0, 1, 0), (115, .sipush 1667, 3, 0), (118, .iconst 0, 1, 0), (119, .iconst 3, 1, 0), (120, .invokevirtual 188, 3, 0), (123, .istore_n 2, 1, 0), (124, .goto 38, 3, 162), (127, .aload_n 0, 1, 0)], [(128, .sipush 1668, 3, 0), (131, .iconst 0, 1, 0), (132, .bipush 16, 2, 0), (134, .invokevirtual 188, 3, 0), (137, .istore_n 2, 1, 0), (138, .goto 24, 3, 162), (141, .aload_n 0, 1, 0), (142, .invokevirtual 209, 3, 0)], [(145, .istore_n 2, 1, 0), (146, .goto 16, 3, 162), (149, .aload_n 0, 1, 0), (150, .invokevirtual 213, 3, 0), (153, .istore_n 2, 1, 0), (154, .goto 8, 3, 162), (157, .aload_n 0, 1, 0), (158, .invokevirtual 216, 3, 0)], [(161, .istore_n 2, 1, 0), (162, .iload_n 2, 1, 0), (163, .ifCond .eq 16, 3, 179), (166, .aload_n 0, 1, 0), (167, .bipush 59, 2, 0), (169, .invokevirtual 219, 3, 0), (172, .ifCond .eq 7, 3, 179), (175, .iconst 1, 1, 0)], [(176, .goto 4, 3, 180), (179, .iconst 0, 1, 0), (180, .ireturn, 1, 0)]]
/-- X10_boatPart -/
def rw_227 : am_Row := (227, (10, 3, some (.boolean), 1, 1, 0, 0), ⟨"IslandCallModel", "boatPart", "()Z"⟩, prog_12_method_46_code, cd_227)
def cd_228 : List (List (Nat × Instr × Nat × Nat)) := [[(0, .aload_n 0, 1, 0), (1, .iload_n 1, 1, 0), (2, .sipush 900, 3, 0), (5, .invokevirtual 222, 3, 0), (8, .ifCond .ne 9, 3, 17), (11, .aload_n 0, 1, 0), (12, .iconst 1, 1, 0), (13, .invokevirtual 78, 3, 0)], [(16, .ireturn, 1, 0), (17, .aload_n 0, 1, 0), (18, .sipush 1664, 3, 0), (21, .invokevirtual 68, 3, 0), (24, .aload_n 0, 1, 0), (25, .iconst 0, 1, 0), (26, .putfield 206, 3, 0), (29, .iconst 1, 1, 0), (30, .istore_n 2, 1, 0), (31, .iload_n 2, 1, 0)], [(32, .ifCond .eq 18, 3, 50), (35, .aload_n 0, 1, 0), (36, .getfield 123, 3, 0), (39, .ifCond .eq 11, 3, 50), (42, .aload_n 0, 1, 0), (43, .invokevirtual 226, 3, 0), (46, .istore_n 2, 1, 0), (47, .goto (-16), 3, 31)], [(50, .aload_n 0, 1, 0), (51, .getfield 148, 3, 0), (54, .ifCond .ne 63, 3, 117), (57, .iconst 0, 1, 0), (58, .istore_n 3, 1, 0), (59, .iload_n 3, 1, 0), (60, .sipush 416, 3, 0), (63, .if_icmp .ge 25, 3, 88)], [(66, .aload_n 0, 1, 0), (67, .getfield 7, 3, 0), (70, .iload_n 3, 1, 0), (71, .aload_n 0, 1, 0), (72, .getfield 7, 3, 0), (75, .sipush 1664, 3, 0), (78, .iload_n 3, 1, 0), (79, .iadd, 1, 0)], [(80, .iaload, 1, 0), (81, .iastore, 1, 0), (82, .iinc 3 1, 3, 0), (85, .goto (-26), 3, 59), (88, .iconst 0, 1, 0), (89, .istore_n 3, 1, 0), (90, .iload_n 3, 1, 0), (91, .bipush 14, 2, 0), (93, .if_icmp .ge 24, 3, 117)], [(96, .aload_n 0, 1, 0), (97, .getfield 13, 3, 0), (100, .iload_n 3, 1, 0), (101, .aload_n 0, 1, 0), (102, .getfield 13, 3, 0), (105, .bipush 56, 2, 0), (107, .iload_n 3, 1, 0), (108, .iadd, 1, 0), (109, .laload, 1, 0), (110, .lastore, 1, 0), (111, .iinc 3 1, 3, 0)], [(114, .goto (-24), 3, 90), (117, .aload_n 0, 1, 0), (118, .aload_n 0, 1, 0), (119, .getfield 7, 3, 0), (122, .iconst 1, 1, 0), (123, .iaload, 1, 0), (124, .invokevirtual 229, 3, 0), (127, .ireturn, 1, 0)]]
/-- X10_boat -/
def rw_228 : am_Row := (228, (10, 4, some (.int), 2, 1, 0, 0), ⟨"IslandCallModel", "boat", "(I)I"⟩, prog_12_method_47_code, cd_228)
def cd_229 : List (List (Nat × Instr × Nat × Nat)) := [[(0, .aload_n 0, 1, 0), (1, .bipush 6, 2, 0), (3, .aload_n 0, 1, 0), (4, .getfield 7, 3, 0), (7, .iconst 1, 1, 0), (8, .iaload, 1, 0), (9, .iload_n 1, 1, 0), (10, .invokevirtual 200, 3, 0), (13, .ireturn, 1, 0)]]
/-- X10_personTo -/
def rw_229 : am_Row := (229, (10, 2, some (.boolean), 2, 1, 0, 0), ⟨"IslandCallModel", "personTo", "(I)Z"⟩, prog_12_method_48_code, cd_229)
def cd_230 : List (List (Nat × Instr × Nat × Nat)) := [[(0, .aload_n 0, 1, 0), (1, .iconst 0, 1, 0), (2, .aload_n 0, 1, 0), (3, .getfield 7, 3, 0), (6, .iconst 0, 1, 0), (7, .iaload, 1, 0), (8, .iload_n 1, 1, 0), (9, .invokevirtual 200, 3, 0), (12, .ireturn, 1, 0)]]
/-- X10_omenTo -/
def rw_230 : am_Row := (230, (10, 2, some (.boolean), 2, 1, 0, 0), ⟨"IslandCallModel", "omenTo", "(I)Z"⟩, prog_12_method_49_code, cd_230)
def cd_231 : List (List (Nat × Instr × Nat × Nat)) := [[(0, .aload_n 0, 1, 0), (1, .ldc 171, 2, 0), (3, .invokevirtual 163, 3, 0), (6, .istore_n 2, 1, 0), (7, .iload_n 2, 1, 0), (8, .bipush 9, 2, 0), (10, .if_icmp .eq 21, 3, 31), (13, .iload_n 2, 1, 0), (14, .bipush 8, 2, 0)], [(16, .if_icmp .eq 15, 3, 31), (19, .iload_n 2, 1, 0), (20, .bipush 21, 2, 0), (22, .if_icmp .eq 9, 3, 31), (25, .aload_n 0, 1, 0), (26, .iconst 2, 1, 0), (27, .invokevirtual 160, 3, 0), (30, .ireturn, 1, 0), (31, .aload_n 0, 1, 0)], [(32, .getfield 7, 3, 0), (35, .iload_n 1, 1, 0), (36, .sipush 1700, 3, 0), (39, .iload_n 2, 1, 0), (40, .iadd, 1, 0), (41, .iastore, 1, 0), (42, .aload_n 0, 1, 0), (43, .invokevirtual 154, 3, 0), (46, .iload_n 2, 1, 0), (47, .bipush 21, 2, 0)], [(49, .if_icmp .ne 11, 3, 60), (52, .aload_n 0, 1, 0), (53, .iload_n 1, 1, 0), (54, .iconst 1, 1, 0), (55, .iadd, 1, 0), (56, .invokevirtual 232, 3, 0), (59, .ireturn, 1, 0), (60, .aload_n 0, 1, 0), (61, .iload_n 1, 1, 0), (62, .iconst 1, 1, 0), (63, .iadd, 1, 0)], [(64, .invokevirtual 235, 3, 0), (67, .ifCond .ne 5, 3, 72), (70, .iconst 0, 1, 0), (71, .ireturn, 1, 0), (72, .iload_n 2, 1, 0), (73, .bipush 9, 2, 0), (75, .if_icmp .ne 5, 3, 80), (78, .iconst 1, 1, 0), (79, .ireturn, 1, 0)], [(80, .aload_n 0, 1, 0), (81, .bipush 60, 2, 0), (83, .invokevirtual 157, 3, 0), (86, .ifCond .ne 27, 3, 113), (89, .aload_n 0, 1, 0), (90, .bipush 62, 2, 0), (92, .invokevirtual 157, 3, 0), (95, .ifCond .ne 18, 3, 113)], [(98, .aload_n 0, 1, 0), (99, .bipush 61, 2, 0), (101, .invokevirtual 157, 3, 0), (104, .ifCond .ne 9, 3, 113), (107, .aload_n 0, 1, 0), (108, .iconst 2, 1, 0), (109, .invokevirtual 160, 3, 0)], [(112, .ireturn, 1, 0), (113, .aload_n 0, 1, 0), (114, .getfield 7, 3, 0), (117, .iload_n 1, 1, 0), (118, .iconst 5, 1, 0), (119, .iadd, 1, 0), (120, .aload_n 0, 1, 0), (121, .getfield 120, 3, 0), (124, .iastore, 1, 0), (125, .aload_n 0, 1, 0), (126, .invokevirtual 154, 3, 0)], [(129, .aload_n 0, 1, 0), (130, .iload_n 1, 1, 0), (131, .iconst 2, 1, 0), (132, .iadd, 1, 0), (133, .iconst 0, 1, 0), (134, .bipush 9, 2, 0), (136, .invokevirtual 188, 3, 0), (139, .ireturn, 1, 0)]]
/-- X10_test -/
def rw_231 : am_Row := (231, (10, 3, some (.boolean), 2, 1, 0, 0), ⟨"IslandCallModel", "test", "(I)Z"⟩, prog_12_method_50_code, cd_231)
def cd_232 : List (List (Nat × Instr × Nat × Nat)) := [[(0, .iload_n 1, 1, 0), (1, .tableswitch 105 12 18 #[43, 43, 51, 59, 105, 99, 88], 43, 0)], [], [(44, .aload_n 0, 1, 0), (45, .iload_n 2, 1, 0), (46, .iconst 1, 1, 0), (47, .iadd, 1, 0)], [(48, .invokevirtual 232, 3, 0), (51, .ireturn, 1, 0), (52, .aload_n 0, 1, 0), (53, .iload_n 2, 1, 0), (54, .iconst 1, 1, 0), (55, .iadd, 1, 0), (56, .invokevirtual 235, 3, 0), (59, .ireturn, 1, 0), (60, .aload_n 0, 1, 0), (61, .iload_n 2, 1, 0), (62, .iconst 1, 1, 0), (63, .iadd, 1, 0)], [(64, .invokevirtual 235, 3, 0), (67, .ifCond .eq 20, 3, 87), (70, .aload_n 0, 1, 0), (71, .iload_n 2, 1, 0), (72, .iconst 2, 1, 0), (73, .iadd, 1, 0), (74, .iconst 0, 1, 0), (75, .bipush 9, 2, 0), (77, .invokevirtual 188, 3, 0)], [(80, .ifCond .eq 7, 3, 87), (83, .iconst 1, 1, 0), (84, .goto 4, 3, 88), (87, .iconst 0, 1, 0), (88, .ireturn, 1, 0), (89, .aload_n 0, 1, 0), (90, .iload_n 2, 1, 0), (91, .iconst 1, 1, 0), (92, .iadd, 1, 0), (93, .iconst 1, 1, 0), (94, .bipush 99, 2, 0)], [(96, .invokevirtual 188, 3, 0), (99, .ireturn, 1, 0), (100, .aload_n 0, 1, 0), (101, .iload_n 2, 1, 0), (102, .invokevirtual 238, 3, 0), (105, .ireturn, 1, 0), (106, .iconst 1, 1, 0), (107, .ireturn, 1, 0)]]
/-- X10_yearOrder -/
def rw_232 : am_Row := (232, (10, 3, some (.boolean), 3, 1, 0, 0), ⟨"IslandCallModel", "yearOrder", "(II)Z"⟩, prog_12_method_51_code, cd_232)
def cd_233 : List (List (Nat × Instr × Nat × Nat)) := [[(0, .aload_n 0, 1, 0), (1, .ldc 171, 2, 0), (3, .invokevirtual 163, 3, 0), (6, .istore_n 1, 1, 0), (7, .aload_n 0, 1, 0), (8, .getfield 7, 3, 0), (11, .sipush 1672, 3, 0), (14, .iaload, 1, 0), (15, .istore_n 2, 1, 0)], [(16, .sipush 1712, 3, 0), (19, .bipush 6, 2, 0), (21, .iload_n 2, 1, 0), (22, .imul, 1, 0), (23, .iadd, 1, 0), (24, .istore_n 3, 1, 0), (25, .iload_n 1, 1, 0), (26, .bipush 17, 2, 0), (28, .if_icmp .eq 9, 3, 37), (31, .iload_n 1, 1, 0)], [(32, .bipush 18, 2, 0), (34, .if_icmp .ne 7, 3, 41), (37, .iconst 1, 1, 0), (38, .goto 4, 3, 42), (41, .iconst 0, 1, 0), (42, .istore 4, 2, 0), (44, .iload_n 1, 1, 0), (45, .bipush 11, 2, 0), (47, .if_icmp .lt 22, 3, 69)], [(50, .iload_n 1, 1, 0), (51, .bipush 20, 2, 0), (53, .if_icmp .gt 16, 3, 69), (56, .iload_n 1, 1, 0), (57, .bipush 19, 2, 0), (59, .if_icmp .ne 16, 3, 75), (62, .aload_n 0, 1, 0), (63, .getfield 241, 3, 0)], [(66, .ifCond .ne 9, 3, 75), (69, .aload_n 0, 1, 0), (70, .iconst 2, 1, 0), (71, .invokevirtual 160, 3, 0), (74, .ireturn, 1, 0), (75, .iload_n 1, 1, 0), (76, .bipush 19, 2, 0), (78, .if_icmp .eq 19, 3, 97)], [(81, .aload_n 0, 1, 0), (82, .getfield 244, 3, 0), (85, .bipush 30, 2, 0), (87, .if_icmp .ne 10, 3, 97), (90, .aload_n 0, 1, 0), (91, .bipush 6, 2, 0), (93, .invokevirtual 160, 3, 0)], [(96, .ireturn, 1, 0), (97, .iload 4, 2, 0), (99, .ifCond .eq 18, 3, 117), (102, .aload_n 0, 1, 0), (103, .getfield 241, 3, 0), (106, .iconst 3, 1, 0), (107, .if_icmp .ne 10, 3, 117), (110, .aload_n 0, 1, 0), (111, .bipush 7, 2, 0)], [(113, .invokevirtual 160, 3, 0), (116, .ireturn, 1, 0), (117, .aload_n 0, 1, 0), (118, .dup, 1, 0), (119, .getfield 244, 3, 0), (122, .iload_n 1, 1, 0), (123, .bipush 19, 2, 0), (125, .if_icmp .ne 7, 3, 132)], [(128, .iconst 0, 1, 0), (129, .goto 4, 3, 133), (132, .iconst 1, 1, 0), (133, .iadd, 1, 0), (134, .putfield 244, 3, 0), (137, .aload_n 0, 1, 0), (138, .getfield 7, 3, 0), (141, .iload_n 3, 1, 0), (142, .iload_n 1, 1, 0), (143, .iastore, 1, 0)], [(144, .iconst 1, 1, 0), (145, .istore 5, 2, 0), (147, .iload 5, 2, 0), (149, .bipush 6, 2, 0), (151, .if_icmp .ge 19, 3, 170), (154, .aload_n 0, 1, 0), (155, .getfield 7, 3, 0), (158, .iload_n 3, 1, 0), (159, .iload 5, 2, 0)], [(161, .iadd, 1, 0), (162, .iconst 0, 1, 0), (163, .iastore, 1, 0), (164, .iinc 5 1, 3, 0), (167, .goto (-20), 3, 147), (170, .aload_n 0, 1, 0), (171, .getfield 7, 3, 0), (174, .sipush 1672, 3, 0)], [(177, .dup2, 1, 0), (178, .iaload, 1, 0), (179, .iconst 1, 1, 0), (180, .iadd, 1, 0), (181, .iastore, 1, 0), (182, .aload_n 0, 1, 0), (183, .invokevirtual 154, 3, 0), (186, .aload_n 0, 1, 0), (187, .iload_n 1, 1, 0), (188, .iload_n 3, 1, 0), (189, .invokevirtual 247, 3, 0)], [(192, .ifCond .ne 5, 3, 197), (195, .iconst 0, 1, 0), (196, .ireturn, 1, 0), (197, .iload 4, 2, 0), (199, .ifCond .eq 23, 3, 222), (202, .aload_n 0, 1, 0), (203, .getfield 44, 3, 0), (206, .aload_n 0, 1, 0), (207, .getfield 241, 3, 0)], [(210, .iload_n 2, 1, 0), (211, .iastore, 1, 0), (212, .aload_n 0, 1, 0), (213, .dup, 1, 0), (214, .getfield 241, 3, 0), (217, .iconst 1, 1, 0), (218, .iadd, 1, 0), (219, .putfield 241, 3, 0), (222, .iload_n 1, 1, 0), (223, .bipush 19, 2, 0)], [(225, .if_icmp .ne 54, 3, 279), (228, .aload_n 0, 1, 0), (229, .dup, 1, 0), (230, .getfield 241, 3, 0), (233, .iconst 1, 1, 0), (234, .isub, 1, 0), (235, .putfield 241, 3, 0), (238, .aload_n 0, 1, 0), (239, .getfield 7, 3, 0)], [(242, .iload_n 3, 1, 0), (243, .iconst 4, 1, 0), (244, .iadd, 1, 0), (245, .aload_n 0, 1, 0), (246, .getfield 44, 3, 0), (249, .aload_n 0, 1, 0), (250, .getfield 241, 3, 0), (253, .iaload, 1, 0), (254, .iastore, 1, 0), (255, .aload_n 0, 1, 0)], [(256, .getfield 7, 3, 0), (259, .sipush 1712, 3, 0), (262, .bipush 6, 2, 0), (264, .aload_n 0, 1, 0), (265, .getfield 44, 3, 0), (268, .aload_n 0, 1, 0), (269, .getfield 241, 3, 0)], [(272, .iaload, 1, 0), (273, .imul, 1, 0), (274, .iadd, 1, 0), (275, .iconst 4, 1, 0), (276, .iadd, 1, 0), (277, .iload_n 2, 1, 0), (278, .iastore, 1, 0), (279, .aload_n 0, 1, 0), (280, .bipush 59, 2, 0), (282, .invokevirtual 219, 3, 0), (285, .ireturn, 1, 0)]]
/-- X10_yearStep -/
def rw_233 : am_Row := (233, (10, 6, some (.boolean), 1, 1, 0, 0), ⟨"IslandCallModel", "yearStep", "()Z"⟩, prog_12_method_52_code, cd_233)
def cd_234 : List (List (Nat × Instr × Nat × Nat)) := [[(0, .aload_n 0, 1, 0), (1, .iload_n 1, 1, 0), (2, .sipush 300, 3, 0), (5, .invokevirtual 222, 3, 0), (8, .ifCond .ne 9, 3, 17), (11, .aload_n 0, 1, 0), (12, .iconst 1, 1, 0), (13, .invokevirtual 78, 3, 0)], [(16, .ireturn, 1, 0), (17, .aload_n 0, 1, 0), (18, .getfield 7, 3, 0), (21, .sipush 1672, 3, 0), (24, .iconst 0, 1, 0), (25, .iastore, 1, 0), (26, .aload_n 0, 1, 0), (27, .iconst 0, 1, 0), (28, .putfield 241, 3, 0), (31, .aload_n 0, 1, 0)], [(32, .iconst 0, 1, 0), (33, .putfield 244, 3, 0), (36, .iconst 1, 1, 0), (37, .istore_n 2, 1, 0), (38, .iload_n 2, 1, 0), (39, .ifCond .eq 18, 3, 57), (42, .aload_n 0, 1, 0), (43, .getfield 123, 3, 0), (46, .ifCond .eq 11, 3, 57)], [(49, .aload_n 0, 1, 0), (50, .invokevirtual 250, 3, 0), (53, .istore_n 2, 1, 0), (54, .goto (-16), 3, 38), (57, .aload_n 0, 1, 0), (58, .getfield 148, 3, 0), (61, .ifCond .ne 16, 3, 77)], [(64, .aload_n 0, 1, 0), (65, .getfield 241, 3, 0), (68, .ifCond .le 9, 3, 77), (71, .aload_n 0, 1, 0), (72, .iconst 2, 1, 0), (73, .invokevirtual 160, 3, 0), (76, .pop, 1, 0), (77, .aload_n 0, 1, 0), (78, .getfield 148, 3, 0)], [(81, .ifCond .ne 50, 3, 131), (84, .aload_n 0, 1, 0), (85, .getfield 7, 3, 0), (88, .bipush 8, 2, 0), (90, .aload_n 0, 1, 0), (91, .getfield 7, 3, 0), (94, .sipush 1672, 3, 0)], [(97, .iaload, 1, 0), (98, .iastore, 1, 0), (99, .bipush 48, 2, 0), (101, .istore_n 3, 1, 0), (102, .iload_n 3, 1, 0), (103, .sipush 408, 3, 0), (106, .if_icmp .ge 25, 3, 131), (109, .aload_n 0, 1, 0), (110, .getfield 7, 3, 0)], [(113, .iload_n 3, 1, 0), (114, .aload_n 0, 1, 0), (115, .getfield 7, 3, 0), (118, .sipush 1664, 3, 0), (121, .iload_n 3, 1, 0), (122, .iadd, 1, 0), (123, .iaload, 1, 0), (124, .iastore, 1, 0), (125, .iinc 3 1, 3, 0)], [(128, .goto (-26), 3, 102), (131, .aload_n 0, 1, 0), (132, .aload_n 0, 1, 0), (133, .getfield 244, 3, 0), (136, .invokevirtual 229, 3, 0), (139, .ireturn, 1, 0)]]
/-- X10_years -/
def rw_234 : am_Row := (234, (10, 4, some (.int), 2, 1, 0, 0), ⟨"IslandCallModel", "years", "(I)I"⟩, prog_12_method_53_code, cd_234)
def cd_235 : List (List (Nat × Instr × Nat × Nat)) := [[(0, .iload_n 1, 1, 0), (1, .ifCond .lt 17, 3, 18), (4, .iload_n 1, 1, 0), (5, .aload_n 0, 1, 0), (6, .getfield 7, 3, 0), (9, .iconst 0, 1, 0), (10, .iaload, 1, 0), (11, .if_icmp .ge 7, 3, 18), (14, .iconst 1, 1, 0), (15, .goto 4, 3, 19)], [(18, .iconst 0, 1, 0), (19, .ireturn, 1, 0)]]
/-- X10_isOmen -/
def rw_235 : am_Row := (235, (10, 2, some (.boolean), 2, 1, 0, 0), ⟨"IslandCallModel", "isOmen", "(I)Z"⟩, prog_12_method_54_code, cd_235)
def cd_236 : List (List (Nat × Instr × Nat × Nat)) := [[(0, .iload_n 1, 1, 0), (1, .ifCond .lt 17, 3, 18), (4, .iload_n 1, 1, 0), (5, .aload_n 0, 1, 0), (6, .getfield 7, 3, 0), (9, .iconst 1, 1, 0), (10, .iaload, 1, 0), (11, .if_icmp .ge 7, 3, 18), (14, .iconst 1, 1, 0), (15, .goto 4, 3, 19)], [(18, .iconst 0, 1, 0), (19, .ireturn, 1, 0)]]
/-- X10_isPerson -/
def rw_236 : am_Row := (236, (10, 2, some (.boolean), 2, 1, 0, 0), ⟨"IslandCallModel", "isPerson", "(I)Z"⟩, prog_12_method_55_code, cd_236)
def cd_237 : List (List (Nat × Instr × Nat × Nat)) := [[(0, .iconst 1, 1, 0), (1, .aload_n 0, 1, 0), (2, .getfield 7, 3, 0), (5, .iconst 0, 1, 0), (6, .iaload, 1, 0), (7, .ishl, 1, 0), (8, .iconst 1, 1, 0), (9, .isub, 1, 0), (10, .ireturn, 1, 0)]]
/-- X10_allOmens -/
def rw_237 : am_Row := (237, (10, 1, some (.int), 1, 1, 0, 0), ⟨"IslandCallModel", "allOmens", "()I"⟩, prog_12_method_56_code, cd_237)
def cd_238 : List (List (Nat × Instr × Nat × Nat)) := [[(0, .iconst 1, 1, 0), (1, .aload_n 0, 1, 0), (2, .getfield 7, 3, 0), (5, .iconst 1, 1, 0), (6, .iaload, 1, 0), (7, .ishl, 1, 0), (8, .iconst 1, 1, 0), (9, .isub, 1, 0), (10, .ireturn, 1, 0)]]
/-- X10_allPeople -/
def rw_238 : am_Row := (238, (10, 1, some (.int), 1, 1, 0, 0), ⟨"IslandCallModel", "allPeople", "()I"⟩, prog_12_method_57_code, cd_238)
def cd_239 : List (List (Nat × Instr × Nat × Nat)) := [[(0, .lload_n 1, 1, 0), (1, .lconst 0, 1, 0), (2, .aload_n 0, 1, 0), (3, .invokevirtual 253, 3, 0), (6, .i2l, 1, 0), (7, .invokestatic 256, 3, 0), (10, .ireturn, 1, 0)]]
/-- X10_areOmens -/
def rw_239 : am_Row := (239, (10, 3, some (.boolean), 2, 1, 0, 0), ⟨"IslandCallModel", "areOmens", "(J)Z"⟩, prog_12_method_58_code, cd_239)
def cd_240 : List (List (Nat × Instr × Nat × Nat)) := [[(0, .lload_n 1, 1, 0), (1, .lconst 0, 1, 0), (2, .aload_n 0, 1, 0), (3, .invokevirtual 260, 3, 0), (6, .i2l, 1, 0), (7, .invokestatic 256, 3, 0), (10, .ireturn, 1, 0)]]
/-- X10_arePeople -/
def rw_240 : am_Row := (240, (10, 3, some (.boolean), 2, 1, 0, 0), ⟨"IslandCallModel", "arePeople", "(J)Z"⟩, prog_12_method_59_code, cd_240)
def cd_241 : List (List (Nat × Instr × Nat × Nat)) := [[(0, .iload_n 1, 1, 0), (1, .iload_n 2, 1, 0), (2, .ishr, 1, 0), (3, .iconst 1, 1, 0), (4, .iand, 1, 0), (5, .iconst 1, 1, 0), (6, .if_icmp .ne 7, 3, 13), (9, .iconst 1, 1, 0), (10, .goto 4, 3, 14), (13, .iconst 0, 1, 0), (14, .ireturn, 1, 0)]]
/-- X10_isIn -/
def rw_241 : am_Row := (241, (10, 3, some (.boolean), 3, 1, 0, 0), ⟨"IslandCallModel", "isIn", "(II)Z"⟩, prog_12_method_60_code, cd_241)
def cd_242 : List (List (Nat × Instr × Nat × Nat)) := [[(0, .iconst 0, 1, 0), (1, .istore_n 1, 1, 0), (2, .iload_n 0, 1, 0), (3, .istore_n 2, 1, 0), (4, .iload_n 2, 1, 0), (5, .ifCond .eq 15, 3, 20), (8, .iinc 1 1, 3, 0), (11, .iload_n 2, 1, 0), (12, .iload_n 2, 1, 0), (13, .iconst 1, 1, 0), (14, .isub, 1, 0), (15, .iand, 1, 0)], [(16, .istore_n 2, 1, 0), (17, .goto (-13), 3, 4), (20, .iload_n 1, 1, 0), (21, .ireturn, 1, 0)]]
/-- X10_bits -/
def rw_242 : am_Row := (242, (10, 3, some (.int), 1, 0, 0, 0), ⟨"IslandCallModel", "bits", "(I)I"⟩, prog_12_method_61_code, cd_242)
def cd_243 : List (List (Nat × Instr × Nat × Nat)) := [[(0, .aload_n 0, 1, 0), (1, .getfield 7, 3, 0), (4, .iload_n 1, 1, 0), (5, .invokestatic 194, 3, 0), (8, .iload_n 2, 1, 0), (9, .iadd, 1, 0), (10, .iaload, 1, 0), (11, .ireturn, 1, 0)]]
/-- X10_personOf -/
def rw_243 : am_Row := (243, (10, 3, some (.int), 3, 1, 0, 0), ⟨"IslandCallModel", "personOf", "(II)I"⟩, prog_12_method_62_code, cd_243)
def cd_244 : List (List (Nat × Instr × Nat × Nat)) := [[(0, .aload_n 0, 1, 0), (1, .invokevirtual 260, 3, 0), (4, .aload_n 0, 1, 0), (5, .getfield 7, 3, 0), (8, .bipush 7, 2, 0), (10, .iaload, 1, 0), (11, .iconst (-1), 1, 0), (12, .ixor, 1, 0), (13, .iand, 1, 0), (14, .ireturn, 1, 0)]]
/-- X10_aboard -/
def rw_244 : am_Row := (244, (10, 1, some (.int), 1, 1, 0, 0), ⟨"IslandCallModel", "aboard", "()I"⟩, prog_12_method_63_code, cd_244)
def cd_245 : List (List (Nat × Instr × Nat × Nat)) := [[(0, .aload_n 0, 1, 0), (1, .aload_n 0, 1, 0), (2, .getfield 7, 3, 0), (5, .bipush 7, 2, 0), (7, .iaload, 1, 0), (8, .iload_n 1, 1, 0), (9, .invokevirtual 263, 3, 0), (12, .ireturn, 1, 0)]]
/-- X10_isOut -/
def rw_245 : am_Row := (245, (10, 2, some (.boolean), 2, 1, 0, 0), ⟨"IslandCallModel", "isOut", "(I)Z"⟩, prog_12_method_64_code, cd_245)
def cd_246 : List (List (Nat × Instr × Nat × Nat)) := [[(0, .aload_n 0, 1, 0), (1, .invokevirtual 260, 3, 0), (4, .aload_n 0, 1, 0), (5, .iload_n 1, 1, 0), (6, .iconst 3, 1, 0), (7, .invokevirtual 266, 3, 0), (10, .iconst (-1), 1, 0), (11, .ixor, 1, 0), (12, .iand, 1, 0), (13, .iconst 1, 1, 0), (14, .iload_n 1, 1, 0), (15, .ishl, 1, 0)], [(16, .iconst (-1), 1, 0), (17, .ixor, 1, 0), (18, .iand, 1, 0), (19, .ireturn, 1, 0)]]
/-- X10_seenBy -/
def rw_246 : am_Row := (246, (10, 2, some (.int), 2, 1, 0, 0), ⟨"IslandCallModel", "seenBy", "(I)I"⟩, prog_12_method_65_code, cd_246)
def cd_247 : List (List (Nat × Instr × Nat × Nat)) := [[(0, .iconst 0, 1, 0), (1, .istore_n 2, 1, 0), (2, .iconst 0, 1, 0), (3, .istore_n 3, 1, 0), (4, .iload_n 3, 1, 0), (5, .aload_n 0, 1, 0), (6, .getfield 7, 3, 0), (9, .iconst 1, 1, 0), (10, .iaload, 1, 0), (11, .if_icmp .ge 28, 3, 39), (14, .aload_n 0, 1, 0), (15, .aload_n 0, 1, 0)], [(16, .iload_n 3, 1, 0), (17, .invokevirtual 269, 3, 0), (20, .iload_n 1, 1, 0), (21, .invokevirtual 263, 3, 0), (24, .ifCond .eq 9, 3, 33), (27, .iload_n 2, 1, 0), (28, .iconst 1, 1, 0), (29, .iload_n 3, 1, 0), (30, .ishl, 1, 0), (31, .ior, 1, 0)], [(32, .istore_n 2, 1, 0), (33, .iinc 3 1, 3, 0), (36, .goto (-32), 3, 4), (39, .iload_n 2, 1, 0), (40, .ireturn, 1, 0)]]
/-- X10_whoSee -/
def rw_247 : am_Row := (247, (10, 4, some (.int), 2, 1, 0, 0), ⟨"IslandCallModel", "whoSee", "(I)I"⟩, prog_12_method_66_code, cd_247)
def cd_248 : List (List (Nat × Instr × Nat × Nat)) := [[(0, .iconst 0, 1, 0), (1, .istore_n 3, 1, 0), (2, .iconst 0, 1, 0), (3, .istore 4, 2, 0), (5, .iload 4, 2, 0), (7, .aload_n 0, 1, 0), (8, .getfield 7, 3, 0), (11, .iconst 0, 1, 0), (12, .iaload, 1, 0), (13, .if_icmp .ge 47, 3, 60)], [(16, .aload_n 0, 1, 0), (17, .iload_n 2, 1, 0), (18, .iload 4, 2, 0), (20, .invokevirtual 263, 3, 0), (23, .ifCond .eq 31, 3, 54), (26, .aload_n 0, 1, 0), (27, .aload_n 0, 1, 0), (28, .iload_n 1, 1, 0), (29, .iconst 2, 1, 0), (30, .invokevirtual 266, 3, 0)], [(33, .iload 4, 2, 0), (35, .invokevirtual 263, 3, 0), (38, .ifCond .ne 16, 3, 54), (41, .iload_n 3, 1, 0), (42, .aload_n 0, 1, 0), (43, .getfield 7, 3, 0), (46, .bipush 10, 2, 0)], [(48, .iload 4, 2, 0), (50, .iadd, 1, 0), (51, .iaload, 1, 0), (52, .iadd, 1, 0), (53, .istore_n 3, 1, 0), (54, .iinc 4 1, 3, 0), (57, .goto (-52), 3, 5), (60, .iload_n 3, 1, 0), (61, .ireturn, 1, 0)]]
/-- X10_pullOn -/
def rw_248 : am_Row := (248, (10, 5, some (.int), 3, 1, 0, 0), ⟨"IslandCallModel", "pullOn", "(II)I"⟩, prog_12_method_67_code, cd_248)
def cd_249 : List (List (Nat × Instr × Nat × Nat)) := [[(0, .iconst 0, 1, 0), (1, .aload_n 0, 1, 0), (2, .iload_n 1, 1, 0), (3, .iconst 0, 1, 0), (4, .invokevirtual 266, 3, 0), (7, .aload_n 0, 1, 0), (8, .iload_n 1, 1, 0), (9, .iload_n 2, 1, 0), (10, .invokevirtual 272, 3, 0), (13, .isub, 1, 0), (14, .invokestatic 275, 3, 0)], [(17, .ireturn, 1, 0)]]
/-- X10_needOf -/
def rw_249 : am_Row := (249, (10, 3, some (.int), 3, 1, 0, 0), ⟨"IslandCallModel", "needOf", "(II)I"⟩, prog_12_method_68_code, cd_249)
def cd_250 : List (List (Nat × Instr × Nat × Nat)) := [[(0, .iconst 0, 1, 0), (1, .istore_n 1, 1, 0), (2, .iconst 0, 1, 0), (3, .istore_n 2, 1, 0), (4, .iload_n 2, 1, 0), (5, .aload_n 0, 1, 0), (6, .getfield 7, 3, 0), (9, .iconst 1, 1, 0), (10, .iaload, 1, 0), (11, .if_icmp .ge 18, 3, 29), (14, .iload_n 1, 1, 0), (15, .aload_n 0, 1, 0)], [(16, .iload_n 2, 1, 0), (17, .iconst 1, 1, 0), (18, .invokevirtual 266, 3, 0), (21, .iadd, 1, 0), (22, .istore_n 1, 1, 0), (23, .iinc 2 1, 3, 0), (26, .goto (-22), 3, 4), (29, .iload_n 1, 1, 0), (30, .ireturn, 1, 0)]]
/-- X10_allSat -/
def rw_250 : am_Row := (250, (10, 3, some (.int), 1, 1, 0, 0), ⟨"IslandCallModel", "allSat", "()I"⟩, prog_12_method_69_code, cd_250)
def cd_251 : List (List (Nat × Instr × Nat × Nat)) := [[(0, .iload_n 1, 1, 0), (1, .ifCond .lt 9, 3, 10), (4, .iload_n 1, 1, 0), (5, .bipush 8, 2, 0), (7, .if_icmp .le 9, 3, 16), (10, .aload_n 0, 1, 0), (11, .iconst 1, 1, 0), (12, .invokevirtual 78, 3, 0), (15, .ireturn, 1, 0)], [(16, .iload_n 1, 1, 0), (17, .tableswitch 57 6 8 #[27, 36, 48], 27, 0)], [(44, .aload_n 0, 1, 0), (45, .aload_n 0, 1, 0), (46, .invokevirtual 278, 3, 0)], [(49, .invokevirtual 82, 3, 0), (52, .ireturn, 1, 0), (53, .aload_n 0, 1, 0), (54, .aload_n 0, 1, 0), (55, .getfield 7, 3, 0), (58, .bipush 6, 2, 0), (60, .iaload, 1, 0), (61, .invokevirtual 82, 3, 0)], [(64, .ireturn, 1, 0), (65, .aload_n 0, 1, 0), (66, .aload_n 0, 1, 0), (67, .invokevirtual 281, 3, 0), (70, .invokevirtual 82, 3, 0), (73, .ireturn, 1, 0), (74, .aload_n 0, 1, 0), (75, .aload_n 0, 1, 0), (76, .getfield 7, 3, 0), (79, .iload_n 1, 1, 0)], [(80, .iaload, 1, 0), (81, .invokevirtual 82, 3, 0), (84, .ireturn, 1, 0)]]
/-- X10_told -/
def rw_251 : am_Row := (251, (10, 2, some (.int), 2, 1, 0, 0), ⟨"IslandCallModel", "told", "(I)I"⟩, prog_12_method_70_code, cd_251)
def cd_252 : List (List (Nat × Instr × Nat × Nat)) := [[(0, .iconst 0, 1, 0), (1, .istore_n 2, 1, 0), (2, .iconst 0, 1, 0), (3, .istore_n 3, 1, 0), (4, .iload_n 3, 1, 0), (5, .aload_n 0, 1, 0), (6, .getfield 7, 3, 0), (9, .iconst 1, 1, 0), (10, .iaload, 1, 0), (11, .if_icmp .ge 29, 3, 40), (14, .aload_n 0, 1, 0), (15, .aload_n 0, 1, 0)], [(16, .iload_n 3, 1, 0), (17, .iconst 2, 1, 0), (18, .invokevirtual 266, 3, 0), (21, .iload_n 1, 1, 0), (22, .invokevirtual 263, 3, 0), (25, .ifCond .eq 9, 3, 34), (28, .iload_n 2, 1, 0), (29, .iconst 1, 1, 0), (30, .iload_n 3, 1, 0), (31, .ishl, 1, 0)], [(32, .ior, 1, 0), (33, .istore_n 2, 1, 0), (34, .iinc 3 1, 3, 0), (37, .goto (-33), 3, 4), (40, .iload_n 2, 1, 0), (41, .ireturn, 1, 0)]]
/-- X10_excusedFrom -/
def rw_252 : am_Row := (252, (10, 4, some (.int), 2, 1, 0, 0), ⟨"IslandCallModel", "excusedFrom", "(I)I"⟩, prog_12_method_71_code, cd_252)
def cd_253 : List (List (Nat × Instr × Nat × Nat)) := [[(0, .aload_n 0, 1, 0), (1, .iload_n 1, 1, 0), (2, .invokevirtual 284, 3, 0), (5, .ifCond .eq 12, 3, 17), (8, .iload_n 2, 1, 0), (9, .ifCond .lt 8, 3, 17), (12, .iload_n 2, 1, 0), (13, .iconst 2, 1, 0), (14, .if_icmp .le 9, 3, 23)], [(17, .aload_n 0, 1, 0), (18, .iconst 1, 1, 0), (19, .invokevirtual 78, 3, 0), (22, .ireturn, 1, 0), (23, .iload_n 2, 1, 0), (24, .ifCond .ne 17, 3, 41), (27, .aload_n 0, 1, 0), (28, .aload_n 0, 1, 0), (29, .getfield 7, 3, 0)], [(32, .bipush 10, 2, 0), (34, .iload_n 1, 1, 0), (35, .iadd, 1, 0), (36, .iaload, 1, 0), (37, .invokevirtual 82, 3, 0), (40, .ireturn, 1, 0), (41, .aload_n 0, 1, 0), (42, .iload_n 2, 1, 0), (43, .iconst 2, 1, 0), (44, .if_icmp .ne 11, 3, 55), (47, .aload_n 0, 1, 0)], [(48, .iload_n 1, 1, 0), (49, .invokevirtual 287, 3, 0), (52, .goto 14, 3, 66), (55, .aload_n 0, 1, 0), (56, .getfield 7, 3, 0), (59, .bipush 6, 2, 0), (61, .iaload, 1, 0), (62, .iload_n 1, 1, 0), (63, .ishr, 1, 0)], [(64, .iconst 1, 1, 0), (65, .iand, 1, 0), (66, .invokevirtual 82, 3, 0), (69, .ireturn, 1, 0)]]
/-- X10_omen -/
def rw_253 : am_Row := (253, (10, 3, some (.int), 3, 1, 0, 0), ⟨"IslandCallModel", "omen", "(II)I"⟩, prog_12_method_72_code, cd_253)
def cd_254 : List (List (Nat × Instr × Nat × Nat)) := [[(0, .aload_n 0, 1, 0), (1, .iload_n 1, 1, 0), (2, .invokevirtual 290, 3, 0), (5, .ifCond .eq 13, 3, 18), (8, .iload_n 2, 1, 0), (9, .ifCond .lt 9, 3, 18), (12, .iload_n 2, 1, 0), (13, .bipush 6, 2, 0), (15, .if_icmp .le 9, 3, 24)], [(18, .aload_n 0, 1, 0), (19, .iconst 1, 1, 0), (20, .invokevirtual 78, 3, 0), (23, .ireturn, 1, 0), (24, .iload_n 2, 1, 0), (25, .tableswitch 117 0 5 #[39, 50, 67, 85, 96, 107], 39, 0)], [], [], [(64, .aload_n 0, 1, 0), (65, .aload_n 0, 1, 0), (66, .iload_n 1, 1, 0), (67, .iconst 0, 1, 0), (68, .invokevirtual 266, 3, 0), (71, .invokevirtual 82, 3, 0), (74, .ireturn, 1, 0), (75, .aload_n 0, 1, 0), (76, .aload_n 0, 1, 0), (77, .iload_n 1, 1, 0), (78, .aload_n 0, 1, 0), (79, .getfield 7, 3, 0)], [(82, .bipush 6, 2, 0), (84, .iaload, 1, 0), (85, .invokevirtual 293, 3, 0), (88, .invokevirtual 82, 3, 0), (91, .ireturn, 1, 0), (92, .aload_n 0, 1, 0), (93, .aload_n 0, 1, 0), (94, .iload_n 1, 1, 0), (95, .invokevirtual 296, 3, 0)], [(98, .ifCond .eq 7, 3, 105), (101, .iconst 0, 1, 0), (102, .goto 4, 3, 106), (105, .iconst 1, 1, 0), (106, .invokevirtual 82, 3, 0), (109, .ireturn, 1, 0), (110, .aload_n 0, 1, 0), (111, .aload_n 0, 1, 0)], [(112, .iload_n 1, 1, 0), (113, .iconst 1, 1, 0), (114, .invokevirtual 266, 3, 0), (117, .invokevirtual 82, 3, 0), (120, .ireturn, 1, 0), (121, .aload_n 0, 1, 0), (122, .aload_n 0, 1, 0), (123, .iload_n 1, 1, 0), (124, .iconst 2, 1, 0), (125, .invokevirtual 266, 3, 0)], [(128, .invokevirtual 82, 3, 0), (131, .ireturn, 1, 0), (132, .aload_n 0, 1, 0), (133, .aload_n 0, 1, 0), (134, .iload_n 1, 1, 0), (135, .invokevirtual 269, 3, 0), (138, .invokevirtual 82, 3, 0), (141, .ireturn, 1, 0), (142, .aload_n 0, 1, 0), (143, .aload_n 0, 1, 0)], [(144, .iload_n 1, 1, 0), (145, .invokevirtual 299, 3, 0), (148, .invokevirtual 82, 3, 0), (151, .ireturn, 1, 0)]]
/-- X10_person -/
def rw_254 : am_Row := (254, (10, 3, some (.int), 3, 1, 0, 0), ⟨"IslandCallModel", "person", "(II)I"⟩, prog_12_method_73_code, cd_254)
def cd_255 : List (List (Nat × Instr × Nat × Nat)) := [[(0, .iload_n 3, 1, 0), (1, .istore 5, 2, 0), (3, .aload_n 0, 1, 0), (4, .iconst 0, 1, 0), (5, .putfield 302, 3, 0), (8, .iconst 0, 1, 0), (9, .istore 6, 2, 0), (11, .iload 6, 2, 0), (13, .bipush 8, 2, 0), (15, .if_icmp .ge 17, 3, 32)], [(18, .aload_n 0, 1, 0), (19, .getfield 47, 3, 0), (22, .iload 6, 2, 0), (24, .iconst 0, 1, 0), (25, .iastore, 1, 0), (26, .iinc 6 1, 3, 0), (29, .goto (-18), 3, 11)], [(32, .iconst 1, 1, 0), (33, .istore 6, 2, 0), (35, .iload 6, 2, 0), (37, .iload 4, 2, 0), (39, .if_icmp .gt 135, 3, 174), (42, .iconst 0, 1, 0), (43, .istore 7, 2, 0), (45, .iconst 0, 1, 0), (46, .istore 8, 2, 0)], [(48, .iload 8, 2, 0), (50, .aload_n 0, 1, 0), (51, .getfield 7, 3, 0), (54, .iconst 1, 1, 0), (55, .iaload, 1, 0), (56, .if_icmp .ge 55, 3, 111), (59, .aload_n 0, 1, 0), (60, .iload_n 1, 1, 0), (61, .iload 5, 2, 0), (63, .iconst (-1), 1, 0)], [(64, .ixor, 1, 0), (65, .iand, 1, 0), (66, .iload 8, 2, 0), (68, .invokevirtual 263, 3, 0), (71, .ifCond .eq 34, 3, 105), (74, .aload_n 0, 1, 0), (75, .iload 8, 2, 0), (77, .invokevirtual 269, 3, 0)], [(80, .iload 5, 2, 0), (82, .iand, 1, 0), (83, .invokestatic 305, 3, 0), (86, .aload_n 0, 1, 0), (87, .iload 8, 2, 0), (89, .iload_n 2, 1, 0), (90, .invokevirtual 293, 3, 0), (93, .if_icmp .lt 12, 3, 105)], [(96, .iload 7, 2, 0), (98, .iconst 1, 1, 0), (99, .iload 8, 2, 0), (101, .ishl, 1, 0), (102, .ior, 1, 0), (103, .istore 7, 2, 0), (105, .iinc 8 1, 3, 0), (108, .goto (-60), 3, 48), (111, .iload 7, 2, 0)], [(113, .ifCond .ne 6, 3, 119), (116, .iload 5, 2, 0), (118, .ireturn, 1, 0), (119, .iconst 0, 1, 0), (120, .istore 8, 2, 0), (122, .iload 8, 2, 0), (124, .bipush 8, 2, 0), (126, .if_icmp .ge 29, 3, 155)], [(129, .aload_n 0, 1, 0), (130, .iload 7, 2, 0), (132, .iload 8, 2, 0), (134, .invokevirtual 263, 3, 0), (137, .ifCond .eq 12, 3, 149), (140, .aload_n 0, 1, 0), (141, .getfield 47, 3, 0)], [(144, .iload 8, 2, 0), (146, .iload 6, 2, 0), (148, .iastore, 1, 0), (149, .iinc 8 1, 3, 0), (152, .goto (-30), 3, 122), (155, .iload 5, 2, 0), (157, .iload 7, 2, 0), (159, .ior, 1, 0)], [(160, .istore 5, 2, 0), (162, .aload_n 0, 1, 0), (163, .iload 6, 2, 0), (165, .putfield 302, 3, 0), (168, .iinc 6 1, 3, 0), (171, .goto (-136), 3, 35), (174, .iload 5, 2, 0)], [(176, .ireturn, 1, 0)]]
/-- X10_risingOf -/
def rw_255 : am_Row := (255, (10, 9, some (.int), 5, 1, 0, 0), ⟨"IslandCallModel", "risingOf", "(IIII)I"⟩, prog_12_method_74_code, cd_255)
def cd_256 : List (List (Nat × Instr × Nat × Nat)) := [[(0, .aload_n 0, 1, 0), (1, .iload_n 1, 1, 0), (2, .iload_n 2, 1, 0), (3, .iconst 0, 1, 0), (4, .aload_n 0, 1, 0), (5, .getfield 7, 3, 0), (8, .iconst 2, 1, 0), (9, .iaload, 1, 0), (10, .invokevirtual 308, 3, 0), (13, .ireturn, 1, 0)]]
/-- X10_outOf -/
def rw_256 : am_Row := (256, (10, 3, some (.int), 3, 1, 0, 0), ⟨"IslandCallModel", "outOf", "(II)I"⟩, prog_12_method_75_code, cd_256)
def cd_257 : List (List (Nat × Instr × Nat × Nat)) := [[(0, .aload_n 0, 1, 0), (1, .aload_n 0, 1, 0), (2, .invokevirtual 278, 3, 0), (5, .iload_n 1, 1, 0), (6, .iconst 0, 1, 0), (7, .bipush 9, 2, 0), (9, .invokevirtual 308, 3, 0), (12, .ireturn, 1, 0)]]
/-- X10_restOf -/
def rw_257 : am_Row := (257, (10, 2, some (.int), 2, 1, 0, 0), ⟨"IslandCallModel", "restOf", "(I)I"⟩, prog_12_method_76_code, cd_257)
def cd_258 : List (List (Nat × Instr × Nat × Nat)) := [[(0, .aload_n 0, 1, 0), (1, .aload_n 0, 1, 0), (2, .invokevirtual 278, 3, 0), (5, .aload_n 0, 1, 0), (6, .getfield 7, 3, 0), (9, .bipush 6, 2, 0), (11, .iaload, 1, 0), (12, .invokevirtual 312, 3, 0), (15, .istore_n 1, 1, 0)], [(16, .aload_n 0, 1, 0), (17, .getfield 7, 3, 0), (20, .bipush 7, 2, 0), (22, .dup2, 1, 0), (23, .iaload, 1, 0), (24, .iload_n 1, 1, 0), (25, .ior, 1, 0), (26, .iastore, 1, 0), (27, .iconst 0, 1, 0), (28, .istore_n 2, 1, 0), (29, .iload_n 2, 1, 0), (30, .aload_n 0, 1, 0), (31, .getfield 7, 3, 0)], [(34, .iconst 1, 1, 0), (35, .iaload, 1, 0), (36, .if_icmp .ge 62, 3, 98), (39, .aload_n 0, 1, 0), (40, .iload_n 2, 1, 0), (41, .invokevirtual 296, 3, 0), (44, .ifCond .eq 6, 3, 50), (47, .goto 45, 3, 92)], [(50, .aload_n 0, 1, 0), (51, .getfield 7, 3, 0), (54, .iload_n 2, 1, 0), (55, .invokestatic 194, 3, 0), (58, .bipush 9, 2, 0), (60, .aload_n 0, 1, 0), (61, .iload_n 2, 1, 0), (62, .iconst 0, 1, 0), (63, .invokevirtual 266, 3, 0)], [(66, .aload_n 0, 1, 0), (67, .getfield 7, 3, 0), (70, .iconst 3, 1, 0), (71, .iaload, 1, 0), (72, .iadd, 1, 0), (73, .invokestatic 133, 3, 0), (76, .iastore, 1, 0), (77, .aload_n 0, 1, 0), (78, .getfield 7, 3, 0)], [(81, .iload_n 2, 1, 0), (82, .invokestatic 194, 3, 0), (85, .iconst 1, 1, 0), (86, .iadd, 1, 0), (87, .dup2, 1, 0), (88, .iaload, 1, 0), (89, .iconst 1, 1, 0), (90, .iadd, 1, 0), (91, .iastore, 1, 0), (92, .iinc 2 1, 3, 0), (95, .goto (-66), 3, 29)], [(98, .aload_n 0, 1, 0), (99, .getfield 7, 3, 0), (102, .iconst 5, 1, 0), (103, .dup2, 1, 0), (104, .iaload, 1, 0), (105, .iconst 1, 1, 0), (106, .iadd, 1, 0), (107, .iastore, 1, 0), (108, .iload_n 1, 1, 0), (109, .ireturn, 1, 0)]]
/-- X10_calling -/
def rw_258 : am_Row := (258, (10, 3, some (.int), 1, 1, 0, 0), ⟨"IslandCallModel", "calling", "()I"⟩, prog_12_method_77_code, cd_258)
def cd_259 : List (List (Nat × Instr × Nat × Nat)) := [[(0, .aload_n 0, 1, 0), (1, .getfield 7, 3, 0), (4, .iconst 5, 1, 0), (5, .iaload, 1, 0), (6, .sipush 9999, 3, 0), (9, .if_icmp .ne 9, 3, 18), (12, .aload_n 0, 1, 0), (13, .iconst 4, 1, 0), (14, .invokevirtual 78, 3, 0)], [(17, .ireturn, 1, 0), (18, .aload_n 0, 1, 0), (19, .aload_n 0, 1, 0), (20, .invokevirtual 315, 3, 0), (23, .invokevirtual 82, 3, 0), (26, .ireturn, 1, 0)]]
/-- X10_call -/
def rw_259 : am_Row := (259, (10, 1, some (.int), 1, 1, 0, 0), ⟨"IslandCallModel", "call", "()I"⟩, prog_12_method_78_code, cd_259)
def cd_260 : List (List (Nat × Instr × Nat × Nat)) := [[(0, .aload_n 0, 1, 0), (1, .getfield 7, 3, 0), (4, .bipush 6, 2, 0), (6, .iaload, 1, 0), (7, .iload_n 1, 1, 0), (8, .ishr, 1, 0), (9, .iconst 1, 1, 0), (10, .iand, 1, 0), (11, .iload_n 2, 1, 0), (12, .if_icmp .ne 5, 3, 17), (15, .iconst 0, 1, 0)], [(16, .ireturn, 1, 0), (17, .aload_n 0, 1, 0), (18, .getfield 7, 3, 0), (21, .bipush 6, 2, 0), (23, .dup2, 1, 0), (24, .iaload, 1, 0), (25, .iconst 1, 1, 0), (26, .iload_n 1, 1, 0), (27, .ishl, 1, 0), (28, .ixor, 1, 0), (29, .iastore, 1, 0), (30, .iconst 1, 1, 0), (31, .ireturn, 1, 0)]]
/-- X10_shows -/
def rw_260 : am_Row := (260, (10, 3, some (.boolean), 3, 1, 0, 0), ⟨"IslandCallModel", "shows", "(II)Z"⟩, prog_12_method_79_code, cd_260)
def cd_261 : List (List (Nat × Instr × Nat × Nat)) := [[(0, .aload_n 0, 1, 0), (1, .iload_n 1, 1, 0), (2, .invokevirtual 284, 3, 0), (5, .ifCond .ne 9, 3, 14), (8, .aload_n 0, 1, 0), (9, .iconst 1, 1, 0), (10, .invokevirtual 85, 3, 0), (13, .ireturn, 1, 0), (14, .aload_n 0, 1, 0), (15, .aload_n 0, 1, 0)], [(16, .iload_n 1, 1, 0), (17, .iload_n 2, 1, 0), (18, .ifCond .eq 7, 3, 25), (21, .iconst 1, 1, 0), (22, .goto 4, 3, 26), (25, .iconst 0, 1, 0), (26, .invokevirtual 318, 3, 0), (29, .ifCond .eq 7, 3, 36)], [(32, .iconst 0, 1, 0), (33, .goto 5, 3, 38), (36, .bipush 7, 2, 0), (38, .invokevirtual 85, 3, 0), (41, .ireturn, 1, 0)]]
/-- X10_show -/
def rw_261 : am_Row := (261, (10, 3, some (.boolean), 3, 1, 0, 0), ⟨"IslandCallModel", "show", "(IZ)Z"⟩, prog_12_method_80_code, cd_261)
def cd_262 : List (List (Nat × Instr × Nat × Nat)) := [[(0, .aload_n 0, 1, 0), (1, .iload_n 1, 1, 0), (2, .invokevirtual 296, 3, 0), (5, .istore_n 2, 1, 0), (6, .aload_n 0, 1, 0), (7, .getfield 7, 3, 0), (10, .bipush 7, 2, 0), (12, .dup2, 1, 0), (13, .iaload, 1, 0), (14, .iconst 1, 1, 0), (15, .iload_n 1, 1, 0)], [(16, .ishl, 1, 0), (17, .iconst (-1), 1, 0), (18, .ixor, 1, 0), (19, .iand, 1, 0), (20, .iastore, 1, 0), (21, .iload_n 2, 1, 0), (22, .ireturn, 1, 0)]]
/-- X10_boards -/
def rw_262 : am_Row := (262, (10, 3, some (.boolean), 2, 1, 0, 0), ⟨"IslandCallModel", "boards", "(I)Z"⟩, prog_12_method_81_code, cd_262)
def cd_263 : List (List (Nat × Instr × Nat × Nat)) := [[(0, .aload_n 0, 1, 0), (1, .iload_n 1, 1, 0), (2, .invokevirtual 290, 3, 0), (5, .ifCond .ne 9, 3, 14), (8, .aload_n 0, 1, 0), (9, .iconst 1, 1, 0), (10, .invokevirtual 78, 3, 0), (13, .ireturn, 1, 0), (14, .aload_n 0, 1, 0), (15, .iload_n 1, 1, 0)], [(16, .invokevirtual 321, 3, 0), (19, .ifCond .eq 17, 3, 36), (22, .aload_n 0, 1, 0), (23, .aload_n 0, 1, 0), (24, .invokevirtual 278, 3, 0), (27, .invokestatic 305, 3, 0), (30, .invokevirtual 82, 3, 0)], [(33, .goto 9, 3, 42), (36, .aload_n 0, 1, 0), (37, .bipush 7, 2, 0), (39, .invokevirtual 78, 3, 0), (42, .ireturn, 1, 0)]]
/-- X10_board -/
def rw_263 : am_Row := (263, (10, 2, some (.int), 2, 1, 0, 0), ⟨"IslandCallModel", "board", "(I)I"⟩, prog_12_method_82_code, cd_263)
def cd_264 : List (List (Nat × Instr × Nat × Nat)) := [[(0, .aload_n 0, 1, 0), (1, .iload_n 1, 1, 0), (2, .iconst 0, 1, 0), (3, .invokevirtual 266, 3, 0), (6, .iload_n 2, 1, 0), (7, .if_icmp .eq 7, 3, 14), (10, .iconst 1, 1, 0), (11, .goto 4, 3, 15), (14, .iconst 0, 1, 0), (15, .istore_n 3, 1, 0)], [(16, .aload_n 0, 1, 0), (17, .getfield 7, 3, 0), (20, .iload_n 1, 1, 0), (21, .invokestatic 194, 3, 0), (24, .iload_n 2, 1, 0), (25, .iastore, 1, 0), (26, .iload_n 3, 1, 0), (27, .ireturn, 1, 0)]]
/-- X10_sways -/
def rw_264 : am_Row := (264, (10, 4, some (.boolean), 3, 1, 0, 0), ⟨"IslandCallModel", "sways", "(II)Z"⟩, prog_12_method_83_code, cd_264)
def cd_265 : List (List (Nat × Instr × Nat × Nat)) := [[(0, .aload_n 0, 1, 0), (1, .iload_n 1, 1, 0), (2, .invokevirtual 290, 3, 0), (5, .ifCond .eq 15, 3, 20), (8, .iload_n 2, 1, 0), (9, .i2l, 1, 0), (10, .lconst 0, 1, 0), (11, .ldc2_w 324, 3, 0), (14, .invokestatic 256, 3, 0)], [(17, .ifCond .ne 9, 3, 26), (20, .aload_n 0, 1, 0), (21, .iconst 1, 1, 0), (22, .invokevirtual 85, 3, 0), (25, .ireturn, 1, 0), (26, .aload_n 0, 1, 0), (27, .iload_n 1, 1, 0), (28, .iload_n 2, 1, 0), (29, .invokevirtual 326, 3, 0)], [(32, .pop, 1, 0), (33, .aload_n 0, 1, 0), (34, .iconst 0, 1, 0), (35, .invokevirtual 85, 3, 0), (38, .ireturn, 1, 0)]]
/-- X10_sway -/
def rw_265 : am_Row := (265, (10, 3, some (.boolean), 3, 1, 0, 0), ⟨"IslandCallModel", "sway", "(II)Z"⟩, prog_12_method_84_code, cd_265)
def cd_266 : List (List (Nat × Instr × Nat × Nat)) := [[(0, .aload_n 0, 1, 0), (1, .iload_n 1, 1, 0), (2, .invokevirtual 290, 3, 0), (5, .ifCond .eq 11, 3, 16), (8, .aload_n 0, 1, 0), (9, .iload_n 2, 1, 0), (10, .invokevirtual 284, 3, 0), (13, .ifCond .ne 9, 3, 22)], [(16, .aload_n 0, 1, 0), (17, .iconst 1, 1, 0), (18, .invokevirtual 85, 3, 0), (21, .ireturn, 1, 0), (22, .aload_n 0, 1, 0), (23, .aload_n 0, 1, 0), (24, .iload_n 1, 1, 0), (25, .iconst 2, 1, 0), (26, .invokevirtual 266, 3, 0), (29, .iload_n 2, 1, 0), (30, .invokevirtual 263, 3, 0)], [(33, .iload_n 3, 1, 0), (34, .if_icmp .ne 10, 3, 44), (37, .aload_n 0, 1, 0), (38, .bipush 7, 2, 0), (40, .invokevirtual 85, 3, 0), (43, .ireturn, 1, 0), (44, .aload_n 0, 1, 0), (45, .getfield 7, 3, 0)], [(48, .iload_n 1, 1, 0), (49, .invokestatic 194, 3, 0), (52, .iconst 2, 1, 0), (53, .iadd, 1, 0), (54, .dup2, 1, 0), (55, .iaload, 1, 0), (56, .iconst 1, 1, 0), (57, .iload_n 2, 1, 0), (58, .ishl, 1, 0), (59, .ixor, 1, 0), (60, .iastore, 1, 0), (61, .aload_n 0, 1, 0), (62, .iconst 0, 1, 0), (63, .invokevirtual 85, 3, 0)], [(66, .ireturn, 1, 0)]]
/-- X10_excuse -/
def rw_266 : am_Row := (266, (10, 4, some (.boolean), 4, 1, 0, 0), ⟨"IslandCallModel", "excuse", "(IIZ)Z"⟩, prog_12_method_85_code, cd_266)
def cd_267 : List (List (Nat × Instr × Nat × Nat)) := [[(0, .aload_n 0, 1, 0), (1, .iload_n 1, 1, 0), (2, .invokevirtual 290, 3, 0), (5, .ifCond .eq 16, 3, 21), (8, .aload_n 0, 1, 0), (9, .iload_n 2, 1, 0), (10, .invokevirtual 290, 3, 0), (13, .ifCond .eq 8, 3, 21)], [(16, .iload_n 1, 1, 0), (17, .iload_n 2, 1, 0), (18, .if_icmp .ne 9, 3, 27), (21, .aload_n 0, 1, 0), (22, .iconst 1, 1, 0), (23, .invokevirtual 85, 3, 0), (26, .ireturn, 1, 0), (27, .aload_n 0, 1, 0), (28, .aload_n 0, 1, 0), (29, .iload_n 1, 1, 0), (30, .invokevirtual 269, 3, 0)], [(33, .iload_n 2, 1, 0), (34, .invokevirtual 263, 3, 0), (37, .iload_n 3, 1, 0), (38, .if_icmp .ne 10, 3, 48), (41, .aload_n 0, 1, 0), (42, .bipush 7, 2, 0), (44, .invokevirtual 85, 3, 0), (47, .ireturn, 1, 0)], [(48, .aload_n 0, 1, 0), (49, .getfield 7, 3, 0), (52, .iload_n 1, 1, 0), (53, .invokestatic 194, 3, 0), (56, .iconst 3, 1, 0), (57, .iadd, 1, 0), (58, .dup2, 1, 0), (59, .iaload, 1, 0), (60, .iconst 1, 1, 0), (61, .iload_n 2, 1, 0), (62, .ishl, 1, 0), (63, .ixor, 1, 0)], [(64, .iastore, 1, 0), (65, .aload_n 0, 1, 0), (66, .iconst 0, 1, 0), (67, .invokevirtual 85, 3, 0), (70, .ireturn, 1, 0)]]
/-- X10_see -/
def rw_267 : am_Row := (267, (10, 4, some (.boolean), 4, 1, 0, 0), ⟨"IslandCallModel", "see", "(IIZ)Z"⟩, prog_12_method_86_code, cd_267)
def cd_268 : List (List (Nat × Instr × Nat × Nat)) := [[(0, .aload_n 0, 1, 0), (1, .iload_n 1, 1, 0), (2, .invokevirtual 284, 3, 0), (5, .ifCond .eq 15, 3, 20), (8, .iload_n 2, 1, 0), (9, .i2l, 1, 0), (10, .lconst 1, 1, 0), (11, .ldc2_w 329, 3, 0), (14, .invokestatic 256, 3, 0)], [(17, .ifCond .ne 9, 3, 26), (20, .aload_n 0, 1, 0), (21, .iconst 1, 1, 0), (22, .invokevirtual 85, 3, 0), (25, .ireturn, 1, 0), (26, .aload_n 0, 1, 0), (27, .getfield 7, 3, 0), (30, .bipush 10, 2, 0)], [(32, .iload_n 1, 1, 0), (33, .iadd, 1, 0), (34, .iload_n 2, 1, 0), (35, .iastore, 1, 0), (36, .aload_n 0, 1, 0), (37, .iconst 0, 1, 0), (38, .invokevirtual 85, 3, 0), (41, .ireturn, 1, 0)]]
/-- X10_paint -/
def rw_268 : am_Row := (268, (10, 3, some (.boolean), 3, 1, 0, 0), ⟨"IslandCallModel", "paint", "(II)Z"⟩, prog_12_method_87_code, cd_268)
def cd_269 : List (List (Nat × Instr × Nat × Nat)) := [[(0, .iload_n 1, 1, 0), (1, .i2l, 1, 0), (2, .lconst 0, 1, 0), (3, .ldc2_w 324, 3, 0), (6, .invokestatic 256, 3, 0), (9, .ifCond .ne 9, 3, 18), (12, .aload_n 0, 1, 0), (13, .iconst 1, 1, 0), (14, .invokevirtual 78, 3, 0)], [(17, .ireturn, 1, 0), (18, .aload_n 0, 1, 0), (19, .getfield 7, 3, 0), (22, .iconst 1, 1, 0), (23, .iaload, 1, 0), (24, .istore_n 2, 1, 0), (25, .iload_n 2, 1, 0), (26, .bipush 8, 2, 0), (28, .if_icmp .ne 9, 3, 37), (31, .aload_n 0, 1, 0)], [(32, .iconst 4, 1, 0), (33, .invokevirtual 78, 3, 0), (36, .ireturn, 1, 0), (37, .aload_n 0, 1, 0), (38, .getfield 7, 3, 0), (41, .iconst 1, 1, 0), (42, .dup2, 1, 0), (43, .iaload, 1, 0), (44, .iconst 1, 1, 0), (45, .iadd, 1, 0), (46, .iastore, 1, 0), (47, .iconst 0, 1, 0)], [(48, .istore_n 3, 1, 0), (49, .iload_n 3, 1, 0), (50, .iconst 4, 1, 0), (51, .if_icmp .ge 29, 3, 80), (54, .aload_n 0, 1, 0), (55, .getfield 7, 3, 0), (58, .iload_n 2, 1, 0), (59, .invokestatic 194, 3, 0), (62, .iload_n 3, 1, 0), (63, .iadd, 1, 0)], [(64, .iload_n 3, 1, 0), (65, .ifCond .ne 7, 3, 72), (68, .iload_n 1, 1, 0), (69, .goto 4, 3, 73), (72, .iconst 0, 1, 0), (73, .iastore, 1, 0), (74, .iinc 3 1, 3, 0), (77, .goto (-28), 3, 49)], [(80, .aload_n 0, 1, 0), (81, .getfield 13, 3, 0), (84, .bipush 6, 2, 0), (86, .iload_n 2, 1, 0), (87, .iadd, 1, 0), (88, .lconst 0, 1, 0), (89, .lastore, 1, 0), (90, .aload_n 0, 1, 0), (91, .iload_n 2, 1, 0), (92, .invokevirtual 82, 3, 0), (95, .ireturn, 1, 0)]]
/-- X10_come -/
def rw_269 : am_Row := (269, (10, 4, some (.int), 2, 1, 0, 0), ⟨"IslandCallModel", "come", "(I)I"⟩, prog_12_method_88_code, cd_269)
def cd_270 : List (List (Nat × Instr × Nat × Nat)) := [[(0, .iload_n 1, 1, 0), (1, .iconst 2, 1, 0), (2, .if_icmp .lt 51, 3, 53), (5, .iload_n 1, 1, 0), (6, .iconst 4, 1, 0), (7, .if_icmp .gt 46, 3, 53), (10, .iload_n 2, 1, 0), (11, .i2l, 1, 0), (12, .iload_n 1, 1, 0), (13, .iconst 2, 1, 0), (14, .if_icmp .ne 7, 3, 21)], [(17, .lconst 1, 1, 0), (18, .goto 4, 3, 22), (21, .lconst 0, 1, 0), (22, .iload_n 1, 1, 0), (23, .iconst 2, 1, 0), (24, .if_icmp .ne 9, 3, 33), (27, .ldc2_w 324, 3, 0), (30, .goto 17, 3, 47)], [(33, .iload_n 1, 1, 0), (34, .iconst 3, 1, 0), (35, .if_icmp .ne 9, 3, 44), (38, .ldc2_w 331, 3, 0), (41, .goto 6, 3, 47), (44, .ldc2_w 333, 3, 0), (47, .invokestatic 256, 3, 0)], [(50, .ifCond .ne 9, 3, 59), (53, .aload_n 0, 1, 0), (54, .iconst 1, 1, 0), (55, .invokevirtual 85, 3, 0), (58, .ireturn, 1, 0), (59, .aload_n 0, 1, 0), (60, .getfield 7, 3, 0), (63, .iload_n 1, 1, 0)], [(64, .iload_n 2, 1, 0), (65, .iastore, 1, 0), (66, .aload_n 0, 1, 0), (67, .iconst 0, 1, 0), (68, .invokevirtual 85, 3, 0), (71, .ireturn, 1, 0)]]
/-- X10_rule -/
def rw_270 : am_Row := (270, (10, 3, some (.boolean), 3, 1, 0, 0), ⟨"IslandCallModel", "rule", "(II)Z"⟩, prog_12_method_89_code, cd_270)
def cd_271 : List (List (Nat × Instr × Nat × Nat)) := [[(0, .aload_n 0, 1, 0), (1, .iload_n 1, 1, 0), (2, .invokevirtual 290, 3, 0), (5, .ifCond .eq 12, 3, 17), (8, .aload_n 0, 1, 0), (9, .iload_n 2, 1, 0), (10, .i2l, 1, 0), (11, .invokevirtual 335, 3, 0), (14, .ifCond .ne 9, 3, 23)], [(17, .aload_n 0, 1, 0), (18, .iconst 1, 1, 0), (19, .invokevirtual 78, 3, 0), (22, .ireturn, 1, 0), (23, .aload_n 0, 1, 0), (24, .aload_n 0, 1, 0), (25, .iload_n 1, 1, 0), (26, .iload_n 2, 1, 0), (27, .invokevirtual 293, 3, 0), (30, .invokevirtual 82, 3, 0)], [(33, .ireturn, 1, 0)]]
/-- X10_need -/
def rw_271 : am_Row := (271, (10, 3, some (.int), 3, 1, 0, 0), ⟨"IslandCallModel", "need", "(II)I"⟩, prog_12_method_90_code, cd_271)
def cd_272 : List (List (Nat × Instr × Nat × Nat)) := [[(0, .aload_n 0, 1, 0), (1, .iload_n 1, 1, 0), (2, .invokevirtual 290, 3, 0), (5, .ifCond .eq 12, 3, 17), (8, .aload_n 0, 1, 0), (9, .iload_n 2, 1, 0), (10, .i2l, 1, 0), (11, .invokevirtual 335, 3, 0), (14, .ifCond .ne 9, 3, 23)], [(17, .aload_n 0, 1, 0), (18, .iconst 1, 1, 0), (19, .invokevirtual 78, 3, 0), (22, .ireturn, 1, 0), (23, .aload_n 0, 1, 0), (24, .iload_n 1, 1, 0), (25, .invokevirtual 296, 3, 0), (28, .ifCond .eq 10, 3, 38), (31, .aload_n 0, 1, 0)], [(32, .bipush 7, 2, 0), (34, .invokevirtual 78, 3, 0), (37, .ireturn, 1, 0), (38, .aload_n 0, 1, 0), (39, .iload_n 2, 1, 0), (40, .invokevirtual 339, 3, 0), (43, .pop, 1, 0), (44, .aload_n 0, 1, 0), (45, .getfield 47, 3, 0)], [(48, .iload_n 1, 1, 0), (49, .iaload, 1, 0), (50, .ifCond .ne 12, 3, 62), (53, .aload_n 0, 1, 0), (54, .bipush 6, 2, 0), (56, .invokevirtual 78, 3, 0), (59, .goto 13, 3, 72), (62, .aload_n 0, 1, 0), (63, .aload_n 0, 1, 0)], [(64, .getfield 47, 3, 0), (67, .iload_n 1, 1, 0), (68, .iaload, 1, 0), (69, .invokevirtual 82, 3, 0), (72, .ireturn, 1, 0)]]
/-- X10_roundOf -/
def rw_272 : am_Row := (272, (10, 3, some (.int), 3, 1, 0, 0), ⟨"IslandCallModel", "roundOf", "(II)I"⟩, prog_12_method_91_code, cd_272)
def cd_273 : List (List (Nat × Instr × Nat × Nat)) := [[(0, .aload_n 0, 1, 0), (1, .iload_n 1, 1, 0), (2, .i2l, 1, 0), (3, .invokevirtual 335, 3, 0), (6, .ifCond .eq 17, 3, 23), (9, .aload_n 0, 1, 0), (10, .aload_n 0, 1, 0), (11, .aload_n 0, 1, 0), (12, .invokevirtual 278, 3, 0), (15, .iload_n 1, 1, 0)], [(16, .invokevirtual 312, 3, 0), (19, .invokevirtual 82, 3, 0), (22, .ireturn, 1, 0), (23, .aload_n 0, 1, 0), (24, .iconst 1, 1, 0), (25, .invokevirtual 78, 3, 0), (28, .ireturn, 1, 0)]]
/-- X10_outBy -/
def rw_273 : am_Row := (273, (10, 2, some (.int), 2, 1, 0, 0), ⟨"IslandCallModel", "outBy", "(I)I"⟩, prog_12_method_92_code, cd_273)
def cd_274 : List (List (Nat × Instr × Nat × Nat)) := [[(0, .aload_n 0, 1, 0), (1, .iload_n 1, 1, 0), (2, .i2l, 1, 0), (3, .invokevirtual 335, 3, 0), (6, .ifCond .eq 13, 3, 19), (9, .aload_n 0, 1, 0), (10, .aload_n 0, 1, 0), (11, .iload_n 1, 1, 0), (12, .invokevirtual 339, 3, 0), (15, .invokevirtual 82, 3, 0)], [(18, .ireturn, 1, 0), (19, .aload_n 0, 1, 0), (20, .iconst 1, 1, 0), (21, .invokevirtual 78, 3, 0), (24, .ireturn, 1, 0)]]
/-- X10_restBy -/
def rw_274 : am_Row := (274, (10, 2, some (.int), 2, 1, 0, 0), ⟨"IslandCallModel", "restBy", "(I)I"⟩, prog_12_method_93_code, cd_274)
def cd_275 : List (List (Nat × Instr × Nat × Nat)) := [[(0, .aload_n 0, 1, 0), (1, .iload_n 1, 1, 0), (2, .i2l, 1, 0), (3, .invokevirtual 335, 3, 0), (6, .ifCond .ne 9, 3, 15), (9, .aload_n 0, 1, 0), (10, .iconst 1, 1, 0), (11, .invokevirtual 78, 3, 0), (14, .ireturn, 1, 0), (15, .aload_n 0, 1, 0)], [(16, .iload_n 1, 1, 0), (17, .invokevirtual 339, 3, 0), (20, .pop, 1, 0), (21, .aload_n 0, 1, 0), (22, .aload_n 0, 1, 0), (23, .getfield 302, 3, 0), (26, .invokevirtual 82, 3, 0), (29, .ireturn, 1, 0)]]
/-- X10_rounds -/
def rw_275 : am_Row := (275, (10, 2, some (.int), 2, 1, 0, 0), ⟨"IslandCallModel", "rounds", "(I)I"⟩, prog_12_method_94_code, cd_275)
def cd_276 : List (List (Nat × Instr × Nat × Nat)) := [[(0, .iconst 0, 1, 0), (1, .istore_n 3, 1, 0), (2, .iload_n 3, 1, 0), (3, .aload_n 0, 1, 0), (4, .getfield 7, 3, 0), (7, .iconst 1, 1, 0), (8, .iaload, 1, 0), (9, .if_icmp .ge 52, 3, 61), (12, .aload_n 0, 1, 0), (13, .iload_n 3, 1, 0), (14, .invokevirtual 296, 3, 0)], [(17, .ifCond .ne 38, 3, 55), (20, .aload_n 0, 1, 0), (21, .iload_n 1, 1, 0), (22, .iload_n 3, 1, 0), (23, .invokevirtual 263, 3, 0), (26, .aload_n 0, 1, 0), (27, .iload_n 3, 1, 0), (28, .invokevirtual 269, 3, 0), (31, .iload_n 1, 1, 0)], [(32, .iand, 1, 0), (33, .invokestatic 305, 3, 0), (36, .aload_n 0, 1, 0), (37, .iload_n 3, 1, 0), (38, .iload_n 2, 1, 0), (39, .invokevirtual 293, 3, 0), (42, .if_icmp .lt 7, 3, 49), (45, .iconst 1, 1, 0), (46, .goto 4, 3, 50)], [(49, .iconst 0, 1, 0), (50, .if_icmp .eq 5, 3, 55), (53, .iconst 0, 1, 0), (54, .ireturn, 1, 0), (55, .iinc 3 1, 3, 0), (58, .goto (-56), 3, 2), (61, .iconst 1, 1, 0), (62, .ireturn, 1, 0)]]
/-- X10_isRest -/
def rw_276 : am_Row := (276, (10, 4, some (.boolean), 3, 1, 0, 0), ⟨"IslandCallModel", "isRest", "(II)Z"⟩, prog_12_method_95_code, cd_276)
def cd_277 : List (List (Nat × Instr × Nat × Nat)) := [[(0, .aload_n 0, 1, 0), (1, .iload_n 1, 1, 0), (2, .i2l, 1, 0), (3, .invokevirtual 342, 3, 0), (6, .ifCond .eq 12, 3, 18), (9, .aload_n 0, 1, 0), (10, .iload_n 2, 1, 0), (11, .i2l, 1, 0), (12, .invokevirtual 335, 3, 0), (15, .ifCond .ne 9, 3, 24)], [(18, .aload_n 0, 1, 0), (19, .iconst 1, 1, 0), (20, .invokevirtual 78, 3, 0), (23, .ireturn, 1, 0), (24, .iload_n 1, 1, 0), (25, .aload_n 0, 1, 0), (26, .getfield 7, 3, 0), (29, .bipush 7, 2, 0), (31, .iaload, 1, 0)], [(32, .iand, 1, 0), (33, .ifCond .eq 10, 3, 43), (36, .aload_n 0, 1, 0), (37, .bipush 7, 2, 0), (39, .invokevirtual 78, 3, 0), (42, .ireturn, 1, 0), (43, .aload_n 0, 1, 0), (44, .aload_n 0, 1, 0), (45, .iload_n 1, 1, 0), (46, .iload_n 2, 1, 0), (47, .invokevirtual 345, 3, 0)], [(50, .ifCond .eq 7, 3, 57), (53, .iconst 1, 1, 0), (54, .goto 4, 3, 58), (57, .iconst 0, 1, 0), (58, .invokevirtual 82, 3, 0), (61, .ireturn, 1, 0)]]
/-- X10_atRest -/
def rw_277 : am_Row := (277, (10, 3, some (.int), 3, 1, 0, 0), ⟨"IslandCallModel", "atRest", "(II)I"⟩, prog_12_method_96_code, cd_277)
def cd_278 : List (List (Nat × Instr × Nat × Nat)) := [[(0, .aload_n 0, 1, 0), (1, .iload_n 1, 1, 0), (2, .i2l, 1, 0), (3, .invokevirtual 335, 3, 0), (6, .ifCond .ne 9, 3, 15), (9, .aload_n 0, 1, 0), (10, .iconst 1, 1, 0), (11, .invokevirtual 78, 3, 0), (14, .ireturn, 1, 0), (15, .iconst 0, 1, 0)], [(16, .istore_n 2, 1, 0), (17, .iconst 0, 1, 0), (18, .istore_n 3, 1, 0), (19, .iload_n 3, 1, 0), (20, .aload_n 0, 1, 0), (21, .invokevirtual 260, 3, 0), (24, .if_icmp .gt 38, 3, 62), (27, .iload_n 2, 1, 0), (28, .iload_n 3, 1, 0), (29, .aload_n 0, 1, 0), (30, .getfield 7, 3, 0)], [(33, .bipush 7, 2, 0), (35, .iaload, 1, 0), (36, .iand, 1, 0), (37, .ifCond .ne 16, 3, 53), (40, .aload_n 0, 1, 0), (41, .iload_n 3, 1, 0), (42, .iload_n 1, 1, 0), (43, .invokevirtual 345, 3, 0), (46, .ifCond .eq 7, 3, 53)], [(49, .iconst 1, 1, 0), (50, .goto 4, 3, 54), (53, .iconst 0, 1, 0), (54, .iadd, 1, 0), (55, .istore_n 2, 1, 0), (56, .iinc 3 1, 3, 0), (59, .goto (-40), 3, 19), (62, .aload_n 0, 1, 0), (63, .iload_n 2, 1, 0)], [(64, .invokevirtual 82, 3, 0), (67, .ireturn, 1, 0)]]
/-- X10_rests -/
def rw_278 : am_Row := (278, (10, 4, some (.int), 2, 1, 0, 0), ⟨"IslandCallModel", "rests", "(I)I"⟩, prog_12_method_97_code, cd_278)
def cd_279 : List (List (Nat × Instr × Nat × Nat)) := [[(0, .aload_n 0, 1, 0), (1, .iload_n 1, 1, 0), (2, .i2l, 1, 0), (3, .invokevirtual 335, 3, 0), (6, .ifCond .ne 9, 3, 15), (9, .aload_n 0, 1, 0), (10, .iconst 1, 1, 0), (11, .invokevirtual 78, 3, 0), (14, .ireturn, 1, 0), (15, .aload_n 0, 1, 0)], [(16, .invokevirtual 278, 3, 0), (19, .istore_n 2, 1, 0), (20, .iconst 0, 1, 0), (21, .istore_n 3, 1, 0), (22, .iload_n 3, 1, 0), (23, .bipush 8, 2, 0), (25, .if_icmp .gt 79, 3, 104), (28, .iconst 0, 1, 0), (29, .istore 4, 2, 0), (31, .iconst 0, 1, 0)], [(32, .istore 5, 2, 0), (34, .iload 5, 2, 0), (36, .aload_n 0, 1, 0), (37, .getfield 7, 3, 0), (40, .iconst 1, 1, 0), (41, .iaload, 1, 0), (42, .if_icmp .ge 49, 3, 91), (45, .aload_n 0, 1, 0), (46, .iload_n 2, 1, 0), (47, .iload 5, 2, 0)], [(49, .invokevirtual 263, 3, 0), (52, .ifCond .eq 33, 3, 85), (55, .aload_n 0, 1, 0), (56, .iload 5, 2, 0), (58, .invokevirtual 269, 3, 0), (61, .iload_n 2, 1, 0), (62, .iand, 1, 0), (63, .invokestatic 305, 3, 0)], [(66, .aload_n 0, 1, 0), (67, .iload 5, 2, 0), (69, .iload_n 1, 1, 0), (70, .invokevirtual 293, 3, 0), (73, .if_icmp .ge 12, 3, 85), (76, .iload 4, 2, 0), (78, .iconst 1, 1, 0), (79, .iload 5, 2, 0)], [(81, .ishl, 1, 0), (82, .ior, 1, 0), (83, .istore 4, 2, 0), (85, .iinc 5 1, 3, 0), (88, .goto (-54), 3, 34), (91, .iload_n 2, 1, 0), (92, .iload 4, 2, 0), (94, .iconst (-1), 1, 0), (95, .ixor, 1, 0)], [(96, .iand, 1, 0), (97, .istore_n 2, 1, 0), (98, .iinc 3 1, 3, 0), (101, .goto (-79), 3, 22), (104, .aload_n 0, 1, 0), (105, .iload_n 2, 1, 0), (106, .invokevirtual 82, 3, 0), (109, .ireturn, 1, 0)]]
/-- X10_greatest -/
def rw_279 : am_Row := (279, (10, 6, some (.int), 2, 1, 0, 0), ⟨"IslandCallModel", "greatest", "(I)I"⟩, prog_12_method_98_code, cd_279)
def cd_280 : List (List (Nat × Instr × Nat × Nat)) := [[(0, .aload_n 0, 1, 0), (1, .invokevirtual 278, 3, 0), (4, .istore_n 2, 1, 0), (5, .iconst 0, 1, 0), (6, .istore_n 3, 1, 0), (7, .iload_n 3, 1, 0), (8, .aload_n 0, 1, 0), (9, .invokevirtual 260, 3, 0), (12, .if_icmp .gt 72, 3, 84), (15, .iload_n 3, 1, 0)], [(16, .aload_n 0, 1, 0), (17, .getfield 7, 3, 0), (20, .bipush 7, 2, 0), (22, .iaload, 1, 0), (23, .iand, 1, 0), (24, .ifCond .ne 54, 3, 78), (27, .iload_n 3, 1, 0), (28, .invokestatic 305, 3, 0), (31, .iload_n 2, 1, 0)], [(32, .invokestatic 305, 3, 0), (35, .if_icmp .gt 43, 3, 78), (38, .iload_n 3, 1, 0), (39, .invokestatic 305, 3, 0), (42, .iload_n 2, 1, 0), (43, .invokestatic 305, 3, 0), (46, .if_icmp .ne 11, 3, 57)], [(49, .iload_n 3, 1, 0), (50, .iload_n 2, 1, 0), (51, .if_icmp .lt 6, 3, 57), (54, .goto 24, 3, 78), (57, .aload_n 0, 1, 0), (58, .aload_n 0, 1, 0), (59, .invokevirtual 278, 3, 0), (62, .iload_n 1, 1, 0), (63, .iload_n 3, 1, 0)], [(64, .bipush 9, 2, 0), (66, .invokevirtual 308, 3, 0), (69, .aload_n 0, 1, 0), (70, .invokevirtual 278, 3, 0), (73, .if_icmp .ne 5, 3, 78), (76, .iload_n 3, 1, 0), (77, .istore_n 2, 1, 0), (78, .iinc 3 1, 3, 0)], [(81, .goto (-74), 3, 7), (84, .iload_n 2, 1, 0), (85, .ireturn, 1, 0)]]
/-- X10_seedsOf -/
def rw_280 : am_Row := (280, (10, 4, some (.int), 2, 1, 0, 0), ⟨"IslandCallModel", "seedsOf", "(I)I"⟩, prog_12_method_99_code, cd_280)
def cd_281 : List (List (Nat × Instr × Nat × Nat)) := [[(0, .aload_n 0, 1, 0), (1, .iload_n 1, 1, 0), (2, .i2l, 1, 0), (3, .invokevirtual 335, 3, 0), (6, .ifCond .eq 16, 3, 22), (9, .aload_n 0, 1, 0), (10, .aload_n 0, 1, 0), (11, .iload_n 1, 1, 0), (12, .invokevirtual 348, 3, 0), (15, .invokestatic 305, 3, 0)], [(18, .invokevirtual 82, 3, 0), (21, .ireturn, 1, 0), (22, .aload_n 0, 1, 0), (23, .iconst 1, 1, 0), (24, .invokevirtual 78, 3, 0), (27, .ireturn, 1, 0)]]
/-- X10_seeds -/
def rw_281 : am_Row := (281, (10, 2, some (.int), 2, 1, 0, 0), ⟨"IslandCallModel", "seeds", "(I)I"⟩, prog_12_method_100_code, cd_281)
def cd_282 : List (List (Nat × Instr × Nat × Nat)) := [[(0, .aload_n 0, 1, 0), (1, .iload_n 1, 1, 0), (2, .i2l, 1, 0), (3, .invokevirtual 335, 3, 0), (6, .ifCond .eq 13, 3, 19), (9, .aload_n 0, 1, 0), (10, .aload_n 0, 1, 0), (11, .iload_n 1, 1, 0), (12, .invokevirtual 348, 3, 0), (15, .invokevirtual 82, 3, 0)], [(18, .ireturn, 1, 0), (19, .aload_n 0, 1, 0), (20, .iconst 1, 1, 0), (21, .invokevirtual 78, 3, 0), (24, .ireturn, 1, 0)]]
/-- X10_seedSet -/
def rw_282 : am_Row := (282, (10, 2, some (.int), 2, 1, 0, 0), ⟨"IslandCallModel", "seedSet", "(I)I"⟩, prog_12_method_101_code, cd_282)
def cd_283 : List (List (Nat × Instr × Nat × Nat)) := [[(0, .aload_n 0, 1, 0), (1, .aload_n 0, 1, 0), (2, .invokevirtual 278, 3, 0), (5, .iload_n 2, 1, 0), (6, .invokevirtual 312, 3, 0), (9, .iconst 1, 1, 0), (10, .iload_n 1, 1, 0), (11, .ishl, 1, 0), (12, .iconst (-1), 1, 0), (13, .ixor, 1, 0), (14, .iand, 1, 0), (15, .istore_n 3, 1, 0)], [(16, .aload_n 0, 1, 0), (17, .aload_n 0, 1, 0), (18, .invokevirtual 278, 3, 0), (21, .iconst 1, 1, 0), (22, .iload_n 1, 1, 0), (23, .ishl, 1, 0), (24, .iconst (-1), 1, 0), (25, .ixor, 1, 0), (26, .iand, 1, 0), (27, .iload_n 2, 1, 0), (28, .invokevirtual 312, 3, 0), (31, .istore 4, 2, 0)], [(33, .iload_n 3, 1, 0), (34, .invokestatic 305, 3, 0), (37, .iload 4, 2, 0), (39, .invokestatic 305, 3, 0), (42, .isub, 1, 0), (43, .ireturn, 1, 0)]]
/-- X10_weightOf -/
def rw_283 : am_Row := (283, (10, 5, some (.int), 3, 1, 0, 0), ⟨"IslandCallModel", "weightOf", "(II)I"⟩, prog_12_method_102_code, cd_283)
def cd_284 : List (List (Nat × Instr × Nat × Nat)) := [[(0, .aload_n 0, 1, 0), (1, .iload_n 1, 1, 0), (2, .invokevirtual 290, 3, 0), (5, .ifCond .eq 12, 3, 17), (8, .aload_n 0, 1, 0), (9, .iload_n 2, 1, 0), (10, .i2l, 1, 0), (11, .invokevirtual 335, 3, 0), (14, .ifCond .ne 9, 3, 23)], [(17, .aload_n 0, 1, 0), (18, .iconst 1, 1, 0), (19, .invokevirtual 78, 3, 0), (22, .ireturn, 1, 0), (23, .aload_n 0, 1, 0), (24, .iload_n 1, 1, 0), (25, .invokevirtual 296, 3, 0), (28, .ifCond .eq 12, 3, 40), (31, .aload_n 0, 1, 0)], [(32, .bipush 7, 2, 0), (34, .invokevirtual 78, 3, 0), (37, .goto 13, 3, 50), (40, .aload_n 0, 1, 0), (41, .aload_n 0, 1, 0), (42, .iload_n 1, 1, 0), (43, .iload_n 2, 1, 0), (44, .invokevirtual 351, 3, 0), (47, .invokevirtual 82, 3, 0)], [(50, .ireturn, 1, 0)]]
/-- X10_weight -/
def rw_284 : am_Row := (284, (10, 3, some (.int), 3, 1, 0, 0), ⟨"IslandCallModel", "weight", "(II)I"⟩, prog_12_method_103_code, cd_284)
def cd_285 : List (List (Nat × Instr × Nat × Nat)) := [[(0, .aload_n 0, 1, 0), (1, .iload_n 1, 1, 0), (2, .i2l, 1, 0), (3, .invokevirtual 335, 3, 0), (6, .ifCond .ne 9, 3, 15), (9, .aload_n 0, 1, 0), (10, .iconst 1, 1, 0), (11, .invokevirtual 78, 3, 0), (14, .ireturn, 1, 0), (15, .iconst (-1), 1, 0)], [(16, .istore_n 2, 1, 0), (17, .iconst 0, 1, 0), (18, .istore_n 3, 1, 0), (19, .iload_n 3, 1, 0), (20, .aload_n 0, 1, 0), (21, .getfield 7, 3, 0), (24, .iconst 1, 1, 0), (25, .iaload, 1, 0), (26, .if_icmp .ge 39, 3, 65), (29, .aload_n 0, 1, 0), (30, .iload_n 3, 1, 0), (31, .invokevirtual 296, 3, 0)], [(34, .ifCond .ne 25, 3, 59), (37, .iload_n 2, 1, 0), (38, .iconst (-1), 1, 0), (39, .if_icmp .eq 18, 3, 57), (42, .aload_n 0, 1, 0), (43, .iload_n 3, 1, 0), (44, .iload_n 1, 1, 0), (45, .invokevirtual 351, 3, 0)], [(48, .aload_n 0, 1, 0), (49, .iload_n 2, 1, 0), (50, .iload_n 1, 1, 0), (51, .invokevirtual 351, 3, 0), (54, .if_icmp .le 5, 3, 59), (57, .iload_n 3, 1, 0), (58, .istore_n 2, 1, 0), (59, .iinc 3 1, 3, 0), (62, .goto (-43), 3, 19)], [(65, .aload_n 0, 1, 0), (66, .iload_n 2, 1, 0), (67, .invokevirtual 354, 3, 0), (70, .ireturn, 1, 0)]]
/-- X10_keystone -/
def rw_285 : am_Row := (285, (10, 4, some (.int), 2, 1, 0, 0), ⟨"IslandCallModel", "keystone", "(I)I"⟩, prog_12_method_104_code, cd_285)
def cd_286 : List (List (Nat × Instr × Nat × Nat)) := [[(0, .iconst (-1), 1, 0), (1, .istore_n 2, 1, 0), (2, .iconst 0, 1, 0), (3, .istore_n 3, 1, 0), (4, .iload_n 3, 1, 0), (5, .aload_n 0, 1, 0), (6, .invokevirtual 253, 3, 0), (9, .if_icmp .gt 44, 3, 53), (12, .iload_n 2, 1, 0), (13, .iconst (-1), 1, 0), (14, .if_icmp .eq 14, 3, 28)], [(17, .iload_n 3, 1, 0), (18, .invokestatic 305, 3, 0), (21, .iload_n 2, 1, 0), (22, .invokestatic 305, 3, 0), (25, .if_icmp .ge 22, 3, 47), (28, .aload_n 0, 1, 0), (29, .aload_n 0, 1, 0), (30, .aload_n 0, 1, 0), (31, .invokevirtual 278, 3, 0)], [(34, .iload_n 3, 1, 0), (35, .invokevirtual 312, 3, 0), (38, .iload_n 1, 1, 0), (39, .invokevirtual 263, 3, 0), (42, .ifCond .eq 5, 3, 47), (45, .iload_n 3, 1, 0), (46, .istore_n 2, 1, 0), (47, .iinc 3 1, 3, 0)], [(50, .goto (-46), 3, 4), (53, .iload_n 2, 1, 0), (54, .ireturn, 1, 0)]]
/-- X10_luring -/
def rw_286 : am_Row := (286, (10, 4, some (.int), 2, 1, 0, 0), ⟨"IslandCallModel", "luring", "(I)I"⟩, prog_12_method_105_code, cd_286)
def cd_287 : List (List (Nat × Instr × Nat × Nat)) := [[(0, .aload_n 0, 1, 0), (1, .iload_n 1, 1, 0), (2, .invokevirtual 290, 3, 0), (5, .ifCond .ne 9, 3, 14), (8, .aload_n 0, 1, 0), (9, .iconst 1, 1, 0), (10, .invokevirtual 78, 3, 0), (13, .ireturn, 1, 0), (14, .aload_n 0, 1, 0), (15, .iload_n 1, 1, 0)], [(16, .invokevirtual 296, 3, 0), (19, .ifCond .eq 10, 3, 29), (22, .aload_n 0, 1, 0), (23, .bipush 7, 2, 0), (25, .invokevirtual 78, 3, 0), (28, .ireturn, 1, 0), (29, .aload_n 0, 1, 0), (30, .iload_n 1, 1, 0), (31, .invokevirtual 357, 3, 0)], [(34, .istore_n 2, 1, 0), (35, .iload_n 2, 1, 0), (36, .iconst (-1), 1, 0), (37, .if_icmp .ne 12, 3, 49), (40, .aload_n 0, 1, 0), (41, .bipush 6, 2, 0), (43, .invokevirtual 78, 3, 0), (46, .goto 11, 3, 57)], [(49, .aload_n 0, 1, 0), (50, .iload_n 2, 1, 0), (51, .invokestatic 305, 3, 0), (54, .invokevirtual 82, 3, 0), (57, .ireturn, 1, 0)]]
/-- X10_lures -/
def rw_287 : am_Row := (287, (10, 3, some (.int), 2, 1, 0, 0), ⟨"IslandCallModel", "lures", "(I)I"⟩, prog_12_method_106_code, cd_287)
def cd_288 : List (List (Nat × Instr × Nat × Nat)) := [[(0, .aload_n 0, 1, 0), (1, .iload_n 1, 1, 0), (2, .invokevirtual 290, 3, 0), (5, .ifCond .ne 9, 3, 14), (8, .aload_n 0, 1, 0), (9, .iconst 1, 1, 0), (10, .invokevirtual 78, 3, 0), (13, .ireturn, 1, 0), (14, .aload_n 0, 1, 0), (15, .iload_n 1, 1, 0)], [(16, .invokevirtual 296, 3, 0), (19, .ifCond .eq 12, 3, 31), (22, .aload_n 0, 1, 0), (23, .bipush 7, 2, 0), (25, .invokevirtual 78, 3, 0), (28, .goto 12, 3, 40), (31, .aload_n 0, 1, 0)], [(32, .aload_n 0, 1, 0), (33, .iload_n 1, 1, 0), (34, .invokevirtual 357, 3, 0), (37, .invokevirtual 354, 3, 0), (40, .ireturn, 1, 0)]]
/-- X10_lureSet -/
def rw_288 : am_Row := (288, (10, 2, some (.int), 2, 1, 0, 0), ⟨"IslandCallModel", "lureSet", "(I)I"⟩, prog_12_method_107_code, cd_288)
def cd_289 : List (List (Nat × Instr × Nat × Nat)) := [[(0, .iconst 0, 1, 0), (1, .istore_n 1, 1, 0), (2, .iconst 1, 1, 0), (3, .istore_n 2, 1, 0), (4, .iload_n 2, 1, 0), (5, .aload_n 0, 1, 0), (6, .invokevirtual 253, 3, 0), (9, .if_icmp .gt 56, 3, 65), (12, .aload_n 0, 1, 0), (13, .aload_n 0, 1, 0), (14, .invokevirtual 278, 3, 0)], [(17, .iload_n 2, 1, 0), (18, .invokevirtual 312, 3, 0), (21, .invokestatic 305, 3, 0), (24, .aload_n 0, 1, 0), (25, .aload_n 0, 1, 0), (26, .invokevirtual 278, 3, 0), (29, .iload_n 1, 1, 0), (30, .invokevirtual 312, 3, 0)], [(33, .invokestatic 305, 3, 0), (36, .isub, 1, 0), (37, .istore_n 3, 1, 0), (38, .iload_n 3, 1, 0), (39, .ifCond .gt 18, 3, 57), (42, .iload_n 3, 1, 0), (43, .ifCond .ne 16, 3, 59), (46, .iload_n 2, 1, 0), (47, .invokestatic 305, 3, 0)], [(50, .iload_n 1, 1, 0), (51, .invokestatic 305, 3, 0), (54, .if_icmp .ge 5, 3, 59), (57, .iload_n 2, 1, 0), (58, .istore_n 1, 1, 0), (59, .iinc 2 1, 3, 0), (62, .goto (-58), 3, 4)], [(65, .iload_n 1, 1, 0), (66, .ireturn, 1, 0)]]
/-- X10_bestOmens -/
def rw_289 : am_Row := (289, (10, 4, some (.int), 1, 1, 0, 0), ⟨"IslandCallModel", "bestOmens", "()I"⟩, prog_12_method_108_code, cd_289)
def cd_290 : List (List (Nat × Instr × Nat × Nat)) := [[(0, .aload_n 0, 1, 0), (1, .aload_n 0, 1, 0), (2, .invokevirtual 360, 3, 0), (5, .invokevirtual 82, 3, 0), (8, .ireturn, 1, 0)]]
/-- X10_best -/
def rw_290 : am_Row := (290, (10, 1, some (.int), 1, 1, 0, 0), ⟨"IslandCallModel", "best", "()I"⟩, prog_12_method_109_code, cd_290)
def cd_291 : List (List (Nat × Instr × Nat × Nat)) := [[(0, .aload_n 0, 1, 0), (1, .aload_n 0, 1, 0), (2, .aload_n 0, 1, 0), (3, .invokevirtual 278, 3, 0), (6, .aload_n 0, 1, 0), (7, .invokevirtual 360, 3, 0), (10, .invokevirtual 312, 3, 0), (13, .invokestatic 305, 3, 0)], [(16, .invokevirtual 82, 3, 0), (19, .ireturn, 1, 0)]]
/-- X10_bestOut -/
def rw_291 : am_Row := (291, (10, 1, some (.int), 1, 1, 0, 0), ⟨"IslandCallModel", "bestOut", "()I"⟩, prog_12_method_110_code, cd_291)
def cd_292 : List (List (Nat × Instr × Nat × Nat)) := [[(0, .aload_n 0, 1, 0), (1, .invokevirtual 278, 3, 0), (4, .istore_n 1, 1, 0), (5, .iconst 0, 1, 0), (6, .istore_n 2, 1, 0), (7, .iload_n 2, 1, 0), (8, .aload_n 0, 1, 0), (9, .invokevirtual 253, 3, 0), (12, .if_icmp .gt 23, 3, 35), (15, .iload_n 1, 1, 0)], [(16, .aload_n 0, 1, 0), (17, .aload_n 0, 1, 0), (18, .invokevirtual 278, 3, 0), (21, .iload_n 2, 1, 0), (22, .invokevirtual 312, 3, 0), (25, .iconst (-1), 1, 0), (26, .ixor, 1, 0), (27, .iand, 1, 0), (28, .istore_n 1, 1, 0), (29, .iinc 2 1, 3, 0)], [(32, .goto (-25), 3, 7), (35, .aload_n 0, 1, 0), (36, .iload_n 1, 1, 0), (37, .invokevirtual 82, 3, 0), (40, .ireturn, 1, 0)]]
/-- X10_never -/
def rw_292 : am_Row := (292, (10, 3, some (.int), 1, 1, 0, 0), ⟨"IslandCallModel", "never", "()I"⟩, prog_12_method_111_code, cd_292)
def cd_293 : List (List (Nat × Instr × Nat × Nat)) := [[(0, .iconst 0, 1, 0), (1, .istore_n 2, 1, 0), (2, .iload_n 2, 1, 0), (3, .bipush 48, 2, 0), (5, .if_icmp .ge 23, 3, 28), (8, .aload_n 0, 1, 0), (9, .getfield 7, 3, 0), (12, .iload_n 1, 1, 0), (13, .iload_n 2, 1, 0), (14, .iadd, 1, 0), (15, .aload_n 0, 1, 0)], [(16, .getfield 7, 3, 0), (19, .iload_n 2, 1, 0), (20, .iaload, 1, 0), (21, .iastore, 1, 0), (22, .iinc 2 1, 3, 0), (25, .goto (-23), 3, 2), (28, .return_, 1, 0)]]
/-- X10_keeps -/
def rw_293 : am_Row := (293, (10, 3, none, 2, 1, 0, 0), ⟨"IslandCallModel", "keeps", "(I)V"⟩, prog_12_method_112_code, cd_293)
def cd_294 : List (List (Nat × Instr × Nat × Nat)) := [[(0, .iconst 0, 1, 0), (1, .istore_n 2, 1, 0), (2, .iload_n 2, 1, 0), (3, .bipush 48, 2, 0), (5, .if_icmp .ge 23, 3, 28), (8, .aload_n 0, 1, 0), (9, .getfield 7, 3, 0), (12, .iload_n 2, 1, 0), (13, .aload_n 0, 1, 0), (14, .getfield 7, 3, 0)], [(17, .iload_n 1, 1, 0), (18, .iload_n 2, 1, 0), (19, .iadd, 1, 0), (20, .iaload, 1, 0), (21, .iastore, 1, 0), (22, .iinc 2 1, 3, 0), (25, .goto (-23), 3, 2), (28, .return_, 1, 0)]]
/-- X10_restores -/
def rw_294 : am_Row := (294, (10, 3, none, 2, 1, 0, 0), ⟨"IslandCallModel", "restores", "(I)V"⟩, prog_12_method_113_code, cd_294)
def cd_295 : List (List (Nat × Instr × Nat × Nat)) := [[(0, .iconst 0, 1, 0), (1, .istore_n 2, 1, 0), (2, .iload_n 2, 1, 0), (3, .iload_n 1, 1, 0), (4, .if_icmp .ge 14, 3, 18), (7, .aload_n 0, 1, 0), (8, .invokevirtual 315, 3, 0), (11, .pop, 1, 0), (12, .iinc 2 1, 3, 0), (15, .goto (-13), 3, 2)], [(18, .return_, 1, 0)]]
/-- X10_callsGo -/
def rw_295 : am_Row := (295, (10, 3, none, 2, 1, 0, 0), ⟨"IslandCallModel", "callsGo", "(I)V"⟩, prog_12_method_114_code, cd_295)
def cd_296 : List (List (Nat × Instr × Nat × Nat)) := [[(0, .iload_n 1, 1, 0), (1, .i2l, 1, 0), (2, .lconst 0, 1, 0), (3, .ldc2_w 363, 3, 0), (6, .invokestatic 256, 3, 0), (9, .ifCond .ne 9, 3, 18), (12, .aload_n 0, 1, 0), (13, .iconst 1, 1, 0), (14, .invokevirtual 78, 3, 0)], [(17, .ireturn, 1, 0), (18, .aload_n 0, 1, 0), (19, .sipush 2496, 3, 0), (22, .invokevirtual 365, 3, 0), (25, .aload_n 0, 1, 0), (26, .iload_n 1, 1, 0), (27, .invokevirtual 368, 3, 0), (30, .aload_n 0, 1, 0), (31, .getfield 7, 3, 0)], [(34, .bipush 7, 2, 0), (36, .iaload, 1, 0), (37, .istore_n 2, 1, 0), (38, .aload_n 0, 1, 0), (39, .sipush 2496, 3, 0), (42, .invokevirtual 371, 3, 0), (45, .aload_n 0, 1, 0), (46, .iload_n 2, 1, 0), (47, .invokevirtual 82, 3, 0)], [(50, .ireturn, 1, 0)]]
/-- X10_outIn -/
def rw_296 : am_Row := (296, (10, 3, some (.int), 2, 1, 0, 0), ⟨"IslandCallModel", "outIn", "(I)I"⟩, prog_12_method_115_code, cd_296)
def cd_297 : List (List (Nat × Instr × Nat × Nat)) := [[(0, .aload_n 0, 1, 0), (1, .iload_n 1, 1, 0), (2, .invokevirtual 290, 3, 0), (5, .ifCond .ne 9, 3, 14), (8, .aload_n 0, 1, 0), (9, .iconst 1, 1, 0), (10, .invokevirtual 78, 3, 0), (13, .ireturn, 1, 0), (14, .aload_n 0, 1, 0), (15, .iload_n 1, 1, 0)], [(16, .invokevirtual 296, 3, 0), (19, .ifCond .eq 10, 3, 29), (22, .aload_n 0, 1, 0), (23, .bipush 7, 2, 0), (25, .invokevirtual 78, 3, 0), (28, .ireturn, 1, 0), (29, .aload_n 0, 1, 0), (30, .sipush 2496, 3, 0)], [(33, .invokevirtual 365, 3, 0), (36, .iconst 0, 1, 0), (37, .istore_n 2, 1, 0), (38, .iload_n 2, 1, 0), (39, .bipush 60, 2, 0), (41, .if_icmp .ge 22, 3, 63), (44, .aload_n 0, 1, 0), (45, .iload_n 1, 1, 0), (46, .invokevirtual 296, 3, 0)], [(49, .ifCond .ne 14, 3, 63), (52, .aload_n 0, 1, 0), (53, .invokevirtual 315, 3, 0), (56, .pop, 1, 0), (57, .iinc 2 1, 3, 0), (60, .goto (-22), 3, 38), (63, .aload_n 0, 1, 0)], [(64, .iload_n 1, 1, 0), (65, .invokevirtual 296, 3, 0), (68, .istore_n 3, 1, 0), (69, .aload_n 0, 1, 0), (70, .sipush 2496, 3, 0), (73, .invokevirtual 371, 3, 0), (76, .iload_n 3, 1, 0), (77, .ifCond .eq 11, 3, 88)], [(80, .aload_n 0, 1, 0), (81, .iload_n 2, 1, 0), (82, .invokevirtual 82, 3, 0), (85, .goto 9, 3, 94), (88, .aload_n 0, 1, 0), (89, .bipush 6, 2, 0), (91, .invokevirtual 78, 3, 0), (94, .ireturn, 1, 0)]]
/-- X10_outAt -/
def rw_297 : am_Row := (297, (10, 4, some (.int), 2, 1, 0, 0), ⟨"IslandCallModel", "outAt", "(I)I"⟩, prog_12_method_116_code, cd_297)
def cd_298 : List (List (Nat × Instr × Nat × Nat)) := [[(0, .aload_n 0, 1, 0), (1, .iload_n 1, 1, 0), (2, .invokevirtual 290, 3, 0), (5, .ifCond .eq 15, 3, 20), (8, .iload_n 2, 1, 0), (9, .i2l, 1, 0), (10, .lconst 0, 1, 0), (11, .ldc2_w 363, 3, 0), (14, .invokestatic 256, 3, 0)], [(17, .ifCond .ne 9, 3, 26), (20, .aload_n 0, 1, 0), (21, .iconst 1, 1, 0), (22, .invokevirtual 78, 3, 0), (25, .ireturn, 1, 0), (26, .aload_n 0, 1, 0), (27, .sipush 2496, 3, 0), (30, .invokevirtual 365, 3, 0)], [(33, .aload_n 0, 1, 0), (34, .iload_n 2, 1, 0), (35, .invokevirtual 368, 3, 0), (38, .aload_n 0, 1, 0), (39, .iload_n 1, 1, 0), (40, .iconst 0, 1, 0), (41, .invokevirtual 266, 3, 0), (44, .istore_n 3, 1, 0), (45, .aload_n 0, 1, 0), (46, .sipush 2496, 3, 0)], [(49, .invokevirtual 371, 3, 0), (52, .aload_n 0, 1, 0), (53, .iload_n 3, 1, 0), (54, .invokevirtual 82, 3, 0), (57, .ireturn, 1, 0)]]
/-- X10_holdIn -/
def rw_298 : am_Row := (298, (10, 4, some (.int), 3, 1, 0, 0), ⟨"IslandCallModel", "holdIn", "(II)I"⟩, prog_12_method_117_code, cd_298)
def cd_299 : List (List (Nat × Instr × Nat × Nat)) := [[(0, .aload_n 0, 1, 0), (1, .iload_n 1, 1, 0), (2, .invokevirtual 290, 3, 0), (5, .ifCond .eq 22, 3, 27), (8, .iload_n 2, 1, 0), (9, .invokestatic 89, 3, 0), (12, .ifCond .eq 15, 3, 27), (15, .iload_n 3, 1, 0)], [(16, .i2l, 1, 0), (17, .lconst 0, 1, 0), (18, .ldc2_w 374, 3, 0), (21, .invokestatic 256, 3, 0), (24, .ifCond .ne 5, 3, 29), (27, .iconst 1, 1, 0), (28, .ireturn, 1, 0), (29, .aload_n 0, 1, 0), (30, .getfield 24, 3, 0)], [(33, .iload_n 2, 1, 0), (34, .iaload, 1, 0), (35, .iconst (-1), 1, 0), (36, .if_icmp .ne 5, 3, 41), (39, .iconst 2, 1, 0), (40, .ireturn, 1, 0), (41, .aload_n 0, 1, 0), (42, .getfield 24, 3, 0), (45, .iload_n 2, 1, 0), (46, .iaload, 1, 0), (47, .iconst 2, 1, 0)], [(48, .iload_n 3, 1, 0), (49, .imul, 1, 0), (50, .if_icmp .ge 5, 3, 55), (53, .iconst 3, 1, 0), (54, .ireturn, 1, 0), (55, .iconst 0, 1, 0), (56, .istore 4, 2, 0), (58, .iload 4, 2, 0), (60, .iload_n 3, 1, 0), (61, .if_icmp .ge 55, 3, 116)], [(64, .aload_n 0, 1, 0), (65, .aload_n 0, 1, 0), (66, .getfield 27, 3, 0), (69, .bipush 60, 2, 0), (71, .iload_n 2, 1, 0), (72, .imul, 1, 0), (73, .iconst 2, 1, 0), (74, .iload 4, 2, 0), (76, .imul, 1, 0), (77, .iadd, 1, 0), (78, .laload, 1, 0), (79, .invokevirtual 335, 3, 0)], [(82, .ifCond .eq 26, 3, 108), (85, .aload_n 0, 1, 0), (86, .aload_n 0, 1, 0), (87, .getfield 27, 3, 0), (90, .bipush 60, 2, 0), (92, .iload_n 2, 1, 0), (93, .imul, 1, 0), (94, .iconst 2, 1, 0), (95, .iload 4, 2, 0)], [(97, .imul, 1, 0), (98, .iadd, 1, 0), (99, .iconst 1, 1, 0), (100, .iadd, 1, 0), (101, .laload, 1, 0), (102, .invokevirtual 342, 3, 0), (105, .ifCond .ne 5, 3, 110), (108, .iconst 5, 1, 0), (109, .ireturn, 1, 0), (110, .iinc 4 1, 3, 0)], [(113, .goto (-55), 3, 58), (116, .iconst 0, 1, 0), (117, .ireturn, 1, 0)]]
/-- X10_wrongFits -/
def rw_299 : am_Row := (299, (10, 5, some (.int), 4, 1, 0, 0), ⟨"IslandCallModel", "wrongFits", "(III)I"⟩, prog_12_method_118_code, cd_299)
def cd_300 : List (List (Nat × Instr × Nat × Nat)) := [[(0, .iconst 0, 1, 0), (1, .istore 5, 2, 0), (3, .iload 5, 2, 0), (5, .iload 4, 2, 0), (7, .if_icmp .ge 93, 3, 100), (10, .aload_n 0, 1, 0), (11, .getfield 27, 3, 0), (14, .bipush 60, 2, 0)], [(16, .iload_n 3, 1, 0), (17, .imul, 1, 0), (18, .iconst 2, 1, 0), (19, .iload 5, 2, 0), (21, .imul, 1, 0), (22, .iadd, 1, 0), (23, .laload, 1, 0), (24, .l2i, 1, 0), (25, .istore 6, 2, 0), (27, .aload_n 0, 1, 0), (28, .getfield 27, 3, 0), (31, .bipush 60, 2, 0)], [(33, .iload_n 3, 1, 0), (34, .imul, 1, 0), (35, .iconst 2, 1, 0), (36, .iload 5, 2, 0), (38, .imul, 1, 0), (39, .iadd, 1, 0), (40, .iconst 1, 1, 0), (41, .iadd, 1, 0), (42, .laload, 1, 0), (43, .l2i, 1, 0), (44, .istore 7, 2, 0), (46, .iconst 0, 1, 0), (47, .iload_n 2, 1, 0)], [(48, .aload_n 0, 1, 0), (49, .iload_n 1, 1, 0), (50, .iload 6, 2, 0), (52, .invokevirtual 272, 3, 0), (55, .isub, 1, 0), (56, .invokestatic 275, 3, 0), (59, .istore 8, 2, 0), (61, .aload_n 0, 1, 0), (62, .iload 7, 2, 0)], [(64, .iload_n 1, 1, 0), (65, .invokevirtual 263, 3, 0), (68, .aload_n 0, 1, 0), (69, .iload_n 1, 1, 0), (70, .invokevirtual 269, 3, 0), (73, .iload 7, 2, 0), (75, .iand, 1, 0), (76, .invokestatic 305, 3, 0), (79, .iload 8, 2, 0)], [(81, .if_icmp .lt 7, 3, 88), (84, .iconst 1, 1, 0), (85, .goto 4, 3, 89), (88, .iconst 0, 1, 0), (89, .if_icmp .eq 5, 3, 94), (92, .iconst 0, 1, 0), (93, .ireturn, 1, 0), (94, .iinc 5 1, 3, 0)], [(97, .goto (-94), 3, 3), (100, .iconst 1, 1, 0), (101, .ireturn, 1, 0)]]
/-- X10_doesFit -/
def rw_300 : am_Row := (300, (10, 9, some (.boolean), 5, 1, 0, 0), ⟨"IslandCallModel", "doesFit", "(IIII)Z"⟩, prog_12_method_119_code, cd_300)
def cd_301 : List (List (Nat × Instr × Nat × Nat)) := [[(0, .iconst 0, 1, 0), (1, .istore 4, 2, 0), (3, .iconst 0, 1, 0), (4, .istore 5, 2, 0), (6, .iload 5, 2, 0), (8, .bipush 9, 2, 0), (10, .if_icmp .gt 34, 3, 44), (13, .iload 4, 2, 0), (15, .aload_n 0, 1, 0)], [(16, .iload_n 1, 1, 0), (17, .iload 5, 2, 0), (19, .iload_n 2, 1, 0), (20, .iload_n 3, 1, 0), (21, .invokevirtual 376, 3, 0), (24, .ifCond .eq 10, 3, 34), (27, .iconst 1, 1, 0), (28, .iload 5, 2, 0), (30, .ishl, 1, 0), (31, .goto 4, 3, 35)], [(34, .iconst 0, 1, 0), (35, .ior, 1, 0), (36, .istore 4, 2, 0), (38, .iinc 5 1, 3, 0), (41, .goto (-35), 3, 6), (44, .iload 4, 2, 0), (46, .ireturn, 1, 0)]]
/-- X10_holdsOf -/
def rw_301 : am_Row := (301, (10, 6, some (.int), 4, 1, 0, 0), ⟨"IslandCallModel", "holdsOf", "(III)I"⟩, prog_12_method_120_code, cd_301)
def cd_302 : List (List (Nat × Instr × Nat × Nat)) := [[(0, .aload_n 0, 1, 0), (1, .iload_n 1, 1, 0), (2, .iload_n 2, 1, 0), (3, .iload_n 3, 1, 0), (4, .invokevirtual 380, 3, 0), (7, .istore 4, 2, 0), (9, .iload 4, 2, 0), (11, .ifCond .le 12, 3, 23), (14, .aload_n 0, 1, 0), (15, .iload 4, 2, 0)], [(17, .invokevirtual 78, 3, 0), (20, .goto 17, 3, 37), (23, .aload_n 0, 1, 0), (24, .aload_n 0, 1, 0), (25, .iload_n 1, 1, 0), (26, .iload_n 2, 1, 0), (27, .iload_n 3, 1, 0), (28, .invokevirtual 384, 3, 0), (31, .invokestatic 305, 3, 0)], [(34, .invokevirtual 82, 3, 0), (37, .ireturn, 1, 0)]]
/-- X10_fits -/
def rw_302 : am_Row := (302, (10, 5, some (.int), 4, 1, 0, 0), ⟨"IslandCallModel", "fits", "(III)I"⟩, prog_12_method_121_code, cd_302)
def cd_303 : List (List (Nat × Instr × Nat × Nat)) := [[(0, .iload 4, 2, 0), (2, .ifCond .lt 9, 3, 11), (5, .iload 4, 2, 0), (7, .iconst 1, 1, 0), (8, .if_icmp .le 7, 3, 15), (11, .iconst 1, 1, 0), (12, .goto 10, 3, 22), (15, .aload_n 0, 1, 0)], [(16, .iload_n 1, 1, 0), (17, .iload_n 2, 1, 0), (18, .iload_n 3, 1, 0), (19, .invokevirtual 380, 3, 0), (22, .istore 5, 2, 0), (24, .iload 5, 2, 0), (26, .ifCond .le 10, 3, 36), (29, .aload_n 0, 1, 0), (30, .iload 5, 2, 0)], [(32, .invokevirtual 78, 3, 0), (35, .ireturn, 1, 0), (36, .aload_n 0, 1, 0), (37, .iload_n 1, 1, 0), (38, .iload_n 2, 1, 0), (39, .iload_n 3, 1, 0), (40, .invokevirtual 384, 3, 0), (43, .istore 6, 2, 0), (45, .iload 6, 2, 0), (47, .ifCond .ne 10, 3, 57)], [(50, .aload_n 0, 1, 0), (51, .bipush 6, 2, 0), (53, .invokevirtual 78, 3, 0), (56, .ireturn, 1, 0), (57, .iload 4, 2, 0), (59, .ifCond .ne 7, 3, 66), (62, .iconst 0, 1, 0), (63, .goto 5, 3, 68)], [(66, .bipush 9, 2, 0), (68, .istore 7, 2, 0), (70, .aload_n 0, 1, 0), (71, .iload 6, 2, 0), (73, .iload 7, 2, 0), (75, .invokevirtual 263, 3, 0), (78, .ifCond .ne 21, 3, 99)], [(81, .iload 7, 2, 0), (83, .iload 4, 2, 0), (85, .ifCond .ne 7, 3, 92), (88, .iconst 1, 1, 0), (89, .goto 4, 3, 93), (92, .iconst (-1), 1, 0), (93, .iadd, 1, 0), (94, .istore 7, 2, 0)], [(96, .goto (-26), 3, 70), (99, .aload_n 0, 1, 0), (100, .iload 7, 2, 0), (102, .invokevirtual 82, 3, 0), (105, .ireturn, 1, 0)]]
/-- X10_fitsAt -/
def rw_303 : am_Row := (303, (10, 8, some (.int), 5, 1, 0, 0), ⟨"IslandCallModel", "fitsAt", "(IIII)I"⟩, prog_12_method_122_code, cd_303)
def cd_304 : List (List (Nat × Instr × Nat × Nat)) := [[(0, .aload_n 0, 1, 0), (1, .iload_n 1, 1, 0), (2, .iload_n 2, 1, 0), (3, .iload_n 3, 1, 0), (4, .invokevirtual 380, 3, 0), (7, .istore 4, 2, 0), (9, .iload 4, 2, 0), (11, .ifCond .le 10, 3, 21), (14, .aload_n 0, 1, 0), (15, .iload 4, 2, 0)], [(17, .invokevirtual 78, 3, 0), (20, .ireturn, 1, 0), (21, .aload_n 0, 1, 0), (22, .iload_n 1, 1, 0), (23, .iload_n 2, 1, 0), (24, .iload_n 3, 1, 0), (25, .invokevirtual 384, 3, 0), (28, .istore 5, 2, 0), (30, .iconst (-1), 1, 0), (31, .istore 6, 2, 0)], [(33, .bipush 11, 2, 0), (35, .istore 7, 2, 0), (37, .iconst 0, 1, 0), (38, .istore 8, 2, 0), (40, .iload 8, 2, 0), (42, .aload_n 0, 1, 0), (43, .getfield 7, 3, 0), (46, .iconst 0, 1, 0), (47, .iaload, 1, 0)], [(48, .if_icmp .ge 72, 3, 120), (51, .iload 5, 2, 0), (53, .invokestatic 305, 3, 0), (56, .iconst 1, 1, 0), (57, .if_icmp .le 63, 3, 120), (60, .iload 5, 2, 0), (62, .iconst 2, 1, 0), (63, .aload_n 0, 1, 0)], [(64, .iload_n 1, 1, 0), (65, .iconst 1, 1, 0), (66, .iload 8, 2, 0), (68, .ishl, 1, 0), (69, .invokevirtual 272, 3, 0), (72, .ishl, 1, 0), (73, .iconst 1, 1, 0), (74, .isub, 1, 0), (75, .iand, 1, 0), (76, .invokestatic 305, 3, 0), (79, .istore 9, 2, 0)], [(81, .iload 9, 2, 0), (83, .iload 5, 2, 0), (85, .invokestatic 305, 3, 0), (88, .iload 9, 2, 0), (90, .isub, 1, 0), (91, .invokestatic 275, 3, 0), (94, .istore 10, 2, 0)], [(96, .iload 10, 2, 0), (98, .iload 7, 2, 0), (100, .if_icmp .lt 6, 3, 106), (103, .goto 11, 3, 114), (106, .iload 10, 2, 0), (108, .istore 7, 2, 0), (110, .iload 8, 2, 0)], [(112, .istore 6, 2, 0), (114, .iinc 8 1, 3, 0), (117, .goto (-77), 3, 40), (120, .aload_n 0, 1, 0), (121, .iload 6, 2, 0), (123, .invokevirtual 354, 3, 0), (126, .ireturn, 1, 0)]]
/-- X10_ask -/
def rw_304 : am_Row := (304, (10, 11, some (.int), 4, 1, 0, 0), ⟨"IslandCallModel", "ask", "(III)I"⟩, prog_12_method_123_code, cd_304)
def cd_305 : List (List (Nat × Instr × Nat × Nat)) := [[(0, .aload_n 0, 1, 0), (1, .invokevirtual 278, 3, 0), (4, .istore_n 1, 1, 0), (5, .iconst 0, 1, 0), (6, .istore_n 2, 1, 0), (7, .iload_n 2, 1, 0), (8, .aload_n 0, 1, 0), (9, .invokevirtual 260, 3, 0), (12, .if_icmp .gt 119, 3, 131), (15, .iload_n 2, 1, 0)], [(16, .aload_n 0, 1, 0), (17, .getfield 7, 3, 0), (20, .bipush 7, 2, 0), (22, .iaload, 1, 0), (23, .iand, 1, 0), (24, .ifCond .ne 101, 3, 125), (27, .iload_n 2, 1, 0), (28, .invokestatic 305, 3, 0), (31, .iload_n 1, 1, 0)], [(32, .invokestatic 305, 3, 0), (35, .if_icmp .gt 90, 3, 125), (38, .iload_n 2, 1, 0), (39, .invokestatic 305, 3, 0), (42, .iload_n 1, 1, 0), (43, .invokestatic 305, 3, 0), (46, .if_icmp .ne 11, 3, 57)], [(49, .iload_n 2, 1, 0), (50, .iload_n 1, 1, 0), (51, .if_icmp .lt 6, 3, 57), (54, .goto 71, 3, 125), (57, .iconst 1, 1, 0), (58, .istore_n 3, 1, 0), (59, .iconst 0, 1, 0), (60, .istore 4, 2, 0), (62, .iload 4, 2, 0)], [(64, .aload_n 0, 1, 0), (65, .getfield 7, 3, 0), (68, .iconst 1, 1, 0), (69, .iaload, 1, 0), (70, .if_icmp .ge 49, 3, 119), (73, .iload_n 3, 1, 0), (74, .ifCond .eq 37, 3, 111), (77, .aload_n 0, 1, 0), (78, .iload 4, 2, 0)], [(80, .invokevirtual 296, 3, 0), (83, .ifCond .ne 24, 3, 107), (86, .aload_n 0, 1, 0), (87, .iload_n 2, 1, 0), (88, .iload 4, 2, 0), (90, .invokevirtual 263, 3, 0), (93, .ifCond .ne 14, 3, 107)], [(96, .aload_n 0, 1, 0), (97, .iload 4, 2, 0), (99, .invokevirtual 269, 3, 0), (102, .iload_n 2, 1, 0), (103, .iand, 1, 0), (104, .ifCond .eq 7, 3, 111), (107, .iconst 1, 1, 0), (108, .goto 4, 3, 112), (111, .iconst 0, 1, 0)], [(112, .istore_n 3, 1, 0), (113, .iinc 4 1, 3, 0), (116, .goto (-54), 3, 62), (119, .iload_n 3, 1, 0), (120, .ifCond .eq 5, 3, 125), (123, .iload_n 2, 1, 0), (124, .istore_n 1, 1, 0), (125, .iinc 2 1, 3, 0)], [(128, .goto (-121), 3, 7), (131, .iload_n 1, 1, 0), (132, .ireturn, 1, 0)]]
/-- X10_lookoutsOf -/
def rw_305 : am_Row := (305, (10, 5, some (.int), 1, 1, 0, 0), ⟨"IslandCallModel", "lookoutsOf", "()I"⟩, prog_12_method_124_code, cd_305)
def cd_306 : List (List (Nat × Instr × Nat × Nat)) := [[(0, .aload_n 0, 1, 0), (1, .aload_n 0, 1, 0), (2, .invokevirtual 387, 3, 0), (5, .invokestatic 305, 3, 0), (8, .invokevirtual 82, 3, 0), (11, .ireturn, 1, 0)]]
/-- X10_lookouts -/
def rw_306 : am_Row := (306, (10, 1, some (.int), 1, 1, 0, 0), ⟨"IslandCallModel", "lookouts", "()I"⟩, prog_12_method_125_code, cd_306)
def cd_307 : List (List (Nat × Instr × Nat × Nat)) := [[(0, .aload_n 0, 1, 0), (1, .aload_n 0, 1, 0), (2, .invokevirtual 387, 3, 0), (5, .invokevirtual 82, 3, 0), (8, .ireturn, 1, 0)]]
/-- X10_lookoutSet -/
def rw_307 : am_Row := (307, (10, 1, some (.int), 1, 1, 0, 0), ⟨"IslandCallModel", "lookoutSet", "()I"⟩, prog_12_method_126_code, cd_307)
def cd_308 : List (List (Nat × Instr × Nat × Nat)) := [[(0, .iconst 0, 1, 0), (1, .istore_n 1, 1, 0), (2, .iconst 0, 1, 0), (3, .istore_n 2, 1, 0), (4, .iload_n 2, 1, 0), (5, .aload_n 0, 1, 0), (6, .getfield 7, 3, 0), (9, .iconst 1, 1, 0), (10, .iaload, 1, 0), (11, .if_icmp .ge 79, 3, 90), (14, .iload_n 2, 1, 0), (15, .iconst 1, 1, 0)], [(16, .iadd, 1, 0), (17, .istore_n 3, 1, 0), (18, .iload_n 3, 1, 0), (19, .aload_n 0, 1, 0), (20, .getfield 7, 3, 0), (23, .iconst 1, 1, 0), (24, .iaload, 1, 0), (25, .if_icmp .ge 59, 3, 84), (28, .iload_n 1, 1, 0), (29, .aload_n 0, 1, 0), (30, .iload_n 2, 1, 0), (31, .invokevirtual 296, 3, 0)], [(34, .ifCond .ne 41, 3, 75), (37, .aload_n 0, 1, 0), (38, .iload_n 3, 1, 0), (39, .invokevirtual 296, 3, 0), (42, .ifCond .ne 33, 3, 75), (45, .aload_n 0, 1, 0), (46, .aload_n 0, 1, 0), (47, .iload_n 2, 1, 0)], [(48, .invokevirtual 269, 3, 0), (51, .iload_n 3, 1, 0), (52, .invokevirtual 263, 3, 0), (55, .ifCond .eq 20, 3, 75), (58, .aload_n 0, 1, 0), (59, .aload_n 0, 1, 0), (60, .iload_n 3, 1, 0), (61, .invokevirtual 269, 3, 0)], [(64, .iload_n 2, 1, 0), (65, .invokevirtual 263, 3, 0), (68, .ifCond .eq 7, 3, 75), (71, .iconst 1, 1, 0), (72, .goto 4, 3, 76), (75, .iconst 0, 1, 0), (76, .iadd, 1, 0), (77, .istore_n 1, 1, 0), (78, .iinc 3 1, 3, 0)], [(81, .goto (-63), 3, 18), (84, .iinc 2 1, 3, 0), (87, .goto (-83), 3, 4), (90, .aload_n 0, 1, 0), (91, .iload_n 1, 1, 0), (92, .invokevirtual 82, 3, 0), (95, .ireturn, 1, 0)]]
/-- X10_couples -/
def rw_308 : am_Row := (308, (10, 4, some (.int), 1, 1, 0, 0), ⟨"IslandCallModel", "couples", "()I"⟩, prog_12_method_127_code, cd_308)
def cd_309 : List (List (Nat × Instr × Nat × Nat)) := [[(0, .iconst (-1), 1, 0), (1, .istore_n 3, 1, 0), (2, .aload_n 0, 1, 0), (3, .iconst (-1), 1, 0), (4, .putfield 390, 3, 0), (7, .iconst 0, 1, 0), (8, .istore 4, 2, 0), (10, .iload 4, 2, 0), (12, .aload_n 0, 1, 0), (13, .getfield 7, 3, 0)], [(16, .iconst 0, 1, 0), (17, .iaload, 1, 0), (18, .if_icmp .gt 73, 3, 91), (21, .aload_n 0, 1, 0), (22, .getfield 53, 3, 0), (25, .iload 4, 2, 0), (27, .aload_n 0, 1, 0), (28, .getfield 7, 3, 0), (31, .iconst 0, 1, 0)], [(32, .iaload, 1, 0), (33, .if_icmp .ne 7, 3, 40), (36, .iload_n 1, 1, 0), (37, .goto 9, 3, 46), (40, .iload_n 1, 1, 0), (41, .iconst 1, 1, 0), (42, .iload 4, 2, 0), (44, .ishl, 1, 0), (45, .ixor, 1, 0), (46, .iaload, 1, 0), (47, .istore 5, 2, 0)], [(49, .iload_n 3, 1, 0), (50, .iconst (-1), 1, 0), (51, .if_icmp .eq 25, 3, 76), (54, .iload_n 2, 1, 0), (55, .ifCond .eq 12, 3, 67), (58, .iload 5, 2, 0), (60, .iload_n 3, 1, 0), (61, .if_icmp .gt 15, 3, 76)], [(64, .goto 21, 3, 85), (67, .iload 5, 2, 0), (69, .iload_n 3, 1, 0), (70, .if_icmp .lt 6, 3, 76), (73, .goto 12, 3, 85), (76, .iload 5, 2, 0), (78, .istore_n 3, 1, 0), (79, .aload_n 0, 1, 0)], [(80, .iload 4, 2, 0), (82, .putfield 390, 3, 0), (85, .iinc 4 1, 3, 0), (88, .goto (-78), 3, 10), (91, .iload_n 3, 1, 0), (92, .ireturn, 1, 0)]]
/-- X10_turnsTo -/
def rw_309 : am_Row := (309, (10, 6, some (.int), 3, 1, 0, 0), ⟨"IslandCallModel", "turnsTo", "(IZ)I"⟩, prog_12_method_128_code, cd_309)
def cd_310 : List (List (Nat × Instr × Nat × Nat)) := [[(0, .iconst 0, 1, 0), (1, .istore_n 2, 1, 0), (2, .iload_n 2, 1, 0), (3, .aload_n 0, 1, 0), (4, .invokevirtual 253, 3, 0), (7, .if_icmp .gt 27, 3, 34), (10, .aload_n 0, 1, 0), (11, .getfield 53, 3, 0), (14, .iload_n 2, 1, 0), (15, .aload_n 0, 1, 0)], [(16, .aload_n 0, 1, 0), (17, .invokevirtual 278, 3, 0), (20, .iload_n 2, 1, 0), (21, .invokevirtual 312, 3, 0), (24, .invokestatic 305, 3, 0), (27, .iastore, 1, 0), (28, .iinc 2 1, 3, 0), (31, .goto (-29), 3, 2)], [(34, .iload_n 1, 1, 0), (35, .iconst 1, 1, 0), (36, .isub, 1, 0), (37, .istore_n 2, 1, 0), (38, .iload_n 2, 1, 0), (39, .ifCond .le 75, 3, 114), (42, .iconst 0, 1, 0), (43, .istore_n 3, 1, 0), (44, .iload_n 3, 1, 0), (45, .aload_n 0, 1, 0), (46, .invokevirtual 253, 3, 0)], [(49, .if_icmp .gt 31, 3, 80), (52, .aload_n 0, 1, 0), (53, .getfield 50, 3, 0), (56, .iload_n 3, 1, 0), (57, .aload_n 0, 1, 0), (58, .iload_n 3, 1, 0), (59, .iload_n 2, 1, 0), (60, .iconst 2, 1, 0), (61, .irem, 1, 0), (62, .ifCond .ne 7, 3, 69)], [(65, .iconst 1, 1, 0), (66, .goto 4, 3, 70), (69, .iconst 0, 1, 0), (70, .invokevirtual 393, 3, 0), (73, .iastore, 1, 0), (74, .iinc 3 1, 3, 0), (77, .goto (-33), 3, 44)], [(80, .iconst 0, 1, 0), (81, .istore_n 3, 1, 0), (82, .iload_n 3, 1, 0), (83, .aload_n 0, 1, 0), (84, .invokevirtual 253, 3, 0), (87, .if_icmp .gt 21, 3, 108), (90, .aload_n 0, 1, 0), (91, .getfield 53, 3, 0), (94, .iload_n 3, 1, 0), (95, .aload_n 0, 1, 0)], [(96, .getfield 50, 3, 0), (99, .iload_n 3, 1, 0), (100, .iaload, 1, 0), (101, .iastore, 1, 0), (102, .iinc 3 1, 3, 0), (105, .goto (-23), 3, 82), (108, .iinc 2 (-1), 3, 0), (111, .goto (-73), 3, 38)], [(114, .iload_n 1, 1, 0), (115, .ifCond .ne 18, 3, 133), (118, .aload_n 0, 1, 0), (119, .getfield 53, 3, 0), (122, .aload_n 0, 1, 0), (123, .getfield 7, 3, 0), (126, .bipush 6, 2, 0)], [(128, .iaload, 1, 0), (129, .iaload, 1, 0), (130, .goto 15, 3, 145), (133, .aload_n 0, 1, 0), (134, .aload_n 0, 1, 0), (135, .getfield 7, 3, 0), (138, .bipush 6, 2, 0), (140, .iaload, 1, 0), (141, .iconst 1, 1, 0), (142, .invokevirtual 393, 3, 0)], [(145, .ireturn, 1, 0)]]
/-- X10_playing -/
def rw_310 : am_Row := (310, (10, 4, some (.int), 2, 1, 0, 0), ⟨"IslandCallModel", "playing", "(I)I"⟩, prog_12_method_129_code, cd_310)
def cd_311 : List (List (Nat × Instr × Nat × Nat)) := [[(0, .iload_n 1, 1, 0), (1, .i2l, 1, 0), (2, .lconst 0, 1, 0), (3, .ldc2_w 331, 3, 0), (6, .invokestatic 256, 3, 0), (9, .ifCond .eq 13, 3, 22), (12, .aload_n 0, 1, 0), (13, .aload_n 0, 1, 0), (14, .iload_n 1, 1, 0), (15, .invokevirtual 397, 3, 0)], [(18, .invokevirtual 82, 3, 0), (21, .ireturn, 1, 0), (22, .aload_n 0, 1, 0), (23, .iconst 1, 1, 0), (24, .invokevirtual 78, 3, 0), (27, .ireturn, 1, 0)]]
/-- X10_game -/
def rw_311 : am_Row := (311, (10, 2, some (.int), 2, 1, 0, 0), ⟨"IslandCallModel", "game", "(I)I"⟩, prog_12_method_130_code, cd_311)
def cd_312 : List (List (Nat × Instr × Nat × Nat)) := [[(0, .iload_n 1, 1, 0), (1, .i2l, 1, 0), (2, .lconst 1, 1, 0), (3, .ldc2_w 331, 3, 0), (6, .invokestatic 256, 3, 0), (9, .ifCond .ne 9, 3, 18), (12, .aload_n 0, 1, 0), (13, .iconst 1, 1, 0), (14, .invokevirtual 78, 3, 0)], [(17, .ireturn, 1, 0), (18, .aload_n 0, 1, 0), (19, .iload_n 1, 1, 0), (20, .invokevirtual 397, 3, 0), (23, .pop, 1, 0), (24, .aload_n 0, 1, 0), (25, .getfield 390, 3, 0), (28, .aload_n 0, 1, 0), (29, .getfield 7, 3, 0)], [(32, .iconst 0, 1, 0), (33, .iaload, 1, 0), (34, .if_icmp .ne 12, 3, 46), (37, .aload_n 0, 1, 0), (38, .bipush 6, 2, 0), (40, .invokevirtual 78, 3, 0), (43, .goto 11, 3, 54), (46, .aload_n 0, 1, 0), (47, .aload_n 0, 1, 0)], [(48, .getfield 390, 3, 0), (51, .invokevirtual 82, 3, 0), (54, .ireturn, 1, 0)]]
/-- X10_moveOf -/
def rw_312 : am_Row := (312, (10, 2, some (.int), 2, 1, 0, 0), ⟨"IslandCallModel", "moveOf", "(I)I"⟩, prog_12_method_131_code, cd_312)
def cd_313 : List (List (Nat × Instr × Nat × Nat)) := [[(0, .iload_n 1, 1, 0), (1, .i2l, 1, 0), (2, .lconst 0, 1, 0), (3, .ldc2_w 400, 3, 0), (6, .invokestatic 256, 3, 0), (9, .ifCond .eq 15, 3, 24), (12, .iload_n 2, 1, 0), (13, .i2l, 1, 0), (14, .lconst 0, 1, 0), (15, .ldc2_w 400, 3, 0)], [(18, .invokestatic 256, 3, 0), (21, .ifCond .ne 9, 3, 30), (24, .aload_n 0, 1, 0), (25, .iconst 1, 1, 0), (26, .invokevirtual 85, 3, 0), (29, .ireturn, 1, 0), (30, .lconst 1, 1, 0), (31, .lstore_n 3, 1, 0)], [(32, .iconst 0, 1, 0), (33, .istore 5, 2, 0), (35, .iload 5, 2, 0), (37, .bipush 13, 2, 0), (39, .if_icmp .ge 26, 3, 65), (42, .aload_n 0, 1, 0), (43, .getfield 56, 3, 0), (46, .iload 5, 2, 0)], [(48, .iload 5, 2, 0), (50, .ifCond .ne 7, 3, 57), (53, .lconst 1, 1, 0), (54, .goto 4, 3, 58), (57, .lconst 0, 1, 0), (58, .lastore, 1, 0), (59, .iinc 5 1, 3, 0), (62, .goto (-27), 3, 35)], [(65, .iconst 0, 1, 0), (66, .istore 5, 2, 0), (68, .iload 5, 2, 0), (70, .iload_n 1, 1, 0), (71, .if_icmp .ge 82, 3, 153), (74, .bipush 12, 2, 0), (76, .istore 6, 2, 0), (78, .iload 6, 2, 0)], [(80, .ifCond .lt 61, 3, 141), (83, .aload_n 0, 1, 0), (84, .getfield 56, 3, 0), (87, .iload 6, 2, 0), (89, .aload_n 0, 1, 0), (90, .getfield 56, 3, 0), (93, .iload 6, 2, 0), (95, .laload, 1, 0)], [(96, .bipush 16, 2, 0), (98, .aload_n 0, 1, 0), (99, .getfield 7, 3, 0), (102, .iconst 4, 1, 0), (103, .iaload, 1, 0), (104, .isub, 1, 0), (105, .i2l, 1, 0), (106, .lmul, 1, 0), (107, .iload 6, 2, 0), (109, .ifCond .ne 7, 3, 116)], [(112, .lconst 0, 1, 0), (113, .goto 20, 3, 133), (116, .aload_n 0, 1, 0), (117, .getfield 56, 3, 0), (120, .iload 6, 2, 0), (122, .iconst 1, 1, 0), (123, .isub, 1, 0), (124, .laload, 1, 0), (125, .aload_n 0, 1, 0), (126, .getfield 7, 3, 0)], [(129, .iconst 4, 1, 0), (130, .iaload, 1, 0), (131, .i2l, 1, 0), (132, .lmul, 1, 0), (133, .ladd, 1, 0), (134, .lastore, 1, 0), (135, .iinc 6 (-1), 3, 0), (138, .goto (-60), 3, 78), (141, .lload_n 3, 1, 0), (142, .ldc2_w 333, 3, 0)], [(145, .lmul, 1, 0), (146, .lstore_n 3, 1, 0), (147, .iinc 5 1, 3, 0), (150, .goto (-82), 3, 68), (153, .lconst 0, 1, 0), (154, .lstore 5, 2, 0), (156, .iload_n 2, 1, 0), (157, .istore 7, 2, 0), (159, .iload 7, 2, 0)], [(161, .bipush 13, 2, 0), (163, .if_icmp .ge 21, 3, 184), (166, .lload 5, 2, 0), (168, .aload_n 0, 1, 0), (169, .getfield 56, 3, 0), (172, .iload 7, 2, 0), (174, .laload, 1, 0), (175, .ladd, 1, 0)], [(176, .lstore 5, 2, 0), (178, .iinc 7 1, 3, 0), (181, .goto (-22), 3, 159), (184, .aload_n 0, 1, 0), (185, .lload 5, 2, 0), (187, .lload_n 3, 1, 0), (188, .invokevirtual 402, 3, 0), (191, .ireturn, 1, 0)]]
/-- X10_tides -/
def rw_313 : am_Row := (313, (10, 8, some (.boolean), 3, 1, 0, 0), ⟨"IslandCallModel", "tides", "(II)Z"⟩, prog_12_method_132_code, cd_313)
def cd_314 : List (List (Nat × Instr × Nat × Nat)) := [[(0, .aload_n 0, 1, 0), (1, .iload_n 1, 1, 0), (2, .invokevirtual 290, 3, 0), (5, .ifCond .ne 9, 3, 14), (8, .aload_n 0, 1, 0), (9, .iconst 1, 1, 0), (10, .invokevirtual 85, 3, 0), (13, .ireturn, 1, 0), (14, .aload_n 0, 1, 0), (15, .getfield 7, 3, 0)], [(18, .iconst 5, 1, 0), (19, .iaload, 1, 0), (20, .ifCond .ne 12, 3, 32), (23, .aload_n 0, 1, 0), (24, .bipush 6, 2, 0), (26, .invokevirtual 85, 3, 0), (29, .goto 21, 3, 50)], [(32, .aload_n 0, 1, 0), (33, .aload_n 0, 1, 0), (34, .iload_n 1, 1, 0), (35, .iconst 1, 1, 0), (36, .invokevirtual 266, 3, 0), (39, .i2l, 1, 0), (40, .aload_n 0, 1, 0), (41, .getfield 7, 3, 0), (44, .iconst 5, 1, 0), (45, .iaload, 1, 0), (46, .i2l, 1, 0), (47, .invokevirtual 402, 3, 0)], [(50, .ireturn, 1, 0)]]
/-- X10_sloth -/
def rw_314 : am_Row := (314, (10, 2, some (.boolean), 2, 1, 0, 0), ⟨"IslandCallModel", "sloth", "(I)Z"⟩, prog_12_method_133_code, cd_314)
def cd_315 : List (List (Nat × Instr × Nat × Nat)) := [[(0, .iload_n 1, 1, 0), (1, .invokestatic 89, 3, 0), (4, .ifCond .ne 9, 3, 13), (7, .aload_n 0, 1, 0), (8, .iconst 1, 1, 0), (9, .invokevirtual 78, 3, 0), (12, .ireturn, 1, 0), (13, .aload_n 0, 1, 0), (14, .getfield 24, 3, 0)], [(17, .iload_n 1, 1, 0), (18, .iaload, 1, 0), (19, .iconst (-1), 1, 0), (20, .if_icmp .ne 9, 3, 29), (23, .aload_n 0, 1, 0), (24, .iconst 2, 1, 0), (25, .invokevirtual 78, 3, 0), (28, .ireturn, 1, 0), (29, .aload_n 0, 1, 0), (30, .getfield 24, 3, 0)], [(33, .iload_n 1, 1, 0), (34, .iaload, 1, 0), (35, .aload_n 0, 1, 0), (36, .getfield 7, 3, 0), (39, .iconst 1, 1, 0), (40, .iaload, 1, 0), (41, .if_icmp .ge 9, 3, 50), (44, .aload_n 0, 1, 0), (45, .iconst 3, 1, 0), (46, .invokevirtual 78, 3, 0)], [(49, .ireturn, 1, 0), (50, .iconst 0, 1, 0), (51, .istore_n 2, 1, 0), (52, .iload_n 2, 1, 0), (53, .aload_n 0, 1, 0), (54, .getfield 7, 3, 0), (57, .iconst 1, 1, 0), (58, .iaload, 1, 0), (59, .if_icmp .ge 36, 3, 95), (62, .aload_n 0, 1, 0), (63, .getfield 27, 3, 0)], [(66, .bipush 60, 2, 0), (68, .iload_n 1, 1, 0), (69, .imul, 1, 0), (70, .iload_n 2, 1, 0), (71, .iadd, 1, 0), (72, .aload_n 0, 1, 0), (73, .iload_n 2, 1, 0), (74, .iconst 0, 1, 0), (75, .invokevirtual 266, 3, 0), (78, .i2l, 1, 0), (79, .aload_n 0, 1, 0)], [(80, .getfield 21, 3, 0), (83, .iload_n 1, 1, 0), (84, .iaload, 1, 0), (85, .invokestatic 96, 3, 0), (88, .lastore, 1, 0), (89, .iinc 2 1, 3, 0), (92, .goto (-40), 3, 52), (95, .aload_n 0, 1, 0)], [(96, .aload_n 0, 1, 0), (97, .getfield 7, 3, 0), (100, .iconst 1, 1, 0), (101, .iaload, 1, 0), (102, .invokevirtual 82, 3, 0), (105, .ireturn, 1, 0)]]
/-- X10_copyHolds -/
def rw_315 : am_Row := (315, (10, 3, some (.int), 2, 1, 0, 0), ⟨"IslandCallModel", "copyHolds", "(I)I"⟩, prog_12_method_134_code, cd_315)
def cd_316 : List (List (Nat × Instr × Nat × Nat)) := [[(0, .aload_n 0, 1, 0), (1, .aload_n 0, 1, 0), (2, .getfield 406, 3, 0), (5, .sipush 3167, 3, 0), (8, .imul, 1, 0), (9, .sipush 11383, 3, 0), (12, .iadd, 1, 0), (13, .ldc_w 409, 3, 0)], [(16, .irem, 1, 0), (17, .putfield 406, 3, 0), (20, .aload_n 0, 1, 0), (21, .getfield 406, 3, 0), (24, .bipush 8, 2, 0), (26, .idiv, 1, 0), (27, .iload_n 1, 1, 0), (28, .irem, 1, 0), (29, .ireturn, 1, 0)]]
/-- X10_draw -/
def rw_316 : am_Row := (316, (10, 2, some (.int), 2, 1, 0, 0), ⟨"IslandCallModel", "draw", "(I)I"⟩, prog_12_method_135_code, cd_316)
def cd_317 : List (List (Nat × Instr × Nat × Nat)) := [[(0, .aload_n 0, 1, 0), (1, .getfield 7, 3, 0), (4, .iconst 5, 1, 0), (5, .iaload, 1, 0), (6, .sipush 9999, 3, 0), (9, .if_icmp .ne 5, 3, 14), (12, .iconst 0, 1, 0), (13, .ireturn, 1, 0), (14, .aload_n 0, 1, 0), (15, .invokevirtual 281, 3, 0)], [(18, .istore_n 1, 1, 0), (19, .aload_n 0, 1, 0), (20, .getfield 62, 3, 0), (23, .iconst 2, 1, 0), (24, .dup2, 1, 0), (25, .iaload, 1, 0), (26, .aload_n 0, 1, 0), (27, .invokevirtual 315, 3, 0), (30, .invokestatic 305, 3, 0)], [(33, .iadd, 1, 0), (34, .iastore, 1, 0), (35, .aload_n 0, 1, 0), (36, .getfield 62, 3, 0), (39, .iconst 1, 1, 0), (40, .dup2, 1, 0), (41, .iaload, 1, 0), (42, .iconst 1, 1, 0), (43, .iadd, 1, 0), (44, .iastore, 1, 0), (45, .aload_n 0, 1, 0), (46, .getfield 62, 3, 0)], [(49, .iconst 3, 1, 0), (50, .dup2, 1, 0), (51, .iaload, 1, 0), (52, .aload_n 0, 1, 0), (53, .invokevirtual 281, 3, 0), (56, .iload_n 1, 1, 0), (57, .isub, 1, 0), (58, .iadd, 1, 0), (59, .iastore, 1, 0), (60, .iconst 1, 1, 0), (61, .ireturn, 1, 0)]]
/-- X10_callsBy -/
def rw_317 : am_Row := (317, (10, 2, some (.boolean), 1, 1, 0, 0), ⟨"IslandCallModel", "callsBy", "()Z"⟩, prog_12_method_136_code, cd_317)
def cd_318 : List (List (Nat × Instr × Nat × Nat)) := [[(0, .aload_n 0, 1, 0), (1, .getfield 7, 3, 0), (4, .iload_n 1, 1, 0), (5, .iconst 1, 1, 0), (6, .iadd, 1, 0), (7, .iaload, 1, 0), (8, .istore_n 2, 1, 0), (9, .aload_n 0, 1, 0), (10, .getfield 7, 3, 0), (13, .iload_n 1, 1, 0), (14, .iaload, 1, 0), (15, .tableswitch 104 11 16 #[37, 42, 49, 56, 62, 76], 37, 0)], [], [], [(52, .aload_n 0, 1, 0), (53, .invokevirtual 410, 3, 0), (56, .ireturn, 1, 0), (57, .aload_n 0, 1, 0), (58, .iload_n 2, 1, 0), (59, .iconst 1, 1, 0), (60, .invokevirtual 318, 3, 0), (63, .ireturn, 1, 0)], [(64, .aload_n 0, 1, 0), (65, .iload_n 2, 1, 0), (66, .iconst 0, 1, 0), (67, .invokevirtual 318, 3, 0), (70, .ireturn, 1, 0), (71, .aload_n 0, 1, 0), (72, .iload_n 2, 1, 0), (73, .invokevirtual 321, 3, 0), (76, .ireturn, 1, 0), (77, .aload_n 0, 1, 0), (78, .iload_n 2, 1, 0), (79, .aload_n 0, 1, 0)], [(80, .getfield 7, 3, 0), (83, .iload_n 1, 1, 0), (84, .iconst 2, 1, 0), (85, .iadd, 1, 0), (86, .iaload, 1, 0), (87, .invokevirtual 326, 3, 0), (90, .ireturn, 1, 0), (91, .aload_n 0, 1, 0), (92, .bipush 16, 2, 0), (94, .invokevirtual 413, 3, 0)], [(97, .aload_n 0, 1, 0), (98, .getfield 7, 3, 0), (101, .iconst 4, 1, 0), (102, .iaload, 1, 0), (103, .if_icmp .ge 14, 3, 117), (106, .aload_n 0, 1, 0), (107, .invokevirtual 410, 3, 0), (110, .ifCond .eq 7, 3, 117)], [(113, .iconst 1, 1, 0), (114, .goto 4, 3, 118), (117, .iconst 0, 1, 0), (118, .ireturn, 1, 0), (119, .iconst 1, 1, 0), (120, .ireturn, 1, 0)]]
/-- X10_does -/
def rw_318 : am_Row := (318, (10, 3, some (.boolean), 2, 1, 0, 0), ⟨"IslandCallModel", "does", "(I)Z"⟩, prog_12_method_137_code, cd_318)
def cd_319 : List (List (Nat × Instr × Nat × Nat)) := [[(0, .aload_n 0, 1, 0), (1, .getfield 7, 3, 0), (4, .iload_n 1, 1, 0), (5, .iaload, 1, 0), (6, .sipush 1700, 3, 0), (9, .isub, 1, 0), (10, .istore_n 2, 1, 0), (11, .aload_n 0, 1, 0), (12, .getfield 7, 3, 0), (15, .iload_n 1, 1, 0)], [(16, .iconst 1, 1, 0), (17, .iadd, 1, 0), (18, .iaload, 1, 0), (19, .istore_n 3, 1, 0), (20, .iload_n 2, 1, 0), (21, .bipush 9, 2, 0), (23, .if_icmp .ne 9, 3, 32), (26, .aload_n 0, 1, 0), (27, .iload_n 3, 1, 0), (28, .invokevirtual 296, 3, 0), (31, .ireturn, 1, 0)], [(32, .iload_n 2, 1, 0), (33, .bipush 21, 2, 0), (35, .if_icmp .ne 16, 3, 51), (38, .aload_n 0, 1, 0), (39, .aload_n 0, 1, 0), (40, .getfield 7, 3, 0), (43, .bipush 6, 2, 0), (45, .iaload, 1, 0), (46, .iload_n 3, 1, 0), (47, .invokevirtual 263, 3, 0)], [(50, .ireturn, 1, 0), (51, .aload_n 0, 1, 0), (52, .iload_n 3, 1, 0), (53, .iconst 0, 1, 0), (54, .invokevirtual 266, 3, 0), (57, .istore 4, 2, 0), (59, .aload_n 0, 1, 0), (60, .getfield 7, 3, 0), (63, .iload_n 1, 1, 0)], [(64, .iconst 5, 1, 0), (65, .iadd, 1, 0), (66, .iaload, 1, 0), (67, .bipush 60, 2, 0), (69, .if_icmp .ne 24, 3, 93), (72, .iload 4, 2, 0), (74, .aload_n 0, 1, 0), (75, .getfield 7, 3, 0), (78, .iload_n 1, 1, 0), (79, .iconst 2, 1, 0)], [(80, .iadd, 1, 0), (81, .iaload, 1, 0), (82, .if_icmp .ge 7, 3, 89), (85, .iconst 1, 1, 0), (86, .goto 59, 3, 145), (89, .iconst 0, 1, 0), (90, .goto 55, 3, 145), (93, .aload_n 0, 1, 0), (94, .getfield 7, 3, 0)], [(97, .iload_n 1, 1, 0), (98, .iconst 5, 1, 0), (99, .iadd, 1, 0), (100, .iaload, 1, 0), (101, .bipush 62, 2, 0), (103, .if_icmp .ne 24, 3, 127), (106, .iload 4, 2, 0), (108, .aload_n 0, 1, 0), (109, .getfield 7, 3, 0)], [(112, .iload_n 1, 1, 0), (113, .iconst 2, 1, 0), (114, .iadd, 1, 0), (115, .iaload, 1, 0), (116, .if_icmp .le 7, 3, 123), (119, .iconst 1, 1, 0), (120, .goto 25, 3, 145), (123, .iconst 0, 1, 0), (124, .goto 21, 3, 145), (127, .iload 4, 2, 0)], [(129, .aload_n 0, 1, 0), (130, .getfield 7, 3, 0), (133, .iload_n 1, 1, 0), (134, .iconst 2, 1, 0), (135, .iadd, 1, 0), (136, .iaload, 1, 0), (137, .if_icmp .ne 7, 3, 144), (140, .iconst 1, 1, 0), (141, .goto 4, 3, 145)], [(144, .iconst 0, 1, 0), (145, .ireturn, 1, 0)]]
/-- X10_holds -/
def rw_319 : am_Row := (319, (10, 5, some (.boolean), 2, 1, 0, 0), ⟨"IslandCallModel", "holds", "(I)Z"⟩, prog_12_method_138_code, cd_319)
def cd_320 : List (List (Nat × Instr × Nat × Nat)) := [[(0, .iload_n 1, 1, 0), (1, .istore_n 2, 1, 0), (2, .iload_n 2, 1, 0), (3, .aload_n 0, 1, 0), (4, .getfield 7, 3, 0), (7, .bipush 8, 2, 0), (9, .iaload, 1, 0), (10, .if_icmp .ge 105, 3, 115), (13, .aload_n 0, 1, 0), (14, .getfield 7, 3, 0)], [(17, .bipush 48, 2, 0), (19, .bipush 6, 2, 0), (21, .iload_n 2, 1, 0), (22, .imul, 1, 0), (23, .iadd, 1, 0), (24, .iaload, 1, 0), (25, .bipush 19, 2, 0), (27, .if_icmp .ne 88, 3, 115), (30, .aload_n 0, 1, 0), (31, .getfield 7, 3, 0)], [(34, .bipush 48, 2, 0), (36, .bipush 6, 2, 0), (38, .iload_n 2, 1, 0), (39, .imul, 1, 0), (40, .iadd, 1, 0), (41, .iconst 4, 1, 0), (42, .iadd, 1, 0), (43, .iaload, 1, 0), (44, .istore_n 3, 1, 0), (45, .aload_n 0, 1, 0), (46, .getfield 7, 3, 0)], [(49, .bipush 48, 2, 0), (51, .bipush 6, 2, 0), (53, .iload_n 3, 1, 0), (54, .imul, 1, 0), (55, .iadd, 1, 0), (56, .iaload, 1, 0), (57, .bipush 18, 2, 0), (59, .if_icmp .ne 16, 3, 75), (62, .aload_n 0, 1, 0), (63, .getfield 59, 3, 0)], [(66, .iload_n 3, 1, 0), (67, .iaload, 1, 0), (68, .ifCond .le 7, 3, 75), (71, .iconst 1, 1, 0), (72, .goto 4, 3, 76), (75, .iconst 0, 1, 0), (76, .istore 4, 2, 0), (78, .aload_n 0, 1, 0), (79, .getfield 59, 3, 0)], [(82, .iload_n 3, 1, 0), (83, .dup2, 1, 0), (84, .iaload, 1, 0), (85, .iload 4, 2, 0), (87, .ifCond .eq 7, 3, 94), (90, .iconst 1, 1, 0), (91, .goto 4, 3, 95), (94, .iconst 0, 1, 0), (95, .isub, 1, 0)], [(96, .iastore, 1, 0), (97, .iload 4, 2, 0), (99, .ifCond .eq 9, 3, 108), (102, .iload_n 3, 1, 0), (103, .iconst 1, 1, 0), (104, .iadd, 1, 0), (105, .goto 6, 3, 111), (108, .iload_n 2, 1, 0), (109, .iconst 1, 1, 0), (110, .iadd, 1, 0), (111, .istore_n 2, 1, 0)], [(112, .goto (-110), 3, 2), (115, .iload_n 2, 1, 0), (116, .ireturn, 1, 0)]]
/-- X10_behindEnds -/
def rw_320 : am_Row := (320, (10, 5, some (.int), 2, 1, 0, 0), ⟨"IslandCallModel", "behindEnds", "(I)I"⟩, prog_12_method_139_code, cd_320)
def cd_321 : List (List (Nat × Instr × Nat × Nat)) := [[(0, .aload_n 0, 1, 0), (1, .iload_n 1, 1, 0), (2, .putfield 406, 3, 0), (5, .aload_n 0, 1, 0), (6, .iconst 0, 1, 0), (7, .putfield 416, 3, 0), (10, .iconst 0, 1, 0), (11, .istore_n 2, 1, 0), (12, .iload_n 2, 1, 0), (13, .iconst 5, 1, 0), (14, .if_icmp .ge 16, 3, 30)], [(17, .aload_n 0, 1, 0), (18, .getfield 62, 3, 0), (21, .iload_n 2, 1, 0), (22, .iconst 0, 1, 0), (23, .iastore, 1, 0), (24, .iinc 2 1, 3, 0), (27, .goto (-15), 3, 12), (30, .iconst 0, 1, 0), (31, .istore_n 2, 1, 0)], [(32, .iload_n 2, 1, 0), (33, .aload_n 0, 1, 0), (34, .getfield 7, 3, 0), (37, .bipush 8, 2, 0), (39, .iaload, 1, 0), (40, .if_icmp .ge 144, 3, 184), (43, .aload_n 0, 1, 0), (44, .getfield 416, 3, 0), (47, .sipush 300, 3, 0)], [(50, .if_icmp .ne 11, 3, 61), (53, .aload_n 0, 1, 0), (54, .getfield 62, 3, 0), (57, .iconst 4, 1, 0), (58, .iconst 1, 1, 0), (59, .iastore, 1, 0), (60, .return_, 1, 0), (61, .bipush 48, 2, 0), (63, .bipush 6, 2, 0)], [(65, .iload_n 2, 1, 0), (66, .imul, 1, 0), (67, .iadd, 1, 0), (68, .istore_n 3, 1, 0), (69, .aload_n 0, 1, 0), (70, .dup, 1, 0), (71, .getfield 416, 3, 0), (74, .iconst 1, 1, 0), (75, .iadd, 1, 0), (76, .putfield 416, 3, 0), (79, .aload_n 0, 1, 0)], [(80, .getfield 7, 3, 0), (83, .iload_n 3, 1, 0), (84, .iaload, 1, 0), (85, .bipush 20, 2, 0), (87, .if_icmp .ne 4, 3, 91), (90, .return_, 1, 0), (91, .aload_n 0, 1, 0), (92, .getfield 62, 3, 0), (95, .iconst 0, 1, 0)], [(96, .dup2, 1, 0), (97, .iaload, 1, 0), (98, .aload_n 0, 1, 0), (99, .iload_n 3, 1, 0), (100, .invokevirtual 419, 3, 0), (103, .ifCond .eq 7, 3, 110), (106, .iconst 0, 1, 0), (107, .goto 4, 3, 111), (110, .iconst 1, 1, 0), (111, .iadd, 1, 0)], [(112, .iastore, 1, 0), (113, .aload_n 0, 1, 0), (114, .getfield 7, 3, 0), (117, .iload_n 3, 1, 0), (118, .iaload, 1, 0), (119, .bipush 18, 2, 0), (121, .if_icmp .ne 19, 3, 140), (124, .aload_n 0, 1, 0), (125, .getfield 59, 3, 0)], [(128, .iload_n 2, 1, 0), (129, .aload_n 0, 1, 0), (130, .getfield 7, 3, 0), (133, .iload_n 3, 1, 0), (134, .iconst 1, 1, 0), (135, .iadd, 1, 0), (136, .iaload, 1, 0), (137, .iconst 1, 1, 0), (138, .isub, 1, 0), (139, .iastore, 1, 0), (140, .aload_n 0, 1, 0), (141, .aload_n 0, 1, 0), (142, .getfield 7, 3, 0)], [(145, .iload_n 3, 1, 0), (146, .iaload, 1, 0), (147, .sipush 1700, 3, 0), (150, .if_icmp .lt 24, 3, 174), (153, .aload_n 0, 1, 0), (154, .iload_n 3, 1, 0), (155, .invokevirtual 422, 3, 0), (158, .ifCond .ne 16, 3, 174)], [(161, .aload_n 0, 1, 0), (162, .getfield 7, 3, 0), (165, .iload_n 3, 1, 0), (166, .iconst 4, 1, 0), (167, .iadd, 1, 0), (168, .iaload, 1, 0), (169, .iconst 1, 1, 0), (170, .iadd, 1, 0), (171, .goto 6, 3, 177), (174, .iload_n 2, 1, 0), (175, .iconst 1, 1, 0)], [(176, .iadd, 1, 0), (177, .invokevirtual 425, 3, 0), (180, .istore_n 2, 1, 0), (181, .goto (-149), 3, 32), (184, .return_, 1, 0)]]
/-- X10_lives -/
def rw_321 : am_Row := (321, (10, 4, none, 2, 1, 0, 0), ⟨"IslandCallModel", "lives", "(I)V"⟩, prog_12_method_140_code, cd_321)
def cd_322 : List (List (Nat × Instr × Nat × Nat)) := [[(0, .iload_n 1, 1, 0), (1, .i2l, 1, 0), (2, .lconst 0, 1, 0), (3, .ldc2_w 428, 3, 0), (6, .invokestatic 256, 3, 0), (9, .ifCond .ne 9, 3, 18), (12, .aload_n 0, 1, 0), (13, .iconst 1, 1, 0), (14, .invokevirtual 78, 3, 0)], [(17, .ireturn, 1, 0), (18, .aload_n 0, 1, 0), (19, .getfield 7, 3, 0), (22, .bipush 8, 2, 0), (24, .iaload, 1, 0), (25, .iconst (-1), 1, 0), (26, .if_icmp .ne 10, 3, 36), (29, .aload_n 0, 1, 0), (30, .bipush 6, 2, 0)], [(32, .invokevirtual 78, 3, 0), (35, .ireturn, 1, 0), (36, .aload_n 0, 1, 0), (37, .iload_n 1, 1, 0), (38, .invokevirtual 430, 3, 0), (41, .iconst 0, 1, 0), (42, .istore_n 2, 1, 0), (43, .iload_n 2, 1, 0), (44, .iconst 5, 1, 0), (45, .if_icmp .ge 21, 3, 66)], [(48, .aload_n 0, 1, 0), (49, .getfield 65, 3, 0), (52, .iload_n 2, 1, 0), (53, .aload_n 0, 1, 0), (54, .getfield 62, 3, 0), (57, .iload_n 2, 1, 0), (58, .iaload, 1, 0), (59, .iastore, 1, 0), (60, .iinc 2 1, 3, 0), (63, .goto (-20), 3, 43)], [(66, .aload_n 0, 1, 0), (67, .iconst 1, 1, 0), (68, .putfield 433, 3, 0), (71, .aload_n 0, 1, 0), (72, .aload_n 0, 1, 0), (73, .getfield 416, 3, 0), (76, .invokevirtual 82, 3, 0), (79, .ireturn, 1, 0)]]
/-- X10_live -/
def rw_322 : am_Row := (322, (10, 3, some (.int), 2, 1, 0, 0), ⟨"IslandCallModel", "live", "(I)I"⟩, prog_12_method_141_code, cd_322)
def cd_323 : List (List (Nat × Instr × Nat × Nat)) := [[(0, .iload_n 1, 1, 0), (1, .ifCond .lt 8, 3, 9), (4, .iload_n 1, 1, 0), (5, .iconst 4, 1, 0), (6, .if_icmp .le 9, 3, 15), (9, .aload_n 0, 1, 0), (10, .iconst 1, 1, 0), (11, .invokevirtual 78, 3, 0), (14, .ireturn, 1, 0), (15, .aload_n 0, 1, 0)], [(16, .getfield 433, 3, 0), (19, .ifCond .eq 16, 3, 35), (22, .aload_n 0, 1, 0), (23, .aload_n 0, 1, 0), (24, .getfield 65, 3, 0), (27, .iload_n 1, 1, 0), (28, .iaload, 1, 0), (29, .invokevirtual 82, 3, 0)], [(32, .goto 9, 3, 41), (35, .aload_n 0, 1, 0), (36, .bipush 6, 2, 0), (38, .invokevirtual 78, 3, 0), (41, .ireturn, 1, 0)]]
/-- X10_lived -/
def rw_323 : am_Row := (323, (10, 2, some (.int), 2, 1, 0, 0), ⟨"IslandCallModel", "lived", "(I)I"⟩, prog_12_method_142_code, cd_323)
def cd_324 : List (List (Nat × Instr × Nat × Nat)) := [[(0, .iload_n 1, 1, 0), (1, .i2l, 1, 0), (2, .lconst 0, 1, 0), (3, .ldc2_w 428, 3, 0), (6, .invokestatic 256, 3, 0), (9, .ifCond .eq 26, 3, 35), (12, .iload_n 2, 1, 0), (13, .i2l, 1, 0), (14, .lconst 1, 1, 0), (15, .ldc2_w 374, 3, 0)], [(18, .invokestatic 256, 3, 0), (21, .ifCond .eq 14, 3, 35), (24, .iload_n 1, 1, 0), (25, .iload_n 2, 1, 0), (26, .iadd, 1, 0), (27, .iconst 1, 1, 0), (28, .isub, 1, 0), (29, .sipush 9999, 3, 0)], [(32, .if_icmp .le 9, 3, 41), (35, .aload_n 0, 1, 0), (36, .iconst 1, 1, 0), (37, .invokevirtual 85, 3, 0), (40, .ireturn, 1, 0), (41, .aload_n 0, 1, 0), (42, .getfield 7, 3, 0), (45, .bipush 8, 2, 0), (47, .iaload, 1, 0)], [(48, .iconst (-1), 1, 0), (49, .if_icmp .ne 10, 3, 59), (52, .aload_n 0, 1, 0), (53, .bipush 6, 2, 0), (55, .invokevirtual 85, 3, 0), (58, .ireturn, 1, 0), (59, .aload_n 0, 1, 0), (60, .sipush 2080, 3, 0), (63, .invokevirtual 365, 3, 0)], [(66, .lconst 0, 1, 0), (67, .lstore_n 3, 1, 0), (68, .iconst 0, 1, 0), (69, .istore 5, 2, 0), (71, .iload 5, 2, 0), (73, .iload_n 2, 1, 0), (74, .if_icmp .ge 38, 3, 112), (77, .aload_n 0, 1, 0), (78, .iload_n 1, 1, 0), (79, .iload 5, 2, 0)], [(81, .iadd, 1, 0), (82, .invokevirtual 430, 3, 0), (85, .lload_n 3, 1, 0), (86, .aload_n 0, 1, 0), (87, .getfield 7, 3, 0), (90, .bipush 7, 2, 0), (92, .iaload, 1, 0), (93, .invokestatic 305, 3, 0)], [(96, .i2l, 1, 0), (97, .ladd, 1, 0), (98, .lstore_n 3, 1, 0), (99, .aload_n 0, 1, 0), (100, .sipush 2080, 3, 0), (103, .invokevirtual 371, 3, 0), (106, .iinc 5 1, 3, 0), (109, .goto (-38), 3, 71)], [(112, .aload_n 0, 1, 0), (113, .lload_n 3, 1, 0), (114, .iload_n 2, 1, 0), (115, .i2l, 1, 0), (116, .invokevirtual 402, 3, 0), (119, .ireturn, 1, 0)]]
/-- X10_mean -/
def rw_324 : am_Row := (324, (10, 6, some (.boolean), 3, 1, 0, 0), ⟨"IslandCallModel", "mean", "(II)Z"⟩, prog_12_method_143_code, cd_324)
def cd_325 : List (List (Nat × Instr × Nat × Nat)) := [[(0, .iconst 0, 1, 0), (1, .istore_n 3, 1, 0), (2, .iload_n 3, 1, 0), (3, .sipush 416, 3, 0), (6, .if_icmp .ge 33, 3, 39), (9, .aload_n 0, 1, 0), (10, .getfield 7, 3, 0), (13, .sipush 416, 3, 0)], [(16, .iload_n 2, 1, 0), (17, .imul, 1, 0), (18, .iload_n 3, 1, 0), (19, .iadd, 1, 0), (20, .aload_n 0, 1, 0), (21, .getfield 7, 3, 0), (24, .sipush 416, 3, 0), (27, .iload_n 1, 1, 0), (28, .imul, 1, 0), (29, .iload_n 3, 1, 0), (30, .iadd, 1, 0), (31, .iaload, 1, 0)], [(32, .iastore, 1, 0), (33, .iinc 3 1, 3, 0), (36, .goto (-34), 3, 2), (39, .iconst 0, 1, 0), (40, .istore_n 3, 1, 0), (41, .iload_n 3, 1, 0), (42, .bipush 14, 2, 0), (44, .if_icmp .ge 31, 3, 75), (47, .aload_n 0, 1, 0)], [(48, .getfield 13, 3, 0), (51, .bipush 14, 2, 0), (53, .iload_n 2, 1, 0), (54, .imul, 1, 0), (55, .iload_n 3, 1, 0), (56, .iadd, 1, 0), (57, .aload_n 0, 1, 0), (58, .getfield 13, 3, 0), (61, .bipush 14, 2, 0), (63, .iload_n 1, 1, 0)], [(64, .imul, 1, 0), (65, .iload_n 3, 1, 0), (66, .iadd, 1, 0), (67, .laload, 1, 0), (68, .lastore, 1, 0), (69, .iinc 3 1, 3, 0), (72, .goto (-31), 3, 41), (75, .return_, 1, 0)]]
/-- X10_copies -/
def rw_325 : am_Row := (325, (10, 4, none, 3, 1, 0, 0), ⟨"IslandCallModel", "copies", "(II)V"⟩, prog_12_method_144_code, cd_325)
def cd_326 : List (List (Nat × Instr × Nat × Nat)) := [[(0, .aload_n 0, 1, 0), (1, .getfield 437, 3, 0), (4, .iconst 3, 1, 0), (5, .if_icmp .ne 9, 3, 14), (8, .aload_n 0, 1, 0), (9, .iconst 4, 1, 0), (10, .invokevirtual 78, 3, 0), (13, .ireturn, 1, 0), (14, .aload_n 0, 1, 0), (15, .dup, 1, 0)], [(16, .getfield 437, 3, 0), (19, .iconst 1, 1, 0), (20, .iadd, 1, 0), (21, .putfield 437, 3, 0), (24, .aload_n 0, 1, 0), (25, .iconst 0, 1, 0), (26, .aload_n 0, 1, 0), (27, .getfield 437, 3, 0), (30, .invokevirtual 440, 3, 0)], [(33, .aload_n 0, 1, 0), (34, .aload_n 0, 1, 0), (35, .getfield 437, 3, 0), (38, .invokevirtual 82, 3, 0), (41, .ireturn, 1, 0)]]
/-- X10_mark -/
def rw_326 : am_Row := (326, (10, 1, some (.int), 1, 1, 0, 0), ⟨"IslandCallModel", "mark", "()I"⟩, prog_12_method_145_code, cd_326)
def cd_327 : List (List (Nat × Instr × Nat × Nat)) := [[(0, .aload_n 0, 1, 0), (1, .getfield 437, 3, 0), (4, .ifCond .ne 10, 3, 14), (7, .aload_n 0, 1, 0), (8, .bipush 6, 2, 0), (10, .invokevirtual 78, 3, 0), (13, .ireturn, 1, 0), (14, .aload_n 0, 1, 0), (15, .aload_n 0, 1, 0)], [(16, .getfield 437, 3, 0), (19, .iconst 0, 1, 0), (20, .invokevirtual 440, 3, 0), (23, .aload_n 0, 1, 0), (24, .dup, 1, 0), (25, .getfield 437, 3, 0), (28, .iconst 1, 1, 0), (29, .isub, 1, 0), (30, .putfield 437, 3, 0)], [(33, .aload_n 0, 1, 0), (34, .aload_n 0, 1, 0), (35, .getfield 437, 3, 0), (38, .invokevirtual 82, 3, 0), (41, .ireturn, 1, 0)]]
/-- X10_undo -/
def rw_327 : am_Row := (327, (10, 1, some (.int), 1, 1, 0, 0), ⟨"IslandCallModel", "undo", "()I"⟩, prog_12_method_146_code, cd_327)
def cd_328 : List (List (Nat × Instr × Nat × Nat)) := [[(0, .iload_n 0, 1, 0), (1, .iload_n 0, 1, 0), (2, .iconst 1, 1, 0), (3, .iushr, 1, 0), (4, .ldc_w 265, 3, 0), (7, .iand, 1, 0), (8, .isub, 1, 0), (9, .istore_n 0, 1, 0), (10, .iload_n 0, 1, 0), (11, .ldc_w 266, 3, 0), (14, .iand, 1, 0), (15, .iload_n 0, 1, 0)], [(16, .iconst 2, 1, 0), (17, .iushr, 1, 0), (18, .ldc_w 266, 3, 0), (21, .iand, 1, 0), (22, .iadd, 1, 0), (23, .istore_n 0, 1, 0), (24, .iload_n 0, 1, 0), (25, .iload_n 0, 1, 0), (26, .iconst 4, 1, 0), (27, .iushr, 1, 0), (28, .iadd, 1, 0), (29, .ldc_w 267, 3, 0)], [(32, .iand, 1, 0), (33, .istore_n 0, 1, 0), (34, .iload_n 0, 1, 0), (35, .iload_n 0, 1, 0), (36, .bipush 8, 2, 0), (38, .iushr, 1, 0), (39, .iadd, 1, 0), (40, .istore_n 0, 1, 0), (41, .iload_n 0, 1, 0), (42, .iload_n 0, 1, 0), (43, .bipush 16, 2, 0), (45, .iushr, 1, 0), (46, .iadd, 1, 0), (47, .istore_n 0, 1, 0)], [(48, .iload_n 0, 1, 0), (49, .bipush 63, 2, 0), (51, .iand, 1, 0), (52, .ireturn, 1, 0)]]
/-- J6_bitCount_0f7a4 -/
def rw_328 : am_Row := (328, (12, 1, some (.int), 1, 0, 0, 0), ⟨"java/lang/Integer", "bitCount", "(I)I"⟩, prog_13_method_49_code, cd_328)
def cd_329 : List (List (Nat × Instr × Nat × Nat)) := [[(0, .aload_n 0, 1, 0), (1, .getfield 9, 3, 0), (4, .arraylength, 1, 0), (5, .aload_n 0, 1, 0), (6, .invokevirtual 335, 3, 0), (9, .ishr, 1, 0), (10, .ireturn, 1, 0)]]
/-- J0_length_8abf5 -/
def rw_329 : am_Row := (329, (14, 1, some (.int), 1, 1, 0, 0), ⟨"java/lang/String", "length", "()I"⟩, prog_15_method_54_code, cd_329)
def cd_330 : List (List (Nat × Instr × Nat × Nat)) := [[(0, .aload_n 0, 1, 0), (1, .invokevirtual 492, 3, 0), (4, .ifCond .eq 12, 3, 16), (7, .aload_n 0, 1, 0), (8, .getfield 9, 3, 0), (11, .iload_n 1, 1, 0), (12, .invokestatic 495, 3, 0), (15, .ireturn, 1, 0)], [(16, .aload_n 0, 1, 0), (17, .getfield 9, 3, 0), (20, .iload_n 1, 1, 0), (21, .invokestatic 498, 3, 0), (24, .ireturn, 1, 0)]]
/-- J0_charAt_5068e -/
def rw_330 : am_Row := (330, (14, 2, some (.char), 2, 1, 0, 0), ⟨"java/lang/String", "charAt", "(I)C"⟩, prog_15_method_56_code, cd_330)
def cd_331 : List (List (Nat × Instr × Nat × Nat)) := [[(0, .getstatic 38, 3, 0), (3, .ifCond .eq 10, 3, 13), (6, .aload_n 0, 1, 0), (7, .getfield 15, 3, 0), (10, .goto 4, 3, 14), (13, .iconst 1, 1, 0), (14, .ireturn, 1, 0)]]
/-- J0_coder_7d493 -/
def rw_331 : am_Row := (331, (14, 1, some (.byte), 1, 1, 0, 0), ⟨"java/lang/String", "coder", "()B"⟩, prog_15_method_152_code, cd_331)
def cd_332 : List (List (Nat × Instr × Nat × Nat)) := [[(0, .getstatic 38, 3, 0), (3, .ifCond .eq 14, 3, 17), (6, .aload_n 0, 1, 0), (7, .getfield 15, 3, 0), (10, .ifCond .ne 7, 3, 17), (13, .iconst 1, 1, 0), (14, .goto 4, 3, 18)], [(17, .iconst 0, 1, 0), (18, .ireturn, 1, 0)]]
/-- J0_isLatin1_aae02 -/
def rw_332 : am_Row := (332, (14, 1, some (.boolean), 1, 1, 0, 0), ⟨"java/lang/String", "isLatin1", "()Z"⟩, prog_15_method_154_code, cd_332)
def cd_333 : List (List (Nat × Instr × Nat × Nat)) := [[(0, .iload_n 0, 1, 0), (1, .iload_n 1, 1, 0), (2, .getstatic 1053, 3, 0), (5, .invokestatic 1059, 3, 0), (8, .pop, 1, 0), (9, .return_, 1, 0)]]
/-- J0_checkIndex_df160 -/
def rw_333 : am_Row := (333, (14, 2, none, 2, 0, 0, 0), ⟨"java/lang/String", "checkIndex", "(II)V"⟩, prog_15_method_155_code, cd_333)
def cd_334 : List (List (Nat × Instr × Nat × Nat)) := [[(0, .iload_n 1, 1, 0), (1, .aload_n 0, 1, 0), (2, .arraylength, 1, 0), (3, .invokestatic 9, 3, 0), (6, .aload_n 0, 1, 0), (7, .iload_n 1, 1, 0), (8, .baload, 1, 0), (9, .sipush 255, 3, 0), (12, .iand, 1, 0), (13, .i2c, 1, 0), (14, .ireturn, 1, 0)]]
/-- J1_charAt_3b067 -/
def rw_334 : am_Row := (334, (15, 2, some (.char), 2, 0, 0, 0), ⟨"java/lang/StringLatin1", "charAt", "([BI)C"⟩, prog_16_method_2_code, cd_334)
def cd_335 : List (List (Nat × Instr × Nat × Nat)) := [[(0, .getstatic 44, 3, 0), (3, .ifCond .ne 25, 3, 28), (6, .iload_n 1, 1, 0), (7, .ifCond .lt 11, 3, 18), (10, .iload_n 1, 1, 0), (11, .aload_n 0, 1, 0), (12, .invokestatic 48, 3, 0), (15, .if_icmp .lt 13, 3, 28)], [(18, .new 52, 3, 0), (21, .dup, 1, 0), (22, .ldc 54, 2, 0), (24, .invokespecial 56, 3, 0), (27, .athrow, 1, 0), (28, .iload_n 1, 1, 0), (29, .iconst 1, 1, 0), (30, .ishl, 1, 0), (31, .istore_n 1, 1, 0)], [(32, .aload_n 0, 1, 0), (33, .iload_n 1, 1, 0), (34, .iinc 1 1, 3, 0), (37, .baload, 1, 0), (38, .sipush 255, 3, 0), (41, .iand, 1, 0), (42, .getstatic 59, 3, 0), (45, .ishl, 1, 0), (46, .aload_n 0, 1, 0), (47, .iload_n 1, 1, 0)], [(48, .baload, 1, 0), (49, .sipush 255, 3, 0), (52, .iand, 1, 0), (53, .getstatic 63, 3, 0), (56, .ishl, 1, 0), (57, .ior, 1, 0), (58, .i2c, 1, 0), (59, .ireturn, 1, 0)]]
/-- J2_getChar_3b067 -/
def rw_335 : am_Row := (335, (16, 2, some (.char), 2, 0, 0, 0), ⟨"java/lang/StringUTF16", "getChar", "([BI)C"⟩, prog_17_method_5_code, cd_335)
def cd_336 : List (List (Nat × Instr × Nat × Nat)) := [[(0, .aload_n 0, 1, 0), (1, .arraylength, 1, 0), (2, .iconst 1, 1, 0), (3, .ishr, 1, 0), (4, .ireturn, 1, 0)]]
/-- J2_length_9d52b -/
def rw_336 : am_Row := (336, (16, 1, some (.int), 1, 0, 0, 0), ⟨"java/lang/StringUTF16", "length", "([B)I"⟩, prog_17_method_6_code, cd_336)
def cd_337 : List (List (Nat × Instr × Nat × Nat)) := [[(0, .iload_n 1, 1, 0), (1, .aload_n 0, 1, 0), (2, .invokestatic 67, 3, 0), (5, .aload_n 0, 1, 0), (6, .iload_n 1, 1, 0), (7, .invokestatic 71, 3, 0), (10, .ireturn, 1, 0)]]
/-- J2_charAt_3b067 -/
def rw_337 : am_Row := (337, (16, 2, some (.char), 2, 0, 0, 0), ⟨"java/lang/StringUTF16", "charAt", "([BI)C"⟩, prog_17_method_83_code, cd_337)
def cd_338 : List (List (Nat × Instr × Nat × Nat)) := [[(0, .iload_n 0, 1, 0), (1, .aload_n 1, 1, 0), (2, .invokestatic 48, 3, 0), (5, .invokestatic 414, 3, 0), (8, .return_, 1, 0)]]
/-- J2_checkIndex_2214a -/
def rw_338 : am_Row := (338, (16, 2, none, 2, 0, 0, 0), ⟨"java/lang/StringUTF16", "checkIndex", "(I[B)V"⟩, prog_17_method_91_code, cd_338)
def cd_339 : List (List (Nat × Instr × Nat × Nat)) := [[(0, .iload_n 0, 1, 0), (1, .ifCond .lt 8, 3, 9), (4, .iload_n 0, 1, 0), (5, .iload_n 1, 1, 0), (6, .if_icmp .lt 10, 3, 16), (9, .aload_n 2, 1, 0), (10, .iload_n 0, 1, 0), (11, .iload_n 1, 1, 0), (12, .invokestatic 95, 3, 0), (15, .athrow, 1, 0)], [(16, .iload_n 0, 1, 0), (17, .ireturn, 1, 0)]]
/-- J3_checkIndex_8e157 -/
def rw_339 : am_Row := (339, (18, 3, some (.int), 3, 0, 0, 0), ⟨"jdk/internal/util/Preconditions", "checkIndex", "(IILjava/util/function/BiFunction;)I"⟩, prog_19_method_11_code, cd_339)
def cd_340_0 : List (Nat × Instr × Nat × Nat) := [(0, .new 7, 3, 0), (3, .dup, 1, 0), (4, .invokespecial 9, 3, 0), (7, .astore_n 1, 1, 0), (8, .new 10, 3, 0), (11, .dup, 1, 0), (12, .invokespecial 12, 3, 0), (15, .astore_n 2, 1, 0)]
def cd_340_1 : List (Nat × Instr × Nat × Nat) := [(16, .iconst 0, 1, 0), (17, .istore_n 3, 1, 0), (18, .iload_n 3, 1, 0), (19, .aload_n 0, 1, 0), (20, .arraylength, 1, 0), (21, .bipush 6, 2, 0), (23, .isub, 1, 0), (24, .if_icmp .gt 1954, 3, 1978), (27, .aload_n 0, 1, 0), (28, .iload_n 3, 1, 0), (29, .iaload, 1, 0), (30, .bipush 63, 2, 0)]
def cd_340_2 : List (Nat × Instr × Nat × Nat) := [(32, .iand, 1, 0), (33, .tableswitch 1939 0 58 #[251, 264, 278, 292, 335, 408, 442, 505, 568, 591, 614, 637, 660, 693, 726, 739, 788, 811, 844, 903, 962, 995, 1018, 1051, 1084, 1117, 1140, 1163, 1186, 1219, 1242, 1265, 1288, 1311, 1344, 1367, 1390, 1413, 1426, 1439, 1452, 1475, 1498, 1531, 1574, 1627, 1670, 1683, 1696, 1709, 1732, 1755, 1788, 1811, 1834, 1857, 1880, 1913, 1926], 251, 0)]
def cd_340_3 : List (Nat × Instr × Nat × Nat) := []
def cd_340_4 : List (Nat × Instr × Nat × Nat) := []
def cd_340_5 : List (Nat × Instr × Nat × Nat) := []
def cd_340_6 : List (Nat × Instr × Nat × Nat) := []
def cd_340_7 : List (Nat × Instr × Nat × Nat) := []
def cd_340_8 : List (Nat × Instr × Nat × Nat) := []
def cd_340_9 : List (Nat × Instr × Nat × Nat) := []
def cd_340_10 : List (Nat × Instr × Nat × Nat) := []
def cd_340_11 : List (Nat × Instr × Nat × Nat) := []
def cd_340_12 : List (Nat × Instr × Nat × Nat) := []
def cd_340_13 : List (Nat × Instr × Nat × Nat) := []
def cd_340_14 : List (Nat × Instr × Nat × Nat) := []
def cd_340_15 : List (Nat × Instr × Nat × Nat) := []
def cd_340_16 : List (Nat × Instr × Nat × Nat) := []
def cd_340_17 : List (Nat × Instr × Nat × Nat) := [(284, .aload_n 1, 1, 0), (285, .invokevirtual 13, 3, 0)]
def cd_340_18 : List (Nat × Instr × Nat × Nat) := [(288, .aload_n 2, 1, 0), (289, .invokevirtual 17, 3, 0), (292, .if_icmp .eq 1680, 3, 1972), (295, .iconst 0, 1, 0), (296, .ireturn, 1, 0), (297, .aload_n 1, 1, 0), (298, .invokevirtual 18, 3, 0), (301, .aload_n 2, 1, 0), (302, .invokevirtual 22, 3, 0)]
def cd_340_19 : List (Nat × Instr × Nat × Nat) := [(305, .lcmp, 1, 0), (306, .ifCond .eq 1666, 3, 1972), (309, .iconst 0, 1, 0), (310, .ireturn, 1, 0), (311, .aload_n 1, 1, 0), (312, .invokevirtual 23, 3, 0), (315, .aload_n 2, 1, 0), (316, .invokevirtual 26, 3, 0), (319, .lcmp, 1, 0)]
def cd_340_20 : List (Nat × Instr × Nat × Nat) := [(320, .ifCond .eq 1652, 3, 1972), (323, .iconst 0, 1, 0), (324, .ireturn, 1, 0), (325, .aload_n 1, 1, 0), (326, .aload_n 0, 1, 0), (327, .iload_n 3, 1, 0), (328, .iconst 1, 1, 0), (329, .iadd, 1, 0), (330, .iaload, 1, 0), (331, .aload_n 0, 1, 0), (332, .iload_n 3, 1, 0), (333, .iconst 2, 1, 0), (334, .iadd, 1, 0), (335, .iaload, 1, 0)]
def cd_340_21 : List (Nat × Instr × Nat × Nat) := [(336, .aload_n 0, 1, 0), (337, .iload_n 3, 1, 0), (338, .iconst 3, 1, 0), (339, .iadd, 1, 0), (340, .iaload, 1, 0), (341, .invokevirtual 27, 3, 0), (344, .aload_n 2, 1, 0), (345, .aload_n 0, 1, 0), (346, .iload_n 3, 1, 0), (347, .iconst 1, 1, 0), (348, .iadd, 1, 0), (349, .iaload, 1, 0), (350, .aload_n 0, 1, 0), (351, .iload_n 3, 1, 0)]
def cd_340_22 : List (Nat × Instr × Nat × Nat) := [(352, .iconst 2, 1, 0), (353, .iadd, 1, 0), (354, .iaload, 1, 0), (355, .aload_n 0, 1, 0), (356, .iload_n 3, 1, 0), (357, .iconst 3, 1, 0), (358, .iadd, 1, 0), (359, .iaload, 1, 0), (360, .invokevirtual 31, 3, 0), (363, .if_icmp .eq 1609, 3, 1972), (366, .iconst 0, 1, 0), (367, .ireturn, 1, 0)]
def cd_340_23 : List (Nat × Instr × Nat × Nat) := [(368, .aload_n 1, 1, 0), (369, .aload_n 0, 1, 0), (370, .iload_n 3, 1, 0), (371, .iconst 1, 1, 0), (372, .iadd, 1, 0), (373, .iaload, 1, 0), (374, .aload_n 0, 1, 0), (375, .iload_n 3, 1, 0), (376, .iconst 2, 1, 0), (377, .iadd, 1, 0), (378, .iaload, 1, 0), (379, .aload_n 0, 1, 0), (380, .iload_n 3, 1, 0), (381, .iconst 3, 1, 0), (382, .iadd, 1, 0), (383, .iaload, 1, 0)]
def cd_340_24 : List (Nat × Instr × Nat × Nat) := [(384, .i2l, 1, 0), (385, .bipush 32, 2, 0), (387, .lshl, 1, 0), (388, .aload_n 0, 1, 0), (389, .iload_n 3, 1, 0), (390, .iconst 4, 1, 0), (391, .iadd, 1, 0), (392, .iaload, 1, 0), (393, .i2l, 1, 0), (394, .ldc2_w 32, 3, 0), (397, .land, 1, 0), (398, .lor, 1, 0), (399, .invokevirtual 34, 3, 0)]
def cd_340_25 : List (Nat × Instr × Nat × Nat) := [(402, .aload_n 2, 1, 0), (403, .aload_n 0, 1, 0), (404, .iload_n 3, 1, 0), (405, .iconst 1, 1, 0), (406, .iadd, 1, 0), (407, .iaload, 1, 0), (408, .aload_n 0, 1, 0), (409, .iload_n 3, 1, 0), (410, .iconst 2, 1, 0), (411, .iadd, 1, 0), (412, .iaload, 1, 0), (413, .aload_n 0, 1, 0), (414, .iload_n 3, 1, 0), (415, .iconst 3, 1, 0)]
def cd_340_26 : List (Nat × Instr × Nat × Nat) := [(416, .iadd, 1, 0), (417, .iaload, 1, 0), (418, .i2l, 1, 0), (419, .bipush 32, 2, 0), (421, .lshl, 1, 0), (422, .aload_n 0, 1, 0), (423, .iload_n 3, 1, 0), (424, .iconst 4, 1, 0), (425, .iadd, 1, 0), (426, .iaload, 1, 0), (427, .i2l, 1, 0), (428, .ldc2_w 32, 3, 0), (431, .land, 1, 0)]
def cd_340_27 : List (Nat × Instr × Nat × Nat) := [(432, .lor, 1, 0), (433, .invokevirtual 38, 3, 0), (436, .if_icmp .eq 1536, 3, 1972), (439, .iconst 0, 1, 0), (440, .ireturn, 1, 0), (441, .aload_n 1, 1, 0), (442, .aload_n 0, 1, 0), (443, .iload_n 3, 1, 0), (444, .iconst 1, 1, 0), (445, .iadd, 1, 0), (446, .iaload, 1, 0), (447, .aload_n 0, 1, 0)]
def cd_340_28 : List (Nat × Instr × Nat × Nat) := [(448, .iload_n 3, 1, 0), (449, .iconst 2, 1, 0), (450, .iadd, 1, 0), (451, .iaload, 1, 0), (452, .invokevirtual 39, 3, 0), (455, .aload_n 2, 1, 0), (456, .aload_n 0, 1, 0), (457, .iload_n 3, 1, 0), (458, .iconst 1, 1, 0), (459, .iadd, 1, 0), (460, .iaload, 1, 0), (461, .aload_n 0, 1, 0), (462, .iload_n 3, 1, 0), (463, .iconst 2, 1, 0)]
def cd_340_29 : List (Nat × Instr × Nat × Nat) := [(464, .iadd, 1, 0), (465, .iaload, 1, 0), (466, .invokevirtual 43, 3, 0), (469, .lcmp, 1, 0), (470, .ifCond .eq 1502, 3, 1972), (473, .iconst 0, 1, 0), (474, .ireturn, 1, 0), (475, .aload_n 1, 1, 0), (476, .aload_n 0, 1, 0), (477, .iload_n 3, 1, 0), (478, .iconst 1, 1, 0), (479, .iadd, 1, 0)]
def cd_340_30 : List (Nat × Instr × Nat × Nat) := [(480, .iaload, 1, 0), (481, .aload_n 0, 1, 0), (482, .iload_n 3, 1, 0), (483, .iconst 2, 1, 0), (484, .iadd, 1, 0), (485, .iaload, 1, 0), (486, .aload_n 0, 1, 0), (487, .iload_n 3, 1, 0), (488, .iconst 3, 1, 0), (489, .iadd, 1, 0), (490, .iaload, 1, 0), (491, .aload_n 0, 1, 0), (492, .iload_n 3, 1, 0), (493, .iconst 4, 1, 0), (494, .iadd, 1, 0), (495, .iaload, 1, 0)]
def cd_340_31 : List (Nat × Instr × Nat × Nat) := [(496, .aload_n 0, 1, 0), (497, .iload_n 3, 1, 0), (498, .iconst 5, 1, 0), (499, .iadd, 1, 0), (500, .iaload, 1, 0), (501, .invokevirtual 44, 3, 0), (504, .aload_n 2, 1, 0), (505, .aload_n 0, 1, 0), (506, .iload_n 3, 1, 0), (507, .iconst 1, 1, 0), (508, .iadd, 1, 0), (509, .iaload, 1, 0), (510, .aload_n 0, 1, 0), (511, .iload_n 3, 1, 0)]
def cd_340_32 : List (Nat × Instr × Nat × Nat) := [(512, .iconst 2, 1, 0), (513, .iadd, 1, 0), (514, .iaload, 1, 0), (515, .aload_n 0, 1, 0), (516, .iload_n 3, 1, 0), (517, .iconst 3, 1, 0), (518, .iadd, 1, 0), (519, .iaload, 1, 0), (520, .aload_n 0, 1, 0), (521, .iload_n 3, 1, 0), (522, .iconst 4, 1, 0), (523, .iadd, 1, 0), (524, .iaload, 1, 0), (525, .aload_n 0, 1, 0), (526, .iload_n 3, 1, 0), (527, .iconst 5, 1, 0)]
def cd_340_33 : List (Nat × Instr × Nat × Nat) := [(528, .iadd, 1, 0), (529, .iaload, 1, 0), (530, .invokevirtual 48, 3, 0), (533, .if_icmp .eq 1439, 3, 1972), (536, .iconst 0, 1, 0), (537, .ireturn, 1, 0), (538, .aload_n 1, 1, 0), (539, .aload_n 0, 1, 0), (540, .iload_n 3, 1, 0), (541, .iconst 1, 1, 0), (542, .iadd, 1, 0), (543, .iaload, 1, 0)]
def cd_340_34 : List (Nat × Instr × Nat × Nat) := [(544, .aload_n 0, 1, 0), (545, .iload_n 3, 1, 0), (546, .iconst 2, 1, 0), (547, .iadd, 1, 0), (548, .iaload, 1, 0), (549, .aload_n 0, 1, 0), (550, .iload_n 3, 1, 0), (551, .iconst 3, 1, 0), (552, .iadd, 1, 0), (553, .iaload, 1, 0), (554, .aload_n 0, 1, 0), (555, .iload_n 3, 1, 0), (556, .iconst 4, 1, 0), (557, .iadd, 1, 0), (558, .iaload, 1, 0), (559, .aload_n 0, 1, 0)]
def cd_340_35 : List (Nat × Instr × Nat × Nat) := [(560, .iload_n 3, 1, 0), (561, .iconst 5, 1, 0), (562, .iadd, 1, 0), (563, .iaload, 1, 0), (564, .invokevirtual 49, 3, 0), (567, .aload_n 2, 1, 0), (568, .aload_n 0, 1, 0), (569, .iload_n 3, 1, 0), (570, .iconst 1, 1, 0), (571, .iadd, 1, 0), (572, .iaload, 1, 0), (573, .aload_n 0, 1, 0), (574, .iload_n 3, 1, 0), (575, .iconst 2, 1, 0)]
def cd_340_36 : List (Nat × Instr × Nat × Nat) := [(576, .iadd, 1, 0), (577, .iaload, 1, 0), (578, .aload_n 0, 1, 0), (579, .iload_n 3, 1, 0), (580, .iconst 3, 1, 0), (581, .iadd, 1, 0), (582, .iaload, 1, 0), (583, .aload_n 0, 1, 0), (584, .iload_n 3, 1, 0), (585, .iconst 4, 1, 0), (586, .iadd, 1, 0), (587, .iaload, 1, 0), (588, .aload_n 0, 1, 0), (589, .iload_n 3, 1, 0), (590, .iconst 5, 1, 0), (591, .iadd, 1, 0)]
def cd_340_37 : List (Nat × Instr × Nat × Nat) := [(592, .iaload, 1, 0), (593, .invokevirtual 53, 3, 0), (596, .if_icmp .eq 1376, 3, 1972), (599, .iconst 0, 1, 0), (600, .ireturn, 1, 0), (601, .aload_n 1, 1, 0), (602, .aload_n 0, 1, 0), (603, .iload_n 3, 1, 0), (604, .iconst 1, 1, 0), (605, .iadd, 1, 0), (606, .iaload, 1, 0), (607, .invokevirtual 54, 3, 0)]
def cd_340_38 : List (Nat × Instr × Nat × Nat) := [(610, .aload_n 2, 1, 0), (611, .aload_n 0, 1, 0), (612, .iload_n 3, 1, 0), (613, .iconst 1, 1, 0), (614, .iadd, 1, 0), (615, .iaload, 1, 0), (616, .invokevirtual 58, 3, 0), (619, .if_icmp .eq 1353, 3, 1972), (622, .iconst 0, 1, 0), (623, .ireturn, 1, 0)]
def cd_340_39 : List (Nat × Instr × Nat × Nat) := [(624, .aload_n 1, 1, 0), (625, .aload_n 0, 1, 0), (626, .iload_n 3, 1, 0), (627, .iconst 1, 1, 0), (628, .iadd, 1, 0), (629, .iaload, 1, 0), (630, .invokevirtual 59, 3, 0), (633, .aload_n 2, 1, 0), (634, .aload_n 0, 1, 0), (635, .iload_n 3, 1, 0), (636, .iconst 1, 1, 0), (637, .iadd, 1, 0), (638, .iaload, 1, 0), (639, .invokevirtual 62, 3, 0)]
def cd_340_40 : List (Nat × Instr × Nat × Nat) := [(642, .if_icmp .eq 1330, 3, 1972), (645, .iconst 0, 1, 0), (646, .ireturn, 1, 0), (647, .aload_n 1, 1, 0), (648, .aload_n 0, 1, 0), (649, .iload_n 3, 1, 0), (650, .iconst 1, 1, 0), (651, .iadd, 1, 0), (652, .iaload, 1, 0), (653, .invokevirtual 63, 3, 0)]
def cd_340_41 : List (Nat × Instr × Nat × Nat) := [(656, .aload_n 2, 1, 0), (657, .aload_n 0, 1, 0), (658, .iload_n 3, 1, 0), (659, .iconst 1, 1, 0), (660, .iadd, 1, 0), (661, .iaload, 1, 0), (662, .invokevirtual 66, 3, 0), (665, .if_icmp .eq 1307, 3, 1972), (668, .iconst 0, 1, 0), (669, .ireturn, 1, 0), (670, .aload_n 1, 1, 0), (671, .aload_n 0, 1, 0)]
def cd_340_42 : List (Nat × Instr × Nat × Nat) := [(672, .iload_n 3, 1, 0), (673, .iconst 1, 1, 0), (674, .iadd, 1, 0), (675, .iaload, 1, 0), (676, .invokevirtual 67, 3, 0), (679, .aload_n 2, 1, 0), (680, .aload_n 0, 1, 0), (681, .iload_n 3, 1, 0), (682, .iconst 1, 1, 0), (683, .iadd, 1, 0), (684, .iaload, 1, 0), (685, .invokevirtual 70, 3, 0)]
def cd_340_43 : List (Nat × Instr × Nat × Nat) := [(688, .if_icmp .eq 1284, 3, 1972), (691, .iconst 0, 1, 0), (692, .ireturn, 1, 0), (693, .aload_n 1, 1, 0), (694, .aload_n 0, 1, 0), (695, .iload_n 3, 1, 0), (696, .iconst 1, 1, 0), (697, .iadd, 1, 0), (698, .iaload, 1, 0), (699, .aload_n 0, 1, 0), (700, .iload_n 3, 1, 0), (701, .iconst 2, 1, 0), (702, .iadd, 1, 0), (703, .iaload, 1, 0)]
def cd_340_44 : List (Nat × Instr × Nat × Nat) := [(704, .invokevirtual 71, 3, 0), (707, .aload_n 2, 1, 0), (708, .aload_n 0, 1, 0), (709, .iload_n 3, 1, 0), (710, .iconst 1, 1, 0), (711, .iadd, 1, 0), (712, .iaload, 1, 0), (713, .aload_n 0, 1, 0), (714, .iload_n 3, 1, 0), (715, .iconst 2, 1, 0), (716, .iadd, 1, 0), (717, .iaload, 1, 0), (718, .invokevirtual 75, 3, 0)]
def cd_340_45 : List (Nat × Instr × Nat × Nat) := [(721, .if_icmp .eq 1251, 3, 1972), (724, .iconst 0, 1, 0), (725, .ireturn, 1, 0), (726, .aload_n 1, 1, 0), (727, .aload_n 0, 1, 0), (728, .iload_n 3, 1, 0), (729, .iconst 1, 1, 0), (730, .iadd, 1, 0), (731, .iaload, 1, 0), (732, .aload_n 0, 1, 0), (733, .iload_n 3, 1, 0), (734, .iconst 2, 1, 0), (735, .iadd, 1, 0)]
def cd_340_46 : List (Nat × Instr × Nat × Nat) := [(736, .iaload, 1, 0), (737, .invokevirtual 76, 3, 0), (740, .aload_n 2, 1, 0), (741, .aload_n 0, 1, 0), (742, .iload_n 3, 1, 0), (743, .iconst 1, 1, 0), (744, .iadd, 1, 0), (745, .iaload, 1, 0), (746, .aload_n 0, 1, 0), (747, .iload_n 3, 1, 0), (748, .iconst 2, 1, 0), (749, .iadd, 1, 0), (750, .iaload, 1, 0), (751, .invokevirtual 79, 3, 0)]
def cd_340_47 : List (Nat × Instr × Nat × Nat) := [(754, .if_icmp .eq 1218, 3, 1972), (757, .iconst 0, 1, 0), (758, .ireturn, 1, 0), (759, .aload_n 1, 1, 0), (760, .invokevirtual 80, 3, 0), (763, .aload_n 2, 1, 0), (764, .invokevirtual 83, 3, 0), (767, .if_icmp .eq 1205, 3, 1972)]
def cd_340_48 : List (Nat × Instr × Nat × Nat) := [(770, .iconst 0, 1, 0), (771, .ireturn, 1, 0), (772, .aload_n 1, 1, 0), (773, .aload_n 0, 1, 0), (774, .iload_n 3, 1, 0), (775, .iconst 1, 1, 0), (776, .iadd, 1, 0), (777, .iaload, 1, 0), (778, .aload_n 0, 1, 0), (779, .iload_n 3, 1, 0), (780, .iconst 2, 1, 0), (781, .iadd, 1, 0), (782, .iaload, 1, 0), (783, .ifCond .eq 7, 3, 790)]
def cd_340_49 : List (Nat × Instr × Nat × Nat) := [(786, .iconst 1, 1, 0), (787, .goto 4, 3, 791), (790, .iconst 0, 1, 0), (791, .invokevirtual 84, 3, 0), (794, .aload_n 2, 1, 0), (795, .aload_n 0, 1, 0), (796, .iload_n 3, 1, 0), (797, .iconst 1, 1, 0), (798, .iadd, 1, 0), (799, .iaload, 1, 0)]
def cd_340_50 : List (Nat × Instr × Nat × Nat) := [(800, .aload_n 0, 1, 0), (801, .iload_n 3, 1, 0), (802, .iconst 2, 1, 0), (803, .iadd, 1, 0), (804, .iaload, 1, 0), (805, .ifCond .eq 7, 3, 812), (808, .iconst 1, 1, 0), (809, .goto 4, 3, 813), (812, .iconst 0, 1, 0), (813, .invokevirtual 88, 3, 0)]
def cd_340_51 : List (Nat × Instr × Nat × Nat) := [(816, .if_icmp .eq 1156, 3, 1972), (819, .iconst 0, 1, 0), (820, .ireturn, 1, 0), (821, .aload_n 1, 1, 0), (822, .aload_n 0, 1, 0), (823, .iload_n 3, 1, 0), (824, .iconst 1, 1, 0), (825, .iadd, 1, 0), (826, .iaload, 1, 0), (827, .invokevirtual 89, 3, 0), (830, .aload_n 2, 1, 0), (831, .aload_n 0, 1, 0)]
def cd_340_52 : List (Nat × Instr × Nat × Nat) := [(832, .iload_n 3, 1, 0), (833, .iconst 1, 1, 0), (834, .iadd, 1, 0), (835, .iaload, 1, 0), (836, .invokevirtual 92, 3, 0), (839, .if_icmp .eq 1133, 3, 1972), (842, .iconst 0, 1, 0), (843, .ireturn, 1, 0), (844, .aload_n 1, 1, 0), (845, .aload_n 0, 1, 0), (846, .iload_n 3, 1, 0), (847, .iconst 1, 1, 0)]
def cd_340_53 : List (Nat × Instr × Nat × Nat) := [(848, .iadd, 1, 0), (849, .iaload, 1, 0), (850, .aload_n 0, 1, 0), (851, .iload_n 3, 1, 0), (852, .iconst 2, 1, 0), (853, .iadd, 1, 0), (854, .iaload, 1, 0), (855, .invokevirtual 93, 3, 0), (858, .aload_n 2, 1, 0), (859, .aload_n 0, 1, 0), (860, .iload_n 3, 1, 0), (861, .iconst 1, 1, 0), (862, .iadd, 1, 0), (863, .iaload, 1, 0)]
def cd_340_54 : List (Nat × Instr × Nat × Nat) := [(864, .aload_n 0, 1, 0), (865, .iload_n 3, 1, 0), (866, .iconst 2, 1, 0), (867, .iadd, 1, 0), (868, .iaload, 1, 0), (869, .invokevirtual 97, 3, 0), (872, .if_icmp .eq 1100, 3, 1972), (875, .iconst 0, 1, 0), (876, .ireturn, 1, 0), (877, .aload_n 1, 1, 0), (878, .aload_n 0, 1, 0), (879, .iload_n 3, 1, 0)]
def cd_340_55 : List (Nat × Instr × Nat × Nat) := [(880, .iconst 1, 1, 0), (881, .iadd, 1, 0), (882, .iaload, 1, 0), (883, .aload_n 0, 1, 0), (884, .iload_n 3, 1, 0), (885, .iconst 2, 1, 0), (886, .iadd, 1, 0), (887, .iaload, 1, 0), (888, .aload_n 0, 1, 0), (889, .iload_n 3, 1, 0), (890, .iconst 3, 1, 0), (891, .iadd, 1, 0), (892, .iaload, 1, 0), (893, .ifCond .eq 7, 3, 900)]
def cd_340_56 : List (Nat × Instr × Nat × Nat) := [(896, .iconst 1, 1, 0), (897, .goto 4, 3, 901), (900, .iconst 0, 1, 0), (901, .invokevirtual 98, 3, 0), (904, .aload_n 2, 1, 0), (905, .aload_n 0, 1, 0), (906, .iload_n 3, 1, 0), (907, .iconst 1, 1, 0), (908, .iadd, 1, 0), (909, .iaload, 1, 0), (910, .aload_n 0, 1, 0), (911, .iload_n 3, 1, 0)]
def cd_340_57 : List (Nat × Instr × Nat × Nat) := [(912, .iconst 2, 1, 0), (913, .iadd, 1, 0), (914, .iaload, 1, 0), (915, .aload_n 0, 1, 0), (916, .iload_n 3, 1, 0), (917, .iconst 3, 1, 0), (918, .iadd, 1, 0), (919, .iaload, 1, 0), (920, .ifCond .eq 7, 3, 927), (923, .iconst 1, 1, 0), (924, .goto 4, 3, 928), (927, .iconst 0, 1, 0)]
def cd_340_58 : List (Nat × Instr × Nat × Nat) := [(928, .invokevirtual 102, 3, 0), (931, .if_icmp .eq 1041, 3, 1972), (934, .iconst 0, 1, 0), (935, .ireturn, 1, 0), (936, .aload_n 1, 1, 0), (937, .aload_n 0, 1, 0), (938, .iload_n 3, 1, 0), (939, .iconst 1, 1, 0), (940, .iadd, 1, 0), (941, .iaload, 1, 0), (942, .aload_n 0, 1, 0), (943, .iload_n 3, 1, 0)]
def cd_340_59 : List (Nat × Instr × Nat × Nat) := [(944, .iconst 2, 1, 0), (945, .iadd, 1, 0), (946, .iaload, 1, 0), (947, .aload_n 0, 1, 0), (948, .iload_n 3, 1, 0), (949, .iconst 3, 1, 0), (950, .iadd, 1, 0), (951, .iaload, 1, 0), (952, .ifCond .eq 7, 3, 959), (955, .iconst 1, 1, 0), (956, .goto 4, 3, 960), (959, .iconst 0, 1, 0)]
def cd_340_60 : List (Nat × Instr × Nat × Nat) := [(960, .invokevirtual 103, 3, 0), (963, .aload_n 2, 1, 0), (964, .aload_n 0, 1, 0), (965, .iload_n 3, 1, 0), (966, .iconst 1, 1, 0), (967, .iadd, 1, 0), (968, .iaload, 1, 0), (969, .aload_n 0, 1, 0), (970, .iload_n 3, 1, 0), (971, .iconst 2, 1, 0), (972, .iadd, 1, 0), (973, .iaload, 1, 0), (974, .aload_n 0, 1, 0), (975, .iload_n 3, 1, 0)]
def cd_340_61 : List (Nat × Instr × Nat × Nat) := [(976, .iconst 3, 1, 0), (977, .iadd, 1, 0), (978, .iaload, 1, 0), (979, .ifCond .eq 7, 3, 986), (982, .iconst 1, 1, 0), (983, .goto 4, 3, 987), (986, .iconst 0, 1, 0), (987, .invokevirtual 106, 3, 0), (990, .if_icmp .eq 982, 3, 1972)]
def cd_340_62 : List (Nat × Instr × Nat × Nat) := [(993, .iconst 0, 1, 0), (994, .ireturn, 1, 0), (995, .aload_n 1, 1, 0), (996, .aload_n 0, 1, 0), (997, .iload_n 3, 1, 0), (998, .iconst 1, 1, 0), (999, .iadd, 1, 0), (1000, .iaload, 1, 0), (1001, .aload_n 0, 1, 0), (1002, .iload_n 3, 1, 0), (1003, .iconst 2, 1, 0), (1004, .iadd, 1, 0), (1005, .iaload, 1, 0), (1006, .invokevirtual 107, 3, 0)]
def cd_340_63 : List (Nat × Instr × Nat × Nat) := [(1009, .aload_n 2, 1, 0), (1010, .aload_n 0, 1, 0), (1011, .iload_n 3, 1, 0), (1012, .iconst 1, 1, 0), (1013, .iadd, 1, 0), (1014, .iaload, 1, 0), (1015, .aload_n 0, 1, 0), (1016, .iload_n 3, 1, 0), (1017, .iconst 2, 1, 0), (1018, .iadd, 1, 0), (1019, .iaload, 1, 0), (1020, .invokevirtual 110, 3, 0), (1023, .if_icmp .eq 949, 3, 1972)]
def cd_340_64 : List (Nat × Instr × Nat × Nat) := [(1026, .iconst 0, 1, 0), (1027, .ireturn, 1, 0), (1028, .aload_n 1, 1, 0), (1029, .aload_n 0, 1, 0), (1030, .iload_n 3, 1, 0), (1031, .iconst 1, 1, 0), (1032, .iadd, 1, 0), (1033, .iaload, 1, 0), (1034, .invokevirtual 111, 3, 0), (1037, .aload_n 2, 1, 0), (1038, .aload_n 0, 1, 0), (1039, .iload_n 3, 1, 0)]
def cd_340_65 : List (Nat × Instr × Nat × Nat) := [(1040, .iconst 1, 1, 0), (1041, .iadd, 1, 0), (1042, .iaload, 1, 0), (1043, .invokevirtual 114, 3, 0), (1046, .if_icmp .eq 926, 3, 1972), (1049, .iconst 0, 1, 0), (1050, .ireturn, 1, 0), (1051, .aload_n 1, 1, 0), (1052, .aload_n 0, 1, 0), (1053, .iload_n 3, 1, 0), (1054, .iconst 1, 1, 0), (1055, .iadd, 1, 0)]
def cd_340_66 : List (Nat × Instr × Nat × Nat) := [(1056, .iaload, 1, 0), (1057, .aload_n 0, 1, 0), (1058, .iload_n 3, 1, 0), (1059, .iconst 2, 1, 0), (1060, .iadd, 1, 0), (1061, .iaload, 1, 0), (1062, .invokevirtual 115, 3, 0), (1065, .aload_n 2, 1, 0), (1066, .aload_n 0, 1, 0), (1067, .iload_n 3, 1, 0), (1068, .iconst 1, 1, 0), (1069, .iadd, 1, 0), (1070, .iaload, 1, 0), (1071, .aload_n 0, 1, 0)]
def cd_340_67 : List (Nat × Instr × Nat × Nat) := [(1072, .iload_n 3, 1, 0), (1073, .iconst 2, 1, 0), (1074, .iadd, 1, 0), (1075, .iaload, 1, 0), (1076, .invokevirtual 118, 3, 0), (1079, .if_icmp .eq 893, 3, 1972), (1082, .iconst 0, 1, 0), (1083, .ireturn, 1, 0), (1084, .aload_n 1, 1, 0), (1085, .aload_n 0, 1, 0), (1086, .iload_n 3, 1, 0), (1087, .iconst 1, 1, 0)]
def cd_340_68 : List (Nat × Instr × Nat × Nat) := [(1088, .iadd, 1, 0), (1089, .iaload, 1, 0), (1090, .aload_n 0, 1, 0), (1091, .iload_n 3, 1, 0), (1092, .iconst 2, 1, 0), (1093, .iadd, 1, 0), (1094, .iaload, 1, 0), (1095, .invokevirtual 119, 3, 0), (1098, .aload_n 2, 1, 0), (1099, .aload_n 0, 1, 0), (1100, .iload_n 3, 1, 0), (1101, .iconst 1, 1, 0), (1102, .iadd, 1, 0), (1103, .iaload, 1, 0)]
def cd_340_69 : List (Nat × Instr × Nat × Nat) := [(1104, .aload_n 0, 1, 0), (1105, .iload_n 3, 1, 0), (1106, .iconst 2, 1, 0), (1107, .iadd, 1, 0), (1108, .iaload, 1, 0), (1109, .invokevirtual 122, 3, 0), (1112, .if_icmp .eq 860, 3, 1972), (1115, .iconst 0, 1, 0), (1116, .ireturn, 1, 0), (1117, .aload_n 1, 1, 0), (1118, .aload_n 0, 1, 0), (1119, .iload_n 3, 1, 0)]
def cd_340_70 : List (Nat × Instr × Nat × Nat) := [(1120, .iconst 1, 1, 0), (1121, .iadd, 1, 0), (1122, .iaload, 1, 0), (1123, .aload_n 0, 1, 0), (1124, .iload_n 3, 1, 0), (1125, .iconst 2, 1, 0), (1126, .iadd, 1, 0), (1127, .iaload, 1, 0), (1128, .invokevirtual 123, 3, 0), (1131, .aload_n 2, 1, 0), (1132, .aload_n 0, 1, 0), (1133, .iload_n 3, 1, 0), (1134, .iconst 1, 1, 0), (1135, .iadd, 1, 0)]
def cd_340_71 : List (Nat × Instr × Nat × Nat) := [(1136, .iaload, 1, 0), (1137, .aload_n 0, 1, 0), (1138, .iload_n 3, 1, 0), (1139, .iconst 2, 1, 0), (1140, .iadd, 1, 0), (1141, .iaload, 1, 0), (1142, .invokevirtual 126, 3, 0), (1145, .if_icmp .eq 827, 3, 1972), (1148, .iconst 0, 1, 0), (1149, .ireturn, 1, 0), (1150, .aload_n 1, 1, 0), (1151, .aload_n 0, 1, 0)]
def cd_340_72 : List (Nat × Instr × Nat × Nat) := [(1152, .iload_n 3, 1, 0), (1153, .iconst 1, 1, 0), (1154, .iadd, 1, 0), (1155, .iaload, 1, 0), (1156, .invokevirtual 127, 3, 0), (1159, .aload_n 2, 1, 0), (1160, .aload_n 0, 1, 0), (1161, .iload_n 3, 1, 0), (1162, .iconst 1, 1, 0), (1163, .iadd, 1, 0), (1164, .iaload, 1, 0), (1165, .invokevirtual 130, 3, 0)]
def cd_340_73 : List (Nat × Instr × Nat × Nat) := [(1168, .if_icmp .eq 804, 3, 1972), (1171, .iconst 0, 1, 0), (1172, .ireturn, 1, 0), (1173, .aload_n 1, 1, 0), (1174, .aload_n 0, 1, 0), (1175, .iload_n 3, 1, 0), (1176, .iconst 1, 1, 0), (1177, .iadd, 1, 0), (1178, .iaload, 1, 0), (1179, .invokevirtual 131, 3, 0), (1182, .aload_n 2, 1, 0), (1183, .aload_n 0, 1, 0)]
def cd_340_74 : List (Nat × Instr × Nat × Nat) := [(1184, .iload_n 3, 1, 0), (1185, .iconst 1, 1, 0), (1186, .iadd, 1, 0), (1187, .iaload, 1, 0), (1188, .invokevirtual 134, 3, 0), (1191, .if_icmp .eq 781, 3, 1972), (1194, .iconst 0, 1, 0), (1195, .ireturn, 1, 0), (1196, .aload_n 1, 1, 0), (1197, .aload_n 0, 1, 0), (1198, .iload_n 3, 1, 0), (1199, .iconst 1, 1, 0)]
def cd_340_75 : List (Nat × Instr × Nat × Nat) := [(1200, .iadd, 1, 0), (1201, .iaload, 1, 0), (1202, .invokevirtual 135, 3, 0), (1205, .aload_n 2, 1, 0), (1206, .aload_n 0, 1, 0), (1207, .iload_n 3, 1, 0), (1208, .iconst 1, 1, 0), (1209, .iadd, 1, 0), (1210, .iaload, 1, 0), (1211, .invokevirtual 138, 3, 0), (1214, .if_icmp .eq 758, 3, 1972)]
def cd_340_76 : List (Nat × Instr × Nat × Nat) := [(1217, .iconst 0, 1, 0), (1218, .ireturn, 1, 0), (1219, .aload_n 1, 1, 0), (1220, .aload_n 0, 1, 0), (1221, .iload_n 3, 1, 0), (1222, .iconst 1, 1, 0), (1223, .iadd, 1, 0), (1224, .iaload, 1, 0), (1225, .aload_n 0, 1, 0), (1226, .iload_n 3, 1, 0), (1227, .iconst 2, 1, 0), (1228, .iadd, 1, 0), (1229, .iaload, 1, 0), (1230, .invokevirtual 139, 3, 0)]
def cd_340_77 : List (Nat × Instr × Nat × Nat) := [(1233, .aload_n 2, 1, 0), (1234, .aload_n 0, 1, 0), (1235, .iload_n 3, 1, 0), (1236, .iconst 1, 1, 0), (1237, .iadd, 1, 0), (1238, .iaload, 1, 0), (1239, .aload_n 0, 1, 0), (1240, .iload_n 3, 1, 0), (1241, .iconst 2, 1, 0), (1242, .iadd, 1, 0), (1243, .iaload, 1, 0), (1244, .invokevirtual 142, 3, 0), (1247, .if_icmp .eq 725, 3, 1972)]
def cd_340_78 : List (Nat × Instr × Nat × Nat) := [(1250, .iconst 0, 1, 0), (1251, .ireturn, 1, 0), (1252, .aload_n 1, 1, 0), (1253, .aload_n 0, 1, 0), (1254, .iload_n 3, 1, 0), (1255, .iconst 1, 1, 0), (1256, .iadd, 1, 0), (1257, .iaload, 1, 0), (1258, .invokevirtual 143, 3, 0), (1261, .aload_n 2, 1, 0), (1262, .aload_n 0, 1, 0), (1263, .iload_n 3, 1, 0)]
def cd_340_79 : List (Nat × Instr × Nat × Nat) := [(1264, .iconst 1, 1, 0), (1265, .iadd, 1, 0), (1266, .iaload, 1, 0), (1267, .invokevirtual 146, 3, 0), (1270, .if_icmp .eq 702, 3, 1972), (1273, .iconst 0, 1, 0), (1274, .ireturn, 1, 0), (1275, .aload_n 1, 1, 0), (1276, .aload_n 0, 1, 0), (1277, .iload_n 3, 1, 0), (1278, .iconst 1, 1, 0), (1279, .iadd, 1, 0)]
def cd_340_80 : List (Nat × Instr × Nat × Nat) := [(1280, .iaload, 1, 0), (1281, .invokevirtual 147, 3, 0), (1284, .aload_n 2, 1, 0), (1285, .aload_n 0, 1, 0), (1286, .iload_n 3, 1, 0), (1287, .iconst 1, 1, 0), (1288, .iadd, 1, 0), (1289, .iaload, 1, 0), (1290, .invokevirtual 150, 3, 0), (1293, .if_icmp .eq 679, 3, 1972)]
def cd_340_81 : List (Nat × Instr × Nat × Nat) := [(1296, .iconst 0, 1, 0), (1297, .ireturn, 1, 0), (1298, .aload_n 1, 1, 0), (1299, .aload_n 0, 1, 0), (1300, .iload_n 3, 1, 0), (1301, .iconst 1, 1, 0), (1302, .iadd, 1, 0), (1303, .iaload, 1, 0), (1304, .invokevirtual 151, 3, 0), (1307, .aload_n 2, 1, 0), (1308, .aload_n 0, 1, 0), (1309, .iload_n 3, 1, 0), (1310, .iconst 1, 1, 0), (1311, .iadd, 1, 0)]
def cd_340_82 : List (Nat × Instr × Nat × Nat) := [(1312, .iaload, 1, 0), (1313, .invokevirtual 154, 3, 0), (1316, .if_icmp .eq 656, 3, 1972), (1319, .iconst 0, 1, 0), (1320, .ireturn, 1, 0), (1321, .aload_n 1, 1, 0), (1322, .aload_n 0, 1, 0), (1323, .iload_n 3, 1, 0), (1324, .iconst 1, 1, 0), (1325, .iadd, 1, 0), (1326, .iaload, 1, 0), (1327, .invokevirtual 155, 3, 0)]
def cd_340_83 : List (Nat × Instr × Nat × Nat) := [(1330, .aload_n 2, 1, 0), (1331, .aload_n 0, 1, 0), (1332, .iload_n 3, 1, 0), (1333, .iconst 1, 1, 0), (1334, .iadd, 1, 0), (1335, .iaload, 1, 0), (1336, .invokevirtual 158, 3, 0), (1339, .if_icmp .eq 633, 3, 1972), (1342, .iconst 0, 1, 0), (1343, .ireturn, 1, 0)]
def cd_340_84 : List (Nat × Instr × Nat × Nat) := [(1344, .aload_n 1, 1, 0), (1345, .aload_n 0, 1, 0), (1346, .iload_n 3, 1, 0), (1347, .iconst 1, 1, 0), (1348, .iadd, 1, 0), (1349, .iaload, 1, 0), (1350, .aload_n 0, 1, 0), (1351, .iload_n 3, 1, 0), (1352, .iconst 2, 1, 0), (1353, .iadd, 1, 0), (1354, .iaload, 1, 0), (1355, .invokevirtual 159, 3, 0), (1358, .aload_n 2, 1, 0), (1359, .aload_n 0, 1, 0)]
def cd_340_85 : List (Nat × Instr × Nat × Nat) := [(1360, .iload_n 3, 1, 0), (1361, .iconst 1, 1, 0), (1362, .iadd, 1, 0), (1363, .iaload, 1, 0), (1364, .aload_n 0, 1, 0), (1365, .iload_n 3, 1, 0), (1366, .iconst 2, 1, 0), (1367, .iadd, 1, 0), (1368, .iaload, 1, 0), (1369, .invokevirtual 162, 3, 0), (1372, .if_icmp .eq 600, 3, 1972), (1375, .iconst 0, 1, 0)]
def cd_340_86 : List (Nat × Instr × Nat × Nat) := [(1376, .ireturn, 1, 0), (1377, .aload_n 1, 1, 0), (1378, .aload_n 0, 1, 0), (1379, .iload_n 3, 1, 0), (1380, .iconst 1, 1, 0), (1381, .iadd, 1, 0), (1382, .iaload, 1, 0), (1383, .invokevirtual 163, 3, 0), (1386, .aload_n 2, 1, 0), (1387, .aload_n 0, 1, 0), (1388, .iload_n 3, 1, 0), (1389, .iconst 1, 1, 0), (1390, .iadd, 1, 0), (1391, .iaload, 1, 0)]
def cd_340_87 : List (Nat × Instr × Nat × Nat) := [(1392, .invokevirtual 166, 3, 0), (1395, .if_icmp .eq 577, 3, 1972), (1398, .iconst 0, 1, 0), (1399, .ireturn, 1, 0), (1400, .aload_n 1, 1, 0), (1401, .aload_n 0, 1, 0), (1402, .iload_n 3, 1, 0), (1403, .iconst 1, 1, 0), (1404, .iadd, 1, 0), (1405, .iaload, 1, 0), (1406, .invokevirtual 167, 3, 0)]
def cd_340_88 : List (Nat × Instr × Nat × Nat) := [(1409, .aload_n 2, 1, 0), (1410, .aload_n 0, 1, 0), (1411, .iload_n 3, 1, 0), (1412, .iconst 1, 1, 0), (1413, .iadd, 1, 0), (1414, .iaload, 1, 0), (1415, .invokevirtual 170, 3, 0), (1418, .if_icmp .eq 554, 3, 1972), (1421, .iconst 0, 1, 0), (1422, .ireturn, 1, 0), (1423, .aload_n 1, 1, 0)]
def cd_340_89 : List (Nat × Instr × Nat × Nat) := [(1424, .aload_n 0, 1, 0), (1425, .iload_n 3, 1, 0), (1426, .iconst 1, 1, 0), (1427, .iadd, 1, 0), (1428, .iaload, 1, 0), (1429, .invokevirtual 171, 3, 0), (1432, .aload_n 2, 1, 0), (1433, .aload_n 0, 1, 0), (1434, .iload_n 3, 1, 0), (1435, .iconst 1, 1, 0), (1436, .iadd, 1, 0), (1437, .iaload, 1, 0), (1438, .invokevirtual 174, 3, 0)]
def cd_340_90 : List (Nat × Instr × Nat × Nat) := [(1441, .if_icmp .eq 531, 3, 1972), (1444, .iconst 0, 1, 0), (1445, .ireturn, 1, 0), (1446, .aload_n 1, 1, 0), (1447, .invokevirtual 175, 3, 0), (1450, .aload_n 2, 1, 0), (1451, .invokevirtual 178, 3, 0), (1454, .if_icmp .eq 518, 3, 1972)]
def cd_340_91 : List (Nat × Instr × Nat × Nat) := [(1457, .iconst 0, 1, 0), (1458, .ireturn, 1, 0), (1459, .aload_n 1, 1, 0), (1460, .invokevirtual 179, 3, 0), (1463, .aload_n 2, 1, 0), (1464, .invokevirtual 182, 3, 0), (1467, .if_icmp .eq 505, 3, 1972), (1470, .iconst 0, 1, 0), (1471, .ireturn, 1, 0)]
def cd_340_92 : List (Nat × Instr × Nat × Nat) := [(1472, .aload_n 1, 1, 0), (1473, .invokevirtual 183, 3, 0), (1476, .aload_n 2, 1, 0), (1477, .invokevirtual 186, 3, 0), (1480, .if_icmp .eq 492, 3, 1972), (1483, .iconst 0, 1, 0), (1484, .ireturn, 1, 0), (1485, .aload_n 1, 1, 0), (1486, .aload_n 0, 1, 0), (1487, .iload_n 3, 1, 0)]
def cd_340_93 : List (Nat × Instr × Nat × Nat) := [(1488, .iconst 1, 1, 0), (1489, .iadd, 1, 0), (1490, .iaload, 1, 0), (1491, .invokevirtual 187, 3, 0), (1494, .aload_n 2, 1, 0), (1495, .aload_n 0, 1, 0), (1496, .iload_n 3, 1, 0), (1497, .iconst 1, 1, 0), (1498, .iadd, 1, 0), (1499, .iaload, 1, 0), (1500, .invokevirtual 190, 3, 0), (1503, .if_icmp .eq 469, 3, 1972)]
def cd_340_94 : List (Nat × Instr × Nat × Nat) := [(1506, .iconst 0, 1, 0), (1507, .ireturn, 1, 0), (1508, .aload_n 1, 1, 0), (1509, .aload_n 0, 1, 0), (1510, .iload_n 3, 1, 0), (1511, .iconst 1, 1, 0), (1512, .iadd, 1, 0), (1513, .iaload, 1, 0), (1514, .invokevirtual 191, 3, 0), (1517, .aload_n 2, 1, 0), (1518, .aload_n 0, 1, 0), (1519, .iload_n 3, 1, 0)]
def cd_340_95 : List (Nat × Instr × Nat × Nat) := [(1520, .iconst 1, 1, 0), (1521, .iadd, 1, 0), (1522, .iaload, 1, 0), (1523, .invokevirtual 194, 3, 0), (1526, .if_icmp .eq 446, 3, 1972), (1529, .iconst 0, 1, 0), (1530, .ireturn, 1, 0), (1531, .aload_n 1, 1, 0), (1532, .aload_n 0, 1, 0), (1533, .iload_n 3, 1, 0), (1534, .iconst 1, 1, 0), (1535, .iadd, 1, 0)]
def cd_340_96 : List (Nat × Instr × Nat × Nat) := [(1536, .iaload, 1, 0), (1537, .aload_n 0, 1, 0), (1538, .iload_n 3, 1, 0), (1539, .iconst 2, 1, 0), (1540, .iadd, 1, 0), (1541, .iaload, 1, 0), (1542, .invokevirtual 195, 3, 0), (1545, .aload_n 2, 1, 0), (1546, .aload_n 0, 1, 0), (1547, .iload_n 3, 1, 0), (1548, .iconst 1, 1, 0), (1549, .iadd, 1, 0), (1550, .iaload, 1, 0), (1551, .aload_n 0, 1, 0)]
def cd_340_97 : List (Nat × Instr × Nat × Nat) := [(1552, .iload_n 3, 1, 0), (1553, .iconst 2, 1, 0), (1554, .iadd, 1, 0), (1555, .iaload, 1, 0), (1556, .invokevirtual 198, 3, 0), (1559, .if_icmp .eq 413, 3, 1972), (1562, .iconst 0, 1, 0), (1563, .ireturn, 1, 0), (1564, .aload_n 1, 1, 0), (1565, .aload_n 0, 1, 0), (1566, .iload_n 3, 1, 0), (1567, .iconst 1, 1, 0)]
def cd_340_98 : List (Nat × Instr × Nat × Nat) := [(1568, .iadd, 1, 0), (1569, .iaload, 1, 0), (1570, .aload_n 0, 1, 0), (1571, .iload_n 3, 1, 0), (1572, .iconst 2, 1, 0), (1573, .iadd, 1, 0), (1574, .iaload, 1, 0), (1575, .aload_n 0, 1, 0), (1576, .iload_n 3, 1, 0), (1577, .iconst 3, 1, 0), (1578, .iadd, 1, 0), (1579, .iaload, 1, 0), (1580, .invokevirtual 199, 3, 0), (1583, .aload_n 2, 1, 0)]
def cd_340_99 : List (Nat × Instr × Nat × Nat) := [(1584, .aload_n 0, 1, 0), (1585, .iload_n 3, 1, 0), (1586, .iconst 1, 1, 0), (1587, .iadd, 1, 0), (1588, .iaload, 1, 0), (1589, .aload_n 0, 1, 0), (1590, .iload_n 3, 1, 0), (1591, .iconst 2, 1, 0), (1592, .iadd, 1, 0), (1593, .iaload, 1, 0), (1594, .aload_n 0, 1, 0), (1595, .iload_n 3, 1, 0), (1596, .iconst 3, 1, 0), (1597, .iadd, 1, 0), (1598, .iaload, 1, 0), (1599, .invokevirtual 203, 3, 0)]
def cd_340_100 : List (Nat × Instr × Nat × Nat) := [(1602, .if_icmp .eq 370, 3, 1972), (1605, .iconst 0, 1, 0), (1606, .ireturn, 1, 0), (1607, .aload_n 1, 1, 0), (1608, .aload_n 0, 1, 0), (1609, .iload_n 3, 1, 0), (1610, .iconst 1, 1, 0), (1611, .iadd, 1, 0), (1612, .iaload, 1, 0), (1613, .aload_n 0, 1, 0), (1614, .iload_n 3, 1, 0), (1615, .iconst 2, 1, 0)]
def cd_340_101 : List (Nat × Instr × Nat × Nat) := [(1616, .iadd, 1, 0), (1617, .iaload, 1, 0), (1618, .aload_n 0, 1, 0), (1619, .iload_n 3, 1, 0), (1620, .iconst 3, 1, 0), (1621, .iadd, 1, 0), (1622, .iaload, 1, 0), (1623, .aload_n 0, 1, 0), (1624, .iload_n 3, 1, 0), (1625, .iconst 4, 1, 0), (1626, .iadd, 1, 0), (1627, .iaload, 1, 0), (1628, .invokevirtual 204, 3, 0), (1631, .aload_n 2, 1, 0)]
def cd_340_102 : List (Nat × Instr × Nat × Nat) := [(1632, .aload_n 0, 1, 0), (1633, .iload_n 3, 1, 0), (1634, .iconst 1, 1, 0), (1635, .iadd, 1, 0), (1636, .iaload, 1, 0), (1637, .aload_n 0, 1, 0), (1638, .iload_n 3, 1, 0), (1639, .iconst 2, 1, 0), (1640, .iadd, 1, 0), (1641, .iaload, 1, 0), (1642, .aload_n 0, 1, 0), (1643, .iload_n 3, 1, 0), (1644, .iconst 3, 1, 0), (1645, .iadd, 1, 0), (1646, .iaload, 1, 0), (1647, .aload_n 0, 1, 0)]
def cd_340_103 : List (Nat × Instr × Nat × Nat) := [(1648, .iload_n 3, 1, 0), (1649, .iconst 4, 1, 0), (1650, .iadd, 1, 0), (1651, .iaload, 1, 0), (1652, .invokevirtual 208, 3, 0), (1655, .if_icmp .eq 317, 3, 1972), (1658, .iconst 0, 1, 0), (1659, .ireturn, 1, 0), (1660, .aload_n 1, 1, 0), (1661, .aload_n 0, 1, 0), (1662, .iload_n 3, 1, 0), (1663, .iconst 1, 1, 0)]
def cd_340_104 : List (Nat × Instr × Nat × Nat) := [(1664, .iadd, 1, 0), (1665, .iaload, 1, 0), (1666, .aload_n 0, 1, 0), (1667, .iload_n 3, 1, 0), (1668, .iconst 2, 1, 0), (1669, .iadd, 1, 0), (1670, .iaload, 1, 0), (1671, .aload_n 0, 1, 0), (1672, .iload_n 3, 1, 0), (1673, .iconst 3, 1, 0), (1674, .iadd, 1, 0), (1675, .iaload, 1, 0), (1676, .invokevirtual 209, 3, 0), (1679, .aload_n 2, 1, 0)]
def cd_340_105 : List (Nat × Instr × Nat × Nat) := [(1680, .aload_n 0, 1, 0), (1681, .iload_n 3, 1, 0), (1682, .iconst 1, 1, 0), (1683, .iadd, 1, 0), (1684, .iaload, 1, 0), (1685, .aload_n 0, 1, 0), (1686, .iload_n 3, 1, 0), (1687, .iconst 2, 1, 0), (1688, .iadd, 1, 0), (1689, .iaload, 1, 0), (1690, .aload_n 0, 1, 0), (1691, .iload_n 3, 1, 0), (1692, .iconst 3, 1, 0), (1693, .iadd, 1, 0), (1694, .iaload, 1, 0), (1695, .invokevirtual 212, 3, 0)]
def cd_340_106 : List (Nat × Instr × Nat × Nat) := [(1698, .if_icmp .eq 274, 3, 1972), (1701, .iconst 0, 1, 0), (1702, .ireturn, 1, 0), (1703, .aload_n 1, 1, 0), (1704, .invokevirtual 213, 3, 0), (1707, .aload_n 2, 1, 0), (1708, .invokevirtual 216, 3, 0), (1711, .if_icmp .eq 261, 3, 1972)]
def cd_340_107 : List (Nat × Instr × Nat × Nat) := [(1714, .iconst 0, 1, 0), (1715, .ireturn, 1, 0), (1716, .aload_n 1, 1, 0), (1717, .invokevirtual 217, 3, 0), (1720, .aload_n 2, 1, 0), (1721, .invokevirtual 220, 3, 0), (1724, .if_icmp .eq 248, 3, 1972), (1727, .iconst 0, 1, 0)]
def cd_340_108 : List (Nat × Instr × Nat × Nat) := [(1728, .ireturn, 1, 0), (1729, .aload_n 1, 1, 0), (1730, .invokevirtual 221, 3, 0), (1733, .aload_n 2, 1, 0), (1734, .invokevirtual 224, 3, 0), (1737, .if_icmp .eq 235, 3, 1972), (1740, .iconst 0, 1, 0), (1741, .ireturn, 1, 0), (1742, .aload_n 1, 1, 0), (1743, .aload_n 0, 1, 0)]
def cd_340_109 : List (Nat × Instr × Nat × Nat) := [(1744, .iload_n 3, 1, 0), (1745, .iconst 1, 1, 0), (1746, .iadd, 1, 0), (1747, .iaload, 1, 0), (1748, .invokevirtual 225, 3, 0), (1751, .aload_n 2, 1, 0), (1752, .aload_n 0, 1, 0), (1753, .iload_n 3, 1, 0), (1754, .iconst 1, 1, 0), (1755, .iadd, 1, 0), (1756, .iaload, 1, 0), (1757, .invokevirtual 228, 3, 0)]
def cd_340_110 : List (Nat × Instr × Nat × Nat) := [(1760, .if_icmp .eq 212, 3, 1972), (1763, .iconst 0, 1, 0), (1764, .ireturn, 1, 0), (1765, .aload_n 1, 1, 0), (1766, .aload_n 0, 1, 0), (1767, .iload_n 3, 1, 0), (1768, .iconst 1, 1, 0), (1769, .iadd, 1, 0), (1770, .iaload, 1, 0), (1771, .invokevirtual 229, 3, 0), (1774, .aload_n 2, 1, 0), (1775, .aload_n 0, 1, 0)]
def cd_340_111 : List (Nat × Instr × Nat × Nat) := [(1776, .iload_n 3, 1, 0), (1777, .iconst 1, 1, 0), (1778, .iadd, 1, 0), (1779, .iaload, 1, 0), (1780, .invokevirtual 232, 3, 0), (1783, .if_icmp .eq 189, 3, 1972), (1786, .iconst 0, 1, 0), (1787, .ireturn, 1, 0), (1788, .aload_n 1, 1, 0), (1789, .aload_n 0, 1, 0), (1790, .iload_n 3, 1, 0), (1791, .iconst 1, 1, 0)]
def cd_340_112 : List (Nat × Instr × Nat × Nat) := [(1792, .iadd, 1, 0), (1793, .iaload, 1, 0), (1794, .aload_n 0, 1, 0), (1795, .iload_n 3, 1, 0), (1796, .iconst 2, 1, 0), (1797, .iadd, 1, 0), (1798, .iaload, 1, 0), (1799, .invokevirtual 233, 3, 0), (1802, .aload_n 2, 1, 0), (1803, .aload_n 0, 1, 0), (1804, .iload_n 3, 1, 0), (1805, .iconst 1, 1, 0), (1806, .iadd, 1, 0), (1807, .iaload, 1, 0)]
def cd_340_113 : List (Nat × Instr × Nat × Nat) := [(1808, .aload_n 0, 1, 0), (1809, .iload_n 3, 1, 0), (1810, .iconst 2, 1, 0), (1811, .iadd, 1, 0), (1812, .iaload, 1, 0), (1813, .invokevirtual 236, 3, 0), (1816, .if_icmp .eq 156, 3, 1972), (1819, .iconst 0, 1, 0), (1820, .ireturn, 1, 0), (1821, .aload_n 1, 1, 0), (1822, .aload_n 0, 1, 0), (1823, .iload_n 3, 1, 0)]
def cd_340_114 : List (Nat × Instr × Nat × Nat) := [(1824, .iconst 1, 1, 0), (1825, .iadd, 1, 0), (1826, .iaload, 1, 0), (1827, .invokevirtual 237, 3, 0), (1830, .aload_n 2, 1, 0), (1831, .aload_n 0, 1, 0), (1832, .iload_n 3, 1, 0), (1833, .iconst 1, 1, 0), (1834, .iadd, 1, 0), (1835, .iaload, 1, 0), (1836, .invokevirtual 241, 3, 0), (1839, .if_icmp .eq 133, 3, 1972)]
def cd_340_115 : List (Nat × Instr × Nat × Nat) := [(1842, .iconst 0, 1, 0), (1843, .ireturn, 1, 0), (1844, .aload_n 1, 1, 0), (1845, .aload_n 0, 1, 0), (1846, .iload_n 3, 1, 0), (1847, .iconst 1, 1, 0), (1848, .iadd, 1, 0), (1849, .iaload, 1, 0), (1850, .invokevirtual 242, 3, 0), (1853, .aload_n 2, 1, 0), (1854, .aload_n 0, 1, 0), (1855, .iload_n 3, 1, 0)]
def cd_340_116 : List (Nat × Instr × Nat × Nat) := [(1856, .iconst 1, 1, 0), (1857, .iadd, 1, 0), (1858, .iaload, 1, 0), (1859, .invokevirtual 245, 3, 0), (1862, .if_icmp .eq 110, 3, 1972), (1865, .iconst 0, 1, 0), (1866, .ireturn, 1, 0), (1867, .aload_n 1, 1, 0), (1868, .aload_n 0, 1, 0), (1869, .iload_n 3, 1, 0), (1870, .iconst 1, 1, 0), (1871, .iadd, 1, 0)]
def cd_340_117 : List (Nat × Instr × Nat × Nat) := [(1872, .iaload, 1, 0), (1873, .invokevirtual 246, 3, 0), (1876, .aload_n 2, 1, 0), (1877, .aload_n 0, 1, 0), (1878, .iload_n 3, 1, 0), (1879, .iconst 1, 1, 0), (1880, .iadd, 1, 0), (1881, .iaload, 1, 0), (1882, .invokevirtual 249, 3, 0), (1885, .if_icmp .eq 87, 3, 1972)]
def cd_340_118 : List (Nat × Instr × Nat × Nat) := [(1888, .iconst 0, 1, 0), (1889, .ireturn, 1, 0), (1890, .aload_n 1, 1, 0), (1891, .aload_n 0, 1, 0), (1892, .iload_n 3, 1, 0), (1893, .iconst 1, 1, 0), (1894, .iadd, 1, 0), (1895, .iaload, 1, 0), (1896, .invokevirtual 250, 3, 0), (1899, .aload_n 2, 1, 0), (1900, .aload_n 0, 1, 0), (1901, .iload_n 3, 1, 0), (1902, .iconst 1, 1, 0), (1903, .iadd, 1, 0)]
def cd_340_119 : List (Nat × Instr × Nat × Nat) := [(1904, .iaload, 1, 0), (1905, .invokevirtual 253, 3, 0), (1908, .if_icmp .eq 64, 3, 1972), (1911, .iconst 0, 1, 0), (1912, .ireturn, 1, 0), (1913, .aload_n 1, 1, 0), (1914, .aload_n 0, 1, 0), (1915, .iload_n 3, 1, 0), (1916, .iconst 1, 1, 0), (1917, .iadd, 1, 0), (1918, .iaload, 1, 0), (1919, .aload_n 0, 1, 0)]
def cd_340_120 : List (Nat × Instr × Nat × Nat) := [(1920, .iload_n 3, 1, 0), (1921, .iconst 2, 1, 0), (1922, .iadd, 1, 0), (1923, .iaload, 1, 0), (1924, .invokevirtual 254, 3, 0), (1927, .aload_n 2, 1, 0), (1928, .aload_n 0, 1, 0), (1929, .iload_n 3, 1, 0), (1930, .iconst 1, 1, 0), (1931, .iadd, 1, 0), (1932, .iaload, 1, 0), (1933, .aload_n 0, 1, 0), (1934, .iload_n 3, 1, 0), (1935, .iconst 2, 1, 0)]
def cd_340_121 : List (Nat × Instr × Nat × Nat) := [(1936, .iadd, 1, 0), (1937, .iaload, 1, 0), (1938, .invokevirtual 257, 3, 0), (1941, .if_icmp .eq 31, 3, 1972), (1944, .iconst 0, 1, 0), (1945, .ireturn, 1, 0), (1946, .aload_n 1, 1, 0), (1947, .invokevirtual 258, 3, 0), (1950, .aload_n 2, 1, 0), (1951, .invokevirtual 261, 3, 0)]
def cd_340_122 : List (Nat × Instr × Nat × Nat) := [(1954, .if_icmp .eq 18, 3, 1972), (1957, .iconst 0, 1, 0), (1958, .ireturn, 1, 0), (1959, .aload_n 1, 1, 0), (1960, .invokevirtual 262, 3, 0), (1963, .aload_n 2, 1, 0), (1964, .invokevirtual 265, 3, 0), (1967, .if_icmp .eq 5, 3, 1972)]
def cd_340_123 : List (Nat × Instr × Nat × Nat) := [(1970, .iconst 0, 1, 0), (1971, .ireturn, 1, 0), (1972, .iinc 3 6, 3, 0), (1975, .goto (-1957), 3, 18), (1978, .iconst 1, 1, 0), (1979, .ireturn, 1, 0)]
def cd_340 : List (List (Nat × Instr × Nat × Nat)) := [cd_340_0, cd_340_1, cd_340_2, cd_340_3, cd_340_4, cd_340_5, cd_340_6, cd_340_7, cd_340_8, cd_340_9, cd_340_10, cd_340_11, cd_340_12, cd_340_13, cd_340_14, cd_340_15, cd_340_16, cd_340_17, cd_340_18, cd_340_19, cd_340_20, cd_340_21, cd_340_22, cd_340_23, cd_340_24, cd_340_25, cd_340_26, cd_340_27, cd_340_28, cd_340_29, cd_340_30, cd_340_31, cd_340_32, cd_340_33, cd_340_34, cd_340_35, cd_340_36, cd_340_37, cd_340_38, cd_340_39, cd_340_40, cd_340_41, cd_340_42, cd_340_43, cd_340_44, cd_340_45, cd_340_46, cd_340_47, cd_340_48, cd_340_49, cd_340_50, cd_340_51, cd_340_52, cd_340_53, cd_340_54, cd_340_55, cd_340_56, cd_340_57, cd_340_58, cd_340_59, cd_340_60, cd_340_61, cd_340_62, cd_340_63, cd_340_64, cd_340_65, cd_340_66, cd_340_67, cd_340_68, cd_340_69, cd_340_70, cd_340_71, cd_340_72, cd_340_73, cd_340_74, cd_340_75, cd_340_76, cd_340_77, cd_340_78, cd_340_79, cd_340_80, cd_340_81, cd_340_82, cd_340_83, cd_340_84, cd_340_85, cd_340_86, cd_340_87, cd_340_88, cd_340_89, cd_340_90, cd_340_91, cd_340_92, cd_340_93, cd_340_94, cd_340_95, cd_340_96, cd_340_97, cd_340_98, cd_340_99, cd_340_100, cd_340_101, cd_340_102, cd_340_103, cd_340_104, cd_340_105, cd_340_106, cd_340_107, cd_340_108, cd_340_109, cd_340_110, cd_340_111, cd_340_112, cd_340_113, cd_340_114, cd_340_115, cd_340_116, cd_340_117, cd_340_118, cd_340_119, cd_340_120, cd_340_121, cd_340_122, cd_340_123]
/-- L_law -/
def rw_340 : am_Row := (340, (11, 4, some (.boolean), 1, 0, 0, 0), ⟨"IslandCallLaw", "law", "([I)Z"⟩, code, cd_340)
def rc_0 : List am_Row := [rw_4, rw_5, rw_6, rw_7, rw_8, rw_9, rw_10, rw_11, rw_12, rw_13, rw_14, rw_15]
def rc_1 : List am_Row := [rw_16, rw_17, rw_18, rw_19, rw_20, rw_21, rw_22, rw_23, rw_24, rw_25, rw_26, rw_27, rw_28, rw_29, rw_30, rw_31]
def rc_2 : List am_Row := [rw_32, rw_33, rw_34, rw_35, rw_36, rw_37, rw_38, rw_39, rw_40, rw_41, rw_42, rw_43, rw_44, rw_45, rw_46, rw_47]
def rc_3 : List am_Row := [rw_48, rw_49, rw_50, rw_51, rw_52, rw_53, rw_54, rw_55, rw_56, rw_57, rw_58, rw_59, rw_60, rw_61, rw_62, rw_63]
def rc_4 : List am_Row := [rw_64, rw_65, rw_66, rw_67, rw_68, rw_69, rw_70, rw_71, rw_72, rw_73, rw_74, rw_75, rw_76, rw_77, rw_78, rw_79]
def rc_5 : List am_Row := [rw_80, rw_81, rw_82, rw_83, rw_84, rw_85, rw_86, rw_87, rw_88, rw_89, rw_90, rw_91, rw_92, rw_93, rw_94, rw_95]
def rc_6 : List am_Row := [rw_96, rw_97, rw_98, rw_99, rw_100, rw_101, rw_102, rw_103, rw_104, rw_105, rw_106, rw_107, rw_108, rw_109, rw_110, rw_111]
def rc_7 : List am_Row := [rw_112, rw_113, rw_114, rw_115, rw_116, rw_117, rw_118, rw_119, rw_120, rw_121, rw_122, rw_123, rw_124, rw_125, rw_126, rw_127]
def rc_8 : List am_Row := [rw_128, rw_129, rw_130, rw_131, rw_132, rw_133, rw_134, rw_135, rw_136, rw_137, rw_138, rw_139, rw_140, rw_141, rw_142, rw_143]
def rc_9 : List am_Row := [rw_144, rw_145, rw_146, rw_147, rw_148, rw_149, rw_150, rw_151, rw_152, rw_153, rw_154, rw_155, rw_156, rw_157, rw_158, rw_159]
def rc_10 : List am_Row := [rw_160, rw_161, rw_162, rw_163, rw_164, rw_165, rw_166, rw_167, rw_168, rw_169, rw_170, rw_171, rw_172, rw_173, rw_174, rw_175]
def rc_11 : List am_Row := [rw_176, rw_177, rw_178, rw_179, rw_180, rw_181, rw_182, rw_183, rw_184, rw_185, rw_186, rw_187, rw_188, rw_189, rw_190, rw_191]
def rc_12 : List am_Row := [rw_192, rw_193, rw_194, rw_195, rw_196, rw_197, rw_198, rw_199, rw_200, rw_201, rw_202, rw_203, rw_204, rw_205, rw_206, rw_207]
def rc_13 : List am_Row := [rw_208, rw_209, rw_210, rw_211, rw_212, rw_213, rw_214, rw_215, rw_216, rw_217, rw_218, rw_219, rw_220, rw_221, rw_222, rw_223]
def rc_14 : List am_Row := [rw_224, rw_225, rw_226, rw_227, rw_228, rw_229, rw_230, rw_231, rw_232, rw_233, rw_234, rw_235, rw_236, rw_237, rw_238, rw_239]
def rc_15 : List am_Row := [rw_240, rw_241, rw_242, rw_243, rw_244, rw_245, rw_246, rw_247, rw_248, rw_249, rw_250, rw_251, rw_252, rw_253, rw_254, rw_255]
def rc_16 : List am_Row := [rw_256, rw_257, rw_258, rw_259, rw_260, rw_261, rw_262, rw_263, rw_264, rw_265, rw_266, rw_267, rw_268, rw_269, rw_270, rw_271]
def rc_17 : List am_Row := [rw_272, rw_273, rw_274, rw_275, rw_276, rw_277, rw_278, rw_279, rw_280, rw_281, rw_282, rw_283, rw_284, rw_285, rw_286, rw_287]
def rc_18 : List am_Row := [rw_288, rw_289, rw_290, rw_291, rw_292, rw_293, rw_294, rw_295, rw_296, rw_297, rw_298, rw_299, rw_300, rw_301, rw_302, rw_303]
def rc_19 : List am_Row := [rw_304, rw_305, rw_306, rw_307, rw_308, rw_309, rw_310, rw_311, rw_312, rw_313, rw_314, rw_315, rw_316, rw_317, rw_318, rw_319]
def rc_20 : List am_Row := [rw_320, rw_321, rw_322, rw_323, rw_324, rw_325, rw_326, rw_327, rw_328, rw_329, rw_330, rw_331, rw_332, rw_333, rw_334, rw_335]
def rc_21 : List am_Row := [rw_336, rw_337, rw_338, rw_339, rw_340]
def rcs : List (List am_Row) := [rc_0, rc_1, rc_2, rc_3, rc_4, rc_5, rc_6, rc_7, rc_8, rc_9, rc_10, rc_11, rc_12, rc_13, rc_14, rc_15, rc_16, rc_17, rc_18, rc_19, rc_20, rc_21]
def am_row (y : Nat) : Option am_Row := match rcs[y / 16]? with
  | some l => am_rfind l y
  | none => none
def am_fetch (l : List (List (Nat × Instr × Nat × Nat))) (pc : Nat) : Option (Instr × Nat × Nat) := match l[pc / 16]? with
  | some c => am_look c pc
  | none => none
def tb_code (y pc : Nat) : Option (Instr × Nat × Nat) := match am_row y with
  | some r => am_fetch r.2.2.2.2 pc
  | none => none
def tb_inf (y : Nat) : am_I := match am_row y with
  | some r => r.2.1
  | none => (0, 0, none, 0, 3, 0, 0)
def tb_by (y : Nat) : ByteArray := match am_row y with
  | some r => r.2.2.2.1
  | none => ⟨#[]⟩
def tb_na (y : Nat) : MethodName := match am_row y with
  | some r => r.2.2.1
  | none => ⟨"", "", ""⟩
abbrev PP : am_P := (tb_code, fun own k => am_look (tb_fs.getD own []) k, fun own k => am_look (tb_ms.getD own []) k, fun own k => am_look (tb_ks.getD own []) k, fun own k => am_look (tb_cs.getD own []) k, tb_inf, fun ci j => (tb_ts.getD ci []).getD j .int, fun ci j => (tb_u ci j).2.2.2, fun ci => (tb_Fs.getD ci []).length, fun ci => tb_nm.getD ci "")
def tb_len : List Nat := [119, 121]
def tb_byt : List (List Int32) := [[112, 108, 97, 110, 107, 32, 104, 97, 98, 105, 116, 32, 111, 100, 100, 115, 32, 115, 105, 103, 110, 32, 112, 117, 108, 108, 115, 32, 115, 104, 111, 119, 110, 32, 112, 101, 114, 115, 111, 110, 32, 104, 111, 108, 100, 115, 32, 111, 117, 116, 32, 97, 103, 97, 105, 110, 115, 116, 32, 98, 108, 105, 110, 100, 32, 99, 97, 108, 108, 32, 115, 104, 111, 119, 32, 104, 105, 100, 101, 32, 98, 111, 97, 114, 100, 32, 115, 119, 97, 121, 32, 97, 110, 121, 32, 119, 104, 101, 110, 32, 115, 104, 111, 119, 115, 32, 108, 111, 111, 112, 32, 101, 110, 100, 32, 115, 116, 111, 112], [32, 112, 108, 97, 110, 107, 32, 104, 97, 98, 105, 116, 32, 111, 100, 100, 115, 32, 115, 105, 103, 110, 32, 112, 101, 114, 115, 111, 110, 32, 98, 108, 105, 110, 100, 32, 112, 117, 108, 108, 115, 32, 115, 104, 111, 119, 110, 32, 104, 111, 108, 100, 115, 32, 111, 117, 116, 32, 97, 103, 97, 105, 110, 115, 116, 32, 99, 97, 108, 108, 32, 115, 104, 111, 119, 32, 104, 105, 100, 101, 32, 98, 111, 97, 114, 100, 32, 115, 119, 97, 121, 32, 97, 110, 121, 32, 119, 104, 101, 110, 32, 108, 111, 111, 112, 32, 101, 110, 100, 32, 115, 116, 111, 112, 32, 115, 104, 111, 119, 115, 32]]
def tb_nest : List (String × Nat × MethodName × String) := [("IslandCall", 15, ⟨"IslandCall$Trays", "<init>", "()V"⟩, "IslandCall"), ("IslandCall", 22, ⟨"IslandCall$Fraction", "<init>", "()V"⟩, "IslandCall"), ("IslandCall", 36, ⟨"IslandCall$Years", "<init>", "()V"⟩, "IslandCall"), ("IslandCall", 84, ⟨"IslandCall$Life", "<init>", "()V"⟩, "IslandCall")]
def lw_good : List Cond := lw_tbl.filter goodWord
abbrev TT : am_T := (PP, tb_cl, lw_good, tb_by, tb_na, tb_len, tb_byt, tb_nest, ["IslandCall$Boat", "IslandCall$Years"])
end
section
/-! The tables are right: printed by wip/gen/tables.py. -/
theorem lw_in {w : Cond} (i : Nat) (h : lw_tbl[i]? = some w) (g : goodWord w = true) : w ∈ lw_good := List.mem_filter.mpr ⟨List.mem_of_getElem? h, g⟩
def am_tgb (e : Nat × Instr × Nat × Nat) : Bool := match e.2.1 with
  | .goto off => decide ((e.1 : Int) + off = (e.2.2.2 : Int))
  | .ifCond _ off => decide ((e.1 : Int) + off = (e.2.2.2 : Int))
  | .if_icmp _ off => decide ((e.1 : Int) + off = (e.2.2.2 : Int))
  | _ => true
def am_ck (r : am_Row) : Bool := r.2.2.2.2.all fun ch => ch.all fun e => decide (decode r.2.2.2.1 e.1 = .ok (e.2.1, (am_ln e.2.1).getD e.2.2.1)) && am_tgb e
def am_ckc (b : ByteArray) (ch : List (Nat × Instr × Nat × Nat)) : Bool := ch.all fun e => decide (decode b e.1 = .ok (e.2.1, (am_ln e.2.1).getD e.2.2.1)) && am_tgb e
theorem ck_4 : am_ck rw_4 = true := by decide +kernel
theorem ck_5 : am_ck rw_5 = true := by decide +kernel
theorem ck_6 : am_ck rw_6 = true := by decide +kernel
theorem ck_7 : am_ck rw_7 = true := by decide +kernel
theorem ck_8 : am_ck rw_8 = true := by decide +kernel
theorem ck_9 : am_ck rw_9 = true := by decide +kernel
theorem ck_10 : am_ck rw_10 = true := by decide +kernel
theorem ck_11 : am_ck rw_11 = true := by decide +kernel
theorem ck_12 : am_ck rw_12 = true := by decide +kernel
theorem ck_13 : am_ck rw_13 = true := by decide +kernel
theorem ck_14 : am_ck rw_14 = true := by decide +kernel
theorem ck_15 : am_ck rw_15 = true := by decide +kernel
theorem ck_16 : am_ck rw_16 = true := by decide +kernel
theorem ck_17 : am_ck rw_17 = true := by decide +kernel
theorem ck_18 : am_ck rw_18 = true := by decide +kernel
theorem ck_19 : am_ck rw_19 = true := by decide +kernel
theorem ck_20 : am_ck rw_20 = true := by decide +kernel
theorem ck_21 : am_ck rw_21 = true := by decide +kernel
theorem ck_22 : am_ck rw_22 = true := by decide +kernel
theorem ck_23 : am_ck rw_23 = true := by decide +kernel
theorem ck_24 : am_ck rw_24 = true := by decide +kernel
theorem ck_25 : am_ck rw_25 = true := by decide +kernel
theorem ck_26 : am_ck rw_26 = true := by decide +kernel
theorem ck_27 : am_ck rw_27 = true := by decide +kernel
theorem ck_28 : am_ck rw_28 = true := by decide +kernel
theorem ck_29 : am_ck rw_29 = true := by decide +kernel
theorem ck_30 : am_ck rw_30 = true := by decide +kernel
theorem ck_31 : am_ck rw_31 = true := by decide +kernel
theorem ck_32 : am_ck rw_32 = true := by decide +kernel
theorem ck_33 : am_ck rw_33 = true := by decide +kernel
theorem ck_34 : am_ck rw_34 = true := by decide +kernel
theorem ck_35 : am_ck rw_35 = true := by decide +kernel
theorem ck_36 : am_ck rw_36 = true := by decide +kernel
theorem ck_37 : am_ck rw_37 = true := by decide +kernel
theorem ck_38 : am_ck rw_38 = true := by decide +kernel
theorem ck_39 : am_ck rw_39 = true := by decide +kernel
theorem ck_40 : am_ck rw_40 = true := by decide +kernel
theorem ck_41 : am_ck rw_41 = true := by decide +kernel
theorem ck_42 : am_ck rw_42 = true := by decide +kernel
theorem ck_43 : am_ck rw_43 = true := by decide +kernel
theorem ck_44 : am_ck rw_44 = true := by decide +kernel
theorem ck_45 : am_ck rw_45 = true := by decide +kernel
theorem ck_46 : am_ck rw_46 = true := by decide +kernel
theorem ck_47 : am_ck rw_47 = true := by decide +kernel
theorem ck_48 : am_ck rw_48 = true := by decide +kernel
theorem ck_49 : am_ck rw_49 = true := by decide +kernel
theorem ck_50 : am_ck rw_50 = true := by decide +kernel
theorem ck_51 : am_ck rw_51 = true := by decide +kernel
theorem ck_52 : am_ck rw_52 = true := by decide +kernel
theorem ck_53 : am_ck rw_53 = true := by decide +kernel
theorem ck_54 : am_ck rw_54 = true := by decide +kernel
theorem ck_55 : am_ck rw_55 = true := by decide +kernel
theorem ck_56 : am_ck rw_56 = true := by decide +kernel
theorem ck_57 : am_ck rw_57 = true := by decide +kernel
theorem ck_58 : am_ck rw_58 = true := by decide +kernel
theorem ck_59 : am_ck rw_59 = true := by decide +kernel
theorem ck_60 : am_ck rw_60 = true := by decide +kernel
theorem ck_61 : am_ck rw_61 = true := by decide +kernel
theorem ck_62 : am_ck rw_62 = true := by decide +kernel
theorem ck_63 : am_ck rw_63 = true := by decide +kernel
theorem ck_64 : am_ck rw_64 = true := by decide +kernel
theorem ck_65 : am_ck rw_65 = true := by decide +kernel
theorem ck_66 : am_ck rw_66 = true := by decide +kernel
theorem ck_67 : am_ck rw_67 = true := by decide +kernel
theorem ck_68 : am_ck rw_68 = true := by decide +kernel
theorem ck_69 : am_ck rw_69 = true := by decide +kernel
theorem ck_70 : am_ck rw_70 = true := by decide +kernel
theorem ck_71 : am_ck rw_71 = true := by decide +kernel
theorem ck_72 : am_ck rw_72 = true := by decide +kernel
theorem ck_73 : am_ck rw_73 = true := by decide +kernel
theorem ck_74 : am_ck rw_74 = true := by decide +kernel
theorem ck_75 : am_ck rw_75 = true := by decide +kernel
theorem ck_76 : am_ck rw_76 = true := by decide +kernel
theorem ck_77 : am_ck rw_77 = true := by decide +kernel
theorem ck_78 : am_ck rw_78 = true := by decide +kernel
theorem ck_79 : am_ck rw_79 = true := by decide +kernel
theorem ck_80 : am_ck rw_80 = true := by decide +kernel
theorem ck_81 : am_ck rw_81 = true := by decide +kernel
theorem ck_82 : am_ck rw_82 = true := by decide +kernel
theorem ck_83 : am_ck rw_83 = true := by decide +kernel
theorem ck_84 : am_ck rw_84 = true := by decide +kernel
theorem ck_85 : am_ck rw_85 = true := by decide +kernel
theorem ck_86 : am_ck rw_86 = true := by decide +kernel
theorem ck_87 : am_ck rw_87 = true := by decide +kernel
theorem ck_88 : am_ck rw_88 = true := by decide +kernel
theorem ck_89 : am_ck rw_89 = true := by decide +kernel
theorem ck_90 : am_ck rw_90 = true := by decide +kernel
theorem ck_91 : am_ck rw_91 = true := by decide +kernel
theorem ck_92 : am_ck rw_92 = true := by decide +kernel
theorem ck_93 : am_ck rw_93 = true := by decide +kernel
theorem ck_94 : am_ck rw_94 = true := by decide +kernel
theorem ck_95 : am_ck rw_95 = true := by decide +kernel
theorem ck_96 : am_ck rw_96 = true := by decide +kernel
theorem ck_97 : am_ck rw_97 = true := by decide +kernel
theorem ck_98 : am_ck rw_98 = true := by decide +kernel
theorem ck_99 : am_ck rw_99 = true := by decide +kernel
theorem ck_100 : am_ck rw_100 = true := by decide +kernel
theorem ck_101 : am_ck rw_101 = true := by decide +kernel
theorem ck_102 : am_ck rw_102 = true := by decide +kernel
theorem ck_103 : am_ck rw_103 = true := by decide +kernel
theorem ck_104 : am_ck rw_104 = true := by decide +kernel
theorem ck_105 : am_ck rw_105 = true := by decide +kernel
theorem ck_106 : am_ck rw_106 = true := by decide +kernel
theorem ck_107 : am_ck rw_107 = true := by decide +kernel
theorem ck_108 : am_ck rw_108 = true := by decide +kernel
theorem ck_109 : am_ck rw_109 = true := by decide +kernel
theorem ck_110 : am_ck rw_110 = true := by decide +kernel
theorem ck_111 : am_ck rw_111 = true := by decide +kernel
theorem ck_112 : am_ck rw_112 = true := by decide +kernel
theorem ck_113 : am_ck rw_113 = true := by decide +kernel
theorem ck_114 : am_ck rw_114 = true := by decide +kernel
theorem ck_115 : am_ck rw_115 = true := by decide +kernel
theorem ck_116 : am_ck rw_116 = true := by decide +kernel
theorem ck_117 : am_ck rw_117 = true := by decide +kernel
theorem ck_118 : am_ck rw_118 = true := by decide +kernel
theorem ck_119 : am_ck rw_119 = true := by decide +kernel
theorem ck_120 : am_ck rw_120 = true := by decide +kernel
theorem ck_121 : am_ck rw_121 = true := by decide +kernel
theorem ck_122 : am_ck rw_122 = true := by decide +kernel
theorem ck_123 : am_ck rw_123 = true := by decide +kernel
theorem ck_124 : am_ck rw_124 = true := by decide +kernel
theorem ck_125 : am_ck rw_125 = true := by decide +kernel
theorem ck_126 : am_ck rw_126 = true := by decide +kernel
theorem ck_127 : am_ck rw_127 = true := by decide +kernel
theorem ck_128 : am_ck rw_128 = true := by decide +kernel
theorem ck_129 : am_ck rw_129 = true := by decide +kernel
theorem ck_130 : am_ck rw_130 = true := by decide +kernel
theorem ck_131 : am_ck rw_131 = true := by decide +kernel
theorem ck_132 : am_ck rw_132 = true := by decide +kernel
theorem ck_133 : am_ck rw_133 = true := by decide +kernel
theorem ck_134 : am_ck rw_134 = true := by decide +kernel
theorem ck_135 : am_ck rw_135 = true := by decide +kernel
theorem ck_136 : am_ck rw_136 = true := by decide +kernel
theorem ck_137 : am_ck rw_137 = true := by decide +kernel
theorem ck_138 : am_ck rw_138 = true := by decide +kernel
theorem ck_139 : am_ck rw_139 = true := by decide +kernel
theorem ck_140 : am_ck rw_140 = true := by decide +kernel
theorem ck_141 : am_ck rw_141 = true := by decide +kernel
theorem ck_142 : am_ck rw_142 = true := by decide +kernel
theorem ck_143 : am_ck rw_143 = true := by decide +kernel
theorem ck_144 : am_ck rw_144 = true := by decide +kernel
theorem ck_145 : am_ck rw_145 = true := by decide +kernel
theorem ck_146 : am_ck rw_146 = true := by decide +kernel
theorem ck_147 : am_ck rw_147 = true := by decide +kernel
theorem ck_148 : am_ck rw_148 = true := by decide +kernel
theorem ck_149 : am_ck rw_149 = true := by decide +kernel
theorem ck_150 : am_ck rw_150 = true := by decide +kernel
theorem ck_151 : am_ck rw_151 = true := by decide +kernel
theorem ck_152 : am_ck rw_152 = true := by decide +kernel
theorem ck_153 : am_ck rw_153 = true := by decide +kernel
theorem ck_154 : am_ck rw_154 = true := by decide +kernel
theorem ck_155 : am_ck rw_155 = true := by decide +kernel
theorem ck_156 : am_ck rw_156 = true := by decide +kernel
theorem ck_157 : am_ck rw_157 = true := by decide +kernel
theorem ck_158 : am_ck rw_158 = true := by decide +kernel
theorem ck_159 : am_ck rw_159 = true := by decide +kernel
theorem ck_160 : am_ck rw_160 = true := by decide +kernel
theorem ck_161 : am_ck rw_161 = true := by decide +kernel
theorem ck_162 : am_ck rw_162 = true := by decide +kernel
theorem ck_163 : am_ck rw_163 = true := by decide +kernel
theorem ck_164 : am_ck rw_164 = true := by decide +kernel
theorem ck_165 : am_ck rw_165 = true := by decide +kernel
theorem ck_166 : am_ck rw_166 = true := by decide +kernel
theorem ck_167 : am_ck rw_167 = true := by decide +kernel
theorem ck_168 : am_ck rw_168 = true := by decide +kernel
theorem ck_169 : am_ck rw_169 = true := by decide +kernel
theorem ck_170 : am_ck rw_170 = true := by decide +kernel
theorem ck_171 : am_ck rw_171 = true := by decide +kernel
theorem ck_172 : am_ck rw_172 = true := by decide +kernel
theorem ck_173 : am_ck rw_173 = true := by decide +kernel
theorem ck_174 : am_ck rw_174 = true := by decide +kernel
theorem ck_175 : am_ck rw_175 = true := by decide +kernel
theorem ck_176 : am_ck rw_176 = true := by decide +kernel
theorem ck_177 : am_ck rw_177 = true := by decide +kernel
theorem ck_178 : am_ck rw_178 = true := by decide +kernel
theorem ck_179 : am_ck rw_179 = true := by decide +kernel
theorem ck_180 : am_ck rw_180 = true := by decide +kernel
theorem ck_181 : am_ck rw_181 = true := by decide +kernel
theorem ck_182 : am_ck rw_182 = true := by decide +kernel
theorem ck_183 : am_ck rw_183 = true := by decide +kernel
theorem ck_184 : am_ck rw_184 = true := by decide +kernel
theorem ck_185 : am_ck rw_185 = true := by decide +kernel
theorem ck_186 : am_ck rw_186 = true := by decide +kernel
theorem ck_187 : am_ck rw_187 = true := by decide +kernel
theorem ck_188 : am_ck rw_188 = true := by decide +kernel
theorem ck_189 : am_ck rw_189 = true := by decide +kernel
theorem ck_190 : am_ck rw_190 = true := by decide +kernel
theorem ck_191 : am_ck rw_191 = true := by decide +kernel
theorem ck_192 : am_ck rw_192 = true := by decide +kernel
theorem ck_193 : am_ck rw_193 = true := by decide +kernel
theorem ck_194 : am_ck rw_194 = true := by decide +kernel
theorem ck_195 : am_ck rw_195 = true := by decide +kernel
theorem ck_196 : am_ck rw_196 = true := by decide +kernel
theorem ck_197 : am_ck rw_197 = true := by decide +kernel
theorem ck_198 : am_ck rw_198 = true := by decide +kernel
theorem ck_199 : am_ck rw_199 = true := by decide +kernel
theorem ck_200 : am_ck rw_200 = true := by decide +kernel
theorem ck_201 : am_ck rw_201 = true := by decide +kernel
theorem ck_202 : am_ck rw_202 = true := by decide +kernel
theorem ck_203 : am_ck rw_203 = true := by decide +kernel
theorem ck_204 : am_ck rw_204 = true := by decide +kernel
theorem ck_205 : am_ck rw_205 = true := by decide +kernel
theorem ck_206 : am_ck rw_206 = true := by decide +kernel
theorem ck_207 : am_ck rw_207 = true := by decide +kernel
theorem ck_208 : am_ck rw_208 = true := by decide +kernel
theorem ck_209 : am_ck rw_209 = true := by decide +kernel
theorem ck_210 : am_ck rw_210 = true := by decide +kernel
theorem ck_211 : am_ck rw_211 = true := by decide +kernel
theorem ck_212 : am_ck rw_212 = true := by decide +kernel
theorem ck_213 : am_ck rw_213 = true := by decide +kernel
theorem ck_214 : am_ck rw_214 = true := by decide +kernel
theorem ck_215 : am_ck rw_215 = true := by decide +kernel
theorem ck_216 : am_ck rw_216 = true := by decide +kernel
theorem ck_217 : am_ck rw_217 = true := by decide +kernel
theorem ck_218 : am_ck rw_218 = true := by decide +kernel
theorem ck_219 : am_ck rw_219 = true := by decide +kernel
theorem ck_220 : am_ck rw_220 = true := by decide +kernel
theorem ck_221 : am_ck rw_221 = true := by decide +kernel
theorem ck_222 : am_ck rw_222 = true := by decide +kernel
theorem ck_223 : am_ck rw_223 = true := by decide +kernel
theorem ck_224 : am_ck rw_224 = true := by decide +kernel
theorem ck_225 : am_ck rw_225 = true := by decide +kernel
theorem ck_226 : am_ck rw_226 = true := by decide +kernel
theorem ck_227 : am_ck rw_227 = true := by decide +kernel
theorem ck_228 : am_ck rw_228 = true := by decide +kernel
theorem ck_229 : am_ck rw_229 = true := by decide +kernel
theorem ck_230 : am_ck rw_230 = true := by decide +kernel
theorem ck_231 : am_ck rw_231 = true := by decide +kernel
theorem ck_232 : am_ck rw_232 = true := by decide +kernel
theorem ck_233 : am_ck rw_233 = true := by decide +kernel
theorem ck_234 : am_ck rw_234 = true := by decide +kernel
theorem ck_235 : am_ck rw_235 = true := by decide +kernel
theorem ck_236 : am_ck rw_236 = true := by decide +kernel
theorem ck_237 : am_ck rw_237 = true := by decide +kernel
theorem ck_238 : am_ck rw_238 = true := by decide +kernel
theorem ck_239 : am_ck rw_239 = true := by decide +kernel
theorem ck_240 : am_ck rw_240 = true := by decide +kernel
theorem ck_241 : am_ck rw_241 = true := by decide +kernel
theorem ck_242 : am_ck rw_242 = true := by decide +kernel
theorem ck_243 : am_ck rw_243 = true := by decide +kernel
theorem ck_244 : am_ck rw_244 = true := by decide +kernel
theorem ck_245 : am_ck rw_245 = true := by decide +kernel
theorem ck_246 : am_ck rw_246 = true := by decide +kernel
theorem ck_247 : am_ck rw_247 = true := by decide +kernel
theorem ck_248 : am_ck rw_248 = true := by decide +kernel
theorem ck_249 : am_ck rw_249 = true := by decide +kernel
theorem ck_250 : am_ck rw_250 = true := by decide +kernel
theorem ck_251 : am_ck rw_251 = true := by decide +kernel
theorem ck_252 : am_ck rw_252 = true := by decide +kernel
theorem ck_253 : am_ck rw_253 = true := by decide +kernel
theorem ck_254 : am_ck rw_254 = true := by decide +kernel
theorem ck_255 : am_ck rw_255 = true := by decide +kernel
theorem ck_256 : am_ck rw_256 = true := by decide +kernel
theorem ck_257 : am_ck rw_257 = true := by decide +kernel
theorem ck_258 : am_ck rw_258 = true := by decide +kernel
theorem ck_259 : am_ck rw_259 = true := by decide +kernel
theorem ck_260 : am_ck rw_260 = true := by decide +kernel
theorem ck_261 : am_ck rw_261 = true := by decide +kernel
theorem ck_262 : am_ck rw_262 = true := by decide +kernel
theorem ck_263 : am_ck rw_263 = true := by decide +kernel
theorem ck_264 : am_ck rw_264 = true := by decide +kernel
theorem ck_265 : am_ck rw_265 = true := by decide +kernel
theorem ck_266 : am_ck rw_266 = true := by decide +kernel
theorem ck_267 : am_ck rw_267 = true := by decide +kernel
theorem ck_268 : am_ck rw_268 = true := by decide +kernel
theorem ck_269 : am_ck rw_269 = true := by decide +kernel
theorem ck_270 : am_ck rw_270 = true := by decide +kernel
theorem ck_271 : am_ck rw_271 = true := by decide +kernel
theorem ck_272 : am_ck rw_272 = true := by decide +kernel
theorem ck_273 : am_ck rw_273 = true := by decide +kernel
theorem ck_274 : am_ck rw_274 = true := by decide +kernel
theorem ck_275 : am_ck rw_275 = true := by decide +kernel
theorem ck_276 : am_ck rw_276 = true := by decide +kernel
theorem ck_277 : am_ck rw_277 = true := by decide +kernel
theorem ck_278 : am_ck rw_278 = true := by decide +kernel
theorem ck_279 : am_ck rw_279 = true := by decide +kernel
theorem ck_280 : am_ck rw_280 = true := by decide +kernel
theorem ck_281 : am_ck rw_281 = true := by decide +kernel
theorem ck_282 : am_ck rw_282 = true := by decide +kernel
theorem ck_283 : am_ck rw_283 = true := by decide +kernel
theorem ck_284 : am_ck rw_284 = true := by decide +kernel
theorem ck_285 : am_ck rw_285 = true := by decide +kernel
theorem ck_286 : am_ck rw_286 = true := by decide +kernel
theorem ck_287 : am_ck rw_287 = true := by decide +kernel
theorem ck_288 : am_ck rw_288 = true := by decide +kernel
theorem ck_289 : am_ck rw_289 = true := by decide +kernel
theorem ck_290 : am_ck rw_290 = true := by decide +kernel
theorem ck_291 : am_ck rw_291 = true := by decide +kernel
theorem ck_292 : am_ck rw_292 = true := by decide +kernel
theorem ck_293 : am_ck rw_293 = true := by decide +kernel
theorem ck_294 : am_ck rw_294 = true := by decide +kernel
theorem ck_295 : am_ck rw_295 = true := by decide +kernel
theorem ck_296 : am_ck rw_296 = true := by decide +kernel
theorem ck_297 : am_ck rw_297 = true := by decide +kernel
theorem ck_298 : am_ck rw_298 = true := by decide +kernel
theorem ck_299 : am_ck rw_299 = true := by decide +kernel
theorem ck_300 : am_ck rw_300 = true := by decide +kernel
theorem ck_301 : am_ck rw_301 = true := by decide +kernel
theorem ck_302 : am_ck rw_302 = true := by decide +kernel
theorem ck_303 : am_ck rw_303 = true := by decide +kernel
theorem ck_304 : am_ck rw_304 = true := by decide +kernel
theorem ck_305 : am_ck rw_305 = true := by decide +kernel
theorem ck_306 : am_ck rw_306 = true := by decide +kernel
theorem ck_307 : am_ck rw_307 = true := by decide +kernel
theorem ck_308 : am_ck rw_308 = true := by decide +kernel
theorem ck_309 : am_ck rw_309 = true := by decide +kernel
theorem ck_310 : am_ck rw_310 = true := by decide +kernel
theorem ck_311 : am_ck rw_311 = true := by decide +kernel
theorem ck_312 : am_ck rw_312 = true := by decide +kernel
theorem ck_313 : am_ck rw_313 = true := by decide +kernel
theorem ck_314 : am_ck rw_314 = true := by decide +kernel
theorem ck_315 : am_ck rw_315 = true := by decide +kernel
theorem ck_316 : am_ck rw_316 = true := by decide +kernel
theorem ck_317 : am_ck rw_317 = true := by decide +kernel
theorem ck_318 : am_ck rw_318 = true := by decide +kernel
theorem ck_319 : am_ck rw_319 = true := by decide +kernel
theorem ck_320 : am_ck rw_320 = true := by decide +kernel
theorem ck_321 : am_ck rw_321 = true := by decide +kernel
theorem ck_322 : am_ck rw_322 = true := by decide +kernel
theorem ck_323 : am_ck rw_323 = true := by decide +kernel
theorem ck_324 : am_ck rw_324 = true := by decide +kernel
theorem ck_325 : am_ck rw_325 = true := by decide +kernel
theorem ck_326 : am_ck rw_326 = true := by decide +kernel
theorem ck_327 : am_ck rw_327 = true := by decide +kernel
theorem ck_328 : am_ck rw_328 = true := by decide +kernel
theorem ck_329 : am_ck rw_329 = true := by decide +kernel
theorem ck_330 : am_ck rw_330 = true := by decide +kernel
theorem ck_331 : am_ck rw_331 = true := by decide +kernel
theorem ck_332 : am_ck rw_332 = true := by decide +kernel
theorem ck_333 : am_ck rw_333 = true := by decide +kernel
theorem ck_334 : am_ck rw_334 = true := by decide +kernel
theorem ck_335 : am_ck rw_335 = true := by decide +kernel
theorem ck_336 : am_ck rw_336 = true := by decide +kernel
theorem ck_337 : am_ck rw_337 = true := by decide +kernel
theorem ck_338 : am_ck rw_338 = true := by decide +kernel
theorem ck_339 : am_ck rw_339 = true := by decide +kernel
end
section
theorem ck_340_0 : am_ckc code cd_340_0 = true := by decide +kernel
theorem ck_340_1 : am_ckc code cd_340_1 = true := by decide +kernel
theorem ck_340_2 : am_ckc code cd_340_2 = true := by decide +kernel
theorem ck_340_3 : am_ckc code cd_340_3 = true := by decide +kernel
theorem ck_340_4 : am_ckc code cd_340_4 = true := by decide +kernel
theorem ck_340_5 : am_ckc code cd_340_5 = true := by decide +kernel
theorem ck_340_6 : am_ckc code cd_340_6 = true := by decide +kernel
theorem ck_340_7 : am_ckc code cd_340_7 = true := by decide +kernel
theorem ck_340_8 : am_ckc code cd_340_8 = true := by decide +kernel
theorem ck_340_9 : am_ckc code cd_340_9 = true := by decide +kernel
theorem ck_340_10 : am_ckc code cd_340_10 = true := by decide +kernel
theorem ck_340_11 : am_ckc code cd_340_11 = true := by decide +kernel
theorem ck_340_12 : am_ckc code cd_340_12 = true := by decide +kernel
theorem ck_340_13 : am_ckc code cd_340_13 = true := by decide +kernel
theorem ck_340_14 : am_ckc code cd_340_14 = true := by decide +kernel
theorem ck_340_15 : am_ckc code cd_340_15 = true := by decide +kernel
theorem ck_340_16 : am_ckc code cd_340_16 = true := by decide +kernel
theorem ck_340_17 : am_ckc code cd_340_17 = true := by decide +kernel
theorem ck_340_18 : am_ckc code cd_340_18 = true := by decide +kernel
theorem ck_340_19 : am_ckc code cd_340_19 = true := by decide +kernel
theorem ck_340_20 : am_ckc code cd_340_20 = true := by decide +kernel
theorem ck_340_21 : am_ckc code cd_340_21 = true := by decide +kernel
theorem ck_340_22 : am_ckc code cd_340_22 = true := by decide +kernel
theorem ck_340_23 : am_ckc code cd_340_23 = true := by decide +kernel
theorem ck_340_24 : am_ckc code cd_340_24 = true := by decide +kernel
theorem ck_340_25 : am_ckc code cd_340_25 = true := by decide +kernel
theorem ck_340_26 : am_ckc code cd_340_26 = true := by decide +kernel
theorem ck_340_27 : am_ckc code cd_340_27 = true := by decide +kernel
theorem ck_340_28 : am_ckc code cd_340_28 = true := by decide +kernel
theorem ck_340_29 : am_ckc code cd_340_29 = true := by decide +kernel
theorem ck_340_30 : am_ckc code cd_340_30 = true := by decide +kernel
theorem ck_340_31 : am_ckc code cd_340_31 = true := by decide +kernel
theorem ck_340_32 : am_ckc code cd_340_32 = true := by decide +kernel
theorem ck_340_33 : am_ckc code cd_340_33 = true := by decide +kernel
theorem ck_340_34 : am_ckc code cd_340_34 = true := by decide +kernel
theorem ck_340_35 : am_ckc code cd_340_35 = true := by decide +kernel
theorem ck_340_36 : am_ckc code cd_340_36 = true := by decide +kernel
theorem ck_340_37 : am_ckc code cd_340_37 = true := by decide +kernel
theorem ck_340_38 : am_ckc code cd_340_38 = true := by decide +kernel
theorem ck_340_39 : am_ckc code cd_340_39 = true := by decide +kernel
theorem ck_340_40 : am_ckc code cd_340_40 = true := by decide +kernel
theorem ck_340_41 : am_ckc code cd_340_41 = true := by decide +kernel
theorem ck_340_42 : am_ckc code cd_340_42 = true := by decide +kernel
theorem ck_340_43 : am_ckc code cd_340_43 = true := by decide +kernel
theorem ck_340_44 : am_ckc code cd_340_44 = true := by decide +kernel
theorem ck_340_45 : am_ckc code cd_340_45 = true := by decide +kernel
theorem ck_340_46 : am_ckc code cd_340_46 = true := by decide +kernel
theorem ck_340_47 : am_ckc code cd_340_47 = true := by decide +kernel
theorem ck_340_48 : am_ckc code cd_340_48 = true := by decide +kernel
theorem ck_340_49 : am_ckc code cd_340_49 = true := by decide +kernel
theorem ck_340_50 : am_ckc code cd_340_50 = true := by decide +kernel
theorem ck_340_51 : am_ckc code cd_340_51 = true := by decide +kernel
theorem ck_340_52 : am_ckc code cd_340_52 = true := by decide +kernel
theorem ck_340_53 : am_ckc code cd_340_53 = true := by decide +kernel
theorem ck_340_54 : am_ckc code cd_340_54 = true := by decide +kernel
theorem ck_340_55 : am_ckc code cd_340_55 = true := by decide +kernel
theorem ck_340_56 : am_ckc code cd_340_56 = true := by decide +kernel
theorem ck_340_57 : am_ckc code cd_340_57 = true := by decide +kernel
theorem ck_340_58 : am_ckc code cd_340_58 = true := by decide +kernel
theorem ck_340_59 : am_ckc code cd_340_59 = true := by decide +kernel
theorem ck_340_60 : am_ckc code cd_340_60 = true := by decide +kernel
theorem ck_340_61 : am_ckc code cd_340_61 = true := by decide +kernel
theorem ck_340_62 : am_ckc code cd_340_62 = true := by decide +kernel
theorem ck_340_63 : am_ckc code cd_340_63 = true := by decide +kernel
theorem ck_340_64 : am_ckc code cd_340_64 = true := by decide +kernel
theorem ck_340_65 : am_ckc code cd_340_65 = true := by decide +kernel
theorem ck_340_66 : am_ckc code cd_340_66 = true := by decide +kernel
theorem ck_340_67 : am_ckc code cd_340_67 = true := by decide +kernel
theorem ck_340_68 : am_ckc code cd_340_68 = true := by decide +kernel
theorem ck_340_69 : am_ckc code cd_340_69 = true := by decide +kernel
theorem ck_340_70 : am_ckc code cd_340_70 = true := by decide +kernel
theorem ck_340_71 : am_ckc code cd_340_71 = true := by decide +kernel
theorem ck_340_72 : am_ckc code cd_340_72 = true := by decide +kernel
theorem ck_340_73 : am_ckc code cd_340_73 = true := by decide +kernel
theorem ck_340_74 : am_ckc code cd_340_74 = true := by decide +kernel
theorem ck_340_75 : am_ckc code cd_340_75 = true := by decide +kernel
theorem ck_340_76 : am_ckc code cd_340_76 = true := by decide +kernel
theorem ck_340_77 : am_ckc code cd_340_77 = true := by decide +kernel
theorem ck_340_78 : am_ckc code cd_340_78 = true := by decide +kernel
theorem ck_340_79 : am_ckc code cd_340_79 = true := by decide +kernel
theorem ck_340_80 : am_ckc code cd_340_80 = true := by decide +kernel
theorem ck_340_81 : am_ckc code cd_340_81 = true := by decide +kernel
theorem ck_340_82 : am_ckc code cd_340_82 = true := by decide +kernel
theorem ck_340_83 : am_ckc code cd_340_83 = true := by decide +kernel
theorem ck_340_84 : am_ckc code cd_340_84 = true := by decide +kernel
theorem ck_340_85 : am_ckc code cd_340_85 = true := by decide +kernel
theorem ck_340_86 : am_ckc code cd_340_86 = true := by decide +kernel
theorem ck_340_87 : am_ckc code cd_340_87 = true := by decide +kernel
theorem ck_340_88 : am_ckc code cd_340_88 = true := by decide +kernel
theorem ck_340_89 : am_ckc code cd_340_89 = true := by decide +kernel
theorem ck_340_90 : am_ckc code cd_340_90 = true := by decide +kernel
theorem ck_340_91 : am_ckc code cd_340_91 = true := by decide +kernel
theorem ck_340_92 : am_ckc code cd_340_92 = true := by decide +kernel
theorem ck_340_93 : am_ckc code cd_340_93 = true := by decide +kernel
theorem ck_340_94 : am_ckc code cd_340_94 = true := by decide +kernel
theorem ck_340_95 : am_ckc code cd_340_95 = true := by decide +kernel
theorem ck_340_96 : am_ckc code cd_340_96 = true := by decide +kernel
theorem ck_340_97 : am_ckc code cd_340_97 = true := by decide +kernel
theorem ck_340_98 : am_ckc code cd_340_98 = true := by decide +kernel
theorem ck_340_99 : am_ckc code cd_340_99 = true := by decide +kernel
theorem ck_340_100 : am_ckc code cd_340_100 = true := by decide +kernel
theorem ck_340_101 : am_ckc code cd_340_101 = true := by decide +kernel
theorem ck_340_102 : am_ckc code cd_340_102 = true := by decide +kernel
theorem ck_340_103 : am_ckc code cd_340_103 = true := by decide +kernel
theorem ck_340_104 : am_ckc code cd_340_104 = true := by decide +kernel
theorem ck_340_105 : am_ckc code cd_340_105 = true := by decide +kernel
theorem ck_340_106 : am_ckc code cd_340_106 = true := by decide +kernel
theorem ck_340_107 : am_ckc code cd_340_107 = true := by decide +kernel
theorem ck_340_108 : am_ckc code cd_340_108 = true := by decide +kernel
theorem ck_340_109 : am_ckc code cd_340_109 = true := by decide +kernel
theorem ck_340_110 : am_ckc code cd_340_110 = true := by decide +kernel
theorem ck_340_111 : am_ckc code cd_340_111 = true := by decide +kernel
theorem ck_340_112 : am_ckc code cd_340_112 = true := by decide +kernel
theorem ck_340_113 : am_ckc code cd_340_113 = true := by decide +kernel
theorem ck_340_114 : am_ckc code cd_340_114 = true := by decide +kernel
theorem ck_340_115 : am_ckc code cd_340_115 = true := by decide +kernel
theorem ck_340_116 : am_ckc code cd_340_116 = true := by decide +kernel
theorem ck_340_117 : am_ckc code cd_340_117 = true := by decide +kernel
theorem ck_340_118 : am_ckc code cd_340_118 = true := by decide +kernel
theorem ck_340_119 : am_ckc code cd_340_119 = true := by decide +kernel
theorem ck_340_120 : am_ckc code cd_340_120 = true := by decide +kernel
theorem ck_340_121 : am_ckc code cd_340_121 = true := by decide +kernel
theorem ck_340_122 : am_ckc code cd_340_122 = true := by decide +kernel
theorem ck_340_123 : am_ckc code cd_340_123 = true := by decide +kernel
theorem ck_340 : am_ck rw_340 = true := by
  refine List.all_eq_true.mpr ?_
  show ∀ ch ∈ cd_340, am_ckc code ch = true
  exact List.forall_mem_cons.mpr ⟨ck_340_0, List.forall_mem_cons.mpr ⟨ck_340_1, List.forall_mem_cons.mpr ⟨ck_340_2, List.forall_mem_cons.mpr ⟨ck_340_3, List.forall_mem_cons.mpr ⟨ck_340_4, List.forall_mem_cons.mpr ⟨ck_340_5, List.forall_mem_cons.mpr ⟨ck_340_6, List.forall_mem_cons.mpr ⟨ck_340_7, List.forall_mem_cons.mpr ⟨ck_340_8, List.forall_mem_cons.mpr ⟨ck_340_9, List.forall_mem_cons.mpr ⟨ck_340_10, List.forall_mem_cons.mpr ⟨ck_340_11, List.forall_mem_cons.mpr ⟨ck_340_12, List.forall_mem_cons.mpr ⟨ck_340_13, List.forall_mem_cons.mpr ⟨ck_340_14, List.forall_mem_cons.mpr ⟨ck_340_15, List.forall_mem_cons.mpr ⟨ck_340_16, List.forall_mem_cons.mpr ⟨ck_340_17, List.forall_mem_cons.mpr ⟨ck_340_18, List.forall_mem_cons.mpr ⟨ck_340_19, List.forall_mem_cons.mpr ⟨ck_340_20, List.forall_mem_cons.mpr ⟨ck_340_21, List.forall_mem_cons.mpr ⟨ck_340_22, List.forall_mem_cons.mpr ⟨ck_340_23, List.forall_mem_cons.mpr ⟨ck_340_24, List.forall_mem_cons.mpr ⟨ck_340_25, List.forall_mem_cons.mpr ⟨ck_340_26, List.forall_mem_cons.mpr ⟨ck_340_27, List.forall_mem_cons.mpr ⟨ck_340_28, List.forall_mem_cons.mpr ⟨ck_340_29, List.forall_mem_cons.mpr ⟨ck_340_30, List.forall_mem_cons.mpr ⟨ck_340_31, List.forall_mem_cons.mpr ⟨ck_340_32, List.forall_mem_cons.mpr ⟨ck_340_33, List.forall_mem_cons.mpr ⟨ck_340_34, List.forall_mem_cons.mpr ⟨ck_340_35, List.forall_mem_cons.mpr ⟨ck_340_36, List.forall_mem_cons.mpr ⟨ck_340_37, List.forall_mem_cons.mpr ⟨ck_340_38, List.forall_mem_cons.mpr ⟨ck_340_39, List.forall_mem_cons.mpr ⟨ck_340_40, List.forall_mem_cons.mpr ⟨ck_340_41, List.forall_mem_cons.mpr ⟨ck_340_42, List.forall_mem_cons.mpr ⟨ck_340_43, List.forall_mem_cons.mpr ⟨ck_340_44, List.forall_mem_cons.mpr ⟨ck_340_45, List.forall_mem_cons.mpr ⟨ck_340_46, List.forall_mem_cons.mpr ⟨ck_340_47, List.forall_mem_cons.mpr ⟨ck_340_48, List.forall_mem_cons.mpr ⟨ck_340_49, List.forall_mem_cons.mpr ⟨ck_340_50, List.forall_mem_cons.mpr ⟨ck_340_51, List.forall_mem_cons.mpr ⟨ck_340_52, List.forall_mem_cons.mpr ⟨ck_340_53, List.forall_mem_cons.mpr ⟨ck_340_54, List.forall_mem_cons.mpr ⟨ck_340_55, List.forall_mem_cons.mpr ⟨ck_340_56, List.forall_mem_cons.mpr ⟨ck_340_57, List.forall_mem_cons.mpr ⟨ck_340_58, List.forall_mem_cons.mpr ⟨ck_340_59, List.forall_mem_cons.mpr ⟨ck_340_60, List.forall_mem_cons.mpr ⟨ck_340_61, List.forall_mem_cons.mpr ⟨ck_340_62, List.forall_mem_cons.mpr ⟨ck_340_63, List.forall_mem_cons.mpr ⟨ck_340_64, List.forall_mem_cons.mpr ⟨ck_340_65, List.forall_mem_cons.mpr ⟨ck_340_66, List.forall_mem_cons.mpr ⟨ck_340_67, List.forall_mem_cons.mpr ⟨ck_340_68, List.forall_mem_cons.mpr ⟨ck_340_69, List.forall_mem_cons.mpr ⟨ck_340_70, List.forall_mem_cons.mpr ⟨ck_340_71, List.forall_mem_cons.mpr ⟨ck_340_72, List.forall_mem_cons.mpr ⟨ck_340_73, List.forall_mem_cons.mpr ⟨ck_340_74, List.forall_mem_cons.mpr ⟨ck_340_75, List.forall_mem_cons.mpr ⟨ck_340_76, List.forall_mem_cons.mpr ⟨ck_340_77, List.forall_mem_cons.mpr ⟨ck_340_78, List.forall_mem_cons.mpr ⟨ck_340_79, List.forall_mem_cons.mpr ⟨ck_340_80, List.forall_mem_cons.mpr ⟨ck_340_81, List.forall_mem_cons.mpr ⟨ck_340_82, List.forall_mem_cons.mpr ⟨ck_340_83, List.forall_mem_cons.mpr ⟨ck_340_84, List.forall_mem_cons.mpr ⟨ck_340_85, List.forall_mem_cons.mpr ⟨ck_340_86, List.forall_mem_cons.mpr ⟨ck_340_87, List.forall_mem_cons.mpr ⟨ck_340_88, List.forall_mem_cons.mpr ⟨ck_340_89, List.forall_mem_cons.mpr ⟨ck_340_90, List.forall_mem_cons.mpr ⟨ck_340_91, List.forall_mem_cons.mpr ⟨ck_340_92, List.forall_mem_cons.mpr ⟨ck_340_93, List.forall_mem_cons.mpr ⟨ck_340_94, List.forall_mem_cons.mpr ⟨ck_340_95, List.forall_mem_cons.mpr ⟨ck_340_96, List.forall_mem_cons.mpr ⟨ck_340_97, List.forall_mem_cons.mpr ⟨ck_340_98, List.forall_mem_cons.mpr ⟨ck_340_99, List.forall_mem_cons.mpr ⟨ck_340_100, List.forall_mem_cons.mpr ⟨ck_340_101, List.forall_mem_cons.mpr ⟨ck_340_102, List.forall_mem_cons.mpr ⟨ck_340_103, List.forall_mem_cons.mpr ⟨ck_340_104, List.forall_mem_cons.mpr ⟨ck_340_105, List.forall_mem_cons.mpr ⟨ck_340_106, List.forall_mem_cons.mpr ⟨ck_340_107, List.forall_mem_cons.mpr ⟨ck_340_108, List.forall_mem_cons.mpr ⟨ck_340_109, List.forall_mem_cons.mpr ⟨ck_340_110, List.forall_mem_cons.mpr ⟨ck_340_111, List.forall_mem_cons.mpr ⟨ck_340_112, List.forall_mem_cons.mpr ⟨ck_340_113, List.forall_mem_cons.mpr ⟨ck_340_114, List.forall_mem_cons.mpr ⟨ck_340_115, List.forall_mem_cons.mpr ⟨ck_340_116, List.forall_mem_cons.mpr ⟨ck_340_117, List.forall_mem_cons.mpr ⟨ck_340_118, List.forall_mem_cons.mpr ⟨ck_340_119, List.forall_mem_cons.mpr ⟨ck_340_120, List.forall_mem_cons.mpr ⟨ck_340_121, List.forall_mem_cons.mpr ⟨ck_340_122, List.forall_mem_cons.mpr ⟨ck_340_123, fun _ h => absurd h List.not_mem_nil⟩⟩⟩⟩⟩⟩⟩⟩⟩⟩⟩⟩⟩⟩⟩⟩⟩⟩⟩⟩⟩⟩⟩⟩⟩⟩⟩⟩⟩⟩⟩⟩⟩⟩⟩⟩⟩⟩⟩⟩⟩⟩⟩⟩⟩⟩⟩⟩⟩⟩⟩⟩⟩⟩⟩⟩⟩⟩⟩⟩⟩⟩⟩⟩⟩⟩⟩⟩⟩⟩⟩⟩⟩⟩⟩⟩⟩⟩⟩⟩⟩⟩⟩⟩⟩⟩⟩⟩⟩⟩⟩⟩⟩⟩⟩⟩⟩⟩⟩⟩⟩⟩⟩⟩⟩⟩⟩⟩⟩⟩⟩⟩⟩⟩⟩⟩⟩⟩⟩⟩⟩⟩⟩⟩
end
section
theorem ckc_0 : ∀ r ∈ rc_0, am_ck r = true := List.forall_mem_cons.mpr ⟨ck_4, List.forall_mem_cons.mpr ⟨ck_5, List.forall_mem_cons.mpr ⟨ck_6, List.forall_mem_cons.mpr ⟨ck_7, List.forall_mem_cons.mpr ⟨ck_8, List.forall_mem_cons.mpr ⟨ck_9, List.forall_mem_cons.mpr ⟨ck_10, List.forall_mem_cons.mpr ⟨ck_11, List.forall_mem_cons.mpr ⟨ck_12, List.forall_mem_cons.mpr ⟨ck_13, List.forall_mem_cons.mpr ⟨ck_14, List.forall_mem_cons.mpr ⟨ck_15, fun _ h => absurd h List.not_mem_nil⟩⟩⟩⟩⟩⟩⟩⟩⟩⟩⟩⟩
theorem ckc_1 : ∀ r ∈ rc_1, am_ck r = true := List.forall_mem_cons.mpr ⟨ck_16, List.forall_mem_cons.mpr ⟨ck_17, List.forall_mem_cons.mpr ⟨ck_18, List.forall_mem_cons.mpr ⟨ck_19, List.forall_mem_cons.mpr ⟨ck_20, List.forall_mem_cons.mpr ⟨ck_21, List.forall_mem_cons.mpr ⟨ck_22, List.forall_mem_cons.mpr ⟨ck_23, List.forall_mem_cons.mpr ⟨ck_24, List.forall_mem_cons.mpr ⟨ck_25, List.forall_mem_cons.mpr ⟨ck_26, List.forall_mem_cons.mpr ⟨ck_27, List.forall_mem_cons.mpr ⟨ck_28, List.forall_mem_cons.mpr ⟨ck_29, List.forall_mem_cons.mpr ⟨ck_30, List.forall_mem_cons.mpr ⟨ck_31, fun _ h => absurd h List.not_mem_nil⟩⟩⟩⟩⟩⟩⟩⟩⟩⟩⟩⟩⟩⟩⟩⟩
theorem ckc_2 : ∀ r ∈ rc_2, am_ck r = true := List.forall_mem_cons.mpr ⟨ck_32, List.forall_mem_cons.mpr ⟨ck_33, List.forall_mem_cons.mpr ⟨ck_34, List.forall_mem_cons.mpr ⟨ck_35, List.forall_mem_cons.mpr ⟨ck_36, List.forall_mem_cons.mpr ⟨ck_37, List.forall_mem_cons.mpr ⟨ck_38, List.forall_mem_cons.mpr ⟨ck_39, List.forall_mem_cons.mpr ⟨ck_40, List.forall_mem_cons.mpr ⟨ck_41, List.forall_mem_cons.mpr ⟨ck_42, List.forall_mem_cons.mpr ⟨ck_43, List.forall_mem_cons.mpr ⟨ck_44, List.forall_mem_cons.mpr ⟨ck_45, List.forall_mem_cons.mpr ⟨ck_46, List.forall_mem_cons.mpr ⟨ck_47, fun _ h => absurd h List.not_mem_nil⟩⟩⟩⟩⟩⟩⟩⟩⟩⟩⟩⟩⟩⟩⟩⟩
theorem ckc_3 : ∀ r ∈ rc_3, am_ck r = true := List.forall_mem_cons.mpr ⟨ck_48, List.forall_mem_cons.mpr ⟨ck_49, List.forall_mem_cons.mpr ⟨ck_50, List.forall_mem_cons.mpr ⟨ck_51, List.forall_mem_cons.mpr ⟨ck_52, List.forall_mem_cons.mpr ⟨ck_53, List.forall_mem_cons.mpr ⟨ck_54, List.forall_mem_cons.mpr ⟨ck_55, List.forall_mem_cons.mpr ⟨ck_56, List.forall_mem_cons.mpr ⟨ck_57, List.forall_mem_cons.mpr ⟨ck_58, List.forall_mem_cons.mpr ⟨ck_59, List.forall_mem_cons.mpr ⟨ck_60, List.forall_mem_cons.mpr ⟨ck_61, List.forall_mem_cons.mpr ⟨ck_62, List.forall_mem_cons.mpr ⟨ck_63, fun _ h => absurd h List.not_mem_nil⟩⟩⟩⟩⟩⟩⟩⟩⟩⟩⟩⟩⟩⟩⟩⟩
theorem ckc_4 : ∀ r ∈ rc_4, am_ck r = true := List.forall_mem_cons.mpr ⟨ck_64, List.forall_mem_cons.mpr ⟨ck_65, List.forall_mem_cons.mpr ⟨ck_66, List.forall_mem_cons.mpr ⟨ck_67, List.forall_mem_cons.mpr ⟨ck_68, List.forall_mem_cons.mpr ⟨ck_69, List.forall_mem_cons.mpr ⟨ck_70, List.forall_mem_cons.mpr ⟨ck_71, List.forall_mem_cons.mpr ⟨ck_72, List.forall_mem_cons.mpr ⟨ck_73, List.forall_mem_cons.mpr ⟨ck_74, List.forall_mem_cons.mpr ⟨ck_75, List.forall_mem_cons.mpr ⟨ck_76, List.forall_mem_cons.mpr ⟨ck_77, List.forall_mem_cons.mpr ⟨ck_78, List.forall_mem_cons.mpr ⟨ck_79, fun _ h => absurd h List.not_mem_nil⟩⟩⟩⟩⟩⟩⟩⟩⟩⟩⟩⟩⟩⟩⟩⟩
theorem ckc_5 : ∀ r ∈ rc_5, am_ck r = true := List.forall_mem_cons.mpr ⟨ck_80, List.forall_mem_cons.mpr ⟨ck_81, List.forall_mem_cons.mpr ⟨ck_82, List.forall_mem_cons.mpr ⟨ck_83, List.forall_mem_cons.mpr ⟨ck_84, List.forall_mem_cons.mpr ⟨ck_85, List.forall_mem_cons.mpr ⟨ck_86, List.forall_mem_cons.mpr ⟨ck_87, List.forall_mem_cons.mpr ⟨ck_88, List.forall_mem_cons.mpr ⟨ck_89, List.forall_mem_cons.mpr ⟨ck_90, List.forall_mem_cons.mpr ⟨ck_91, List.forall_mem_cons.mpr ⟨ck_92, List.forall_mem_cons.mpr ⟨ck_93, List.forall_mem_cons.mpr ⟨ck_94, List.forall_mem_cons.mpr ⟨ck_95, fun _ h => absurd h List.not_mem_nil⟩⟩⟩⟩⟩⟩⟩⟩⟩⟩⟩⟩⟩⟩⟩⟩
theorem ckc_6 : ∀ r ∈ rc_6, am_ck r = true := List.forall_mem_cons.mpr ⟨ck_96, List.forall_mem_cons.mpr ⟨ck_97, List.forall_mem_cons.mpr ⟨ck_98, List.forall_mem_cons.mpr ⟨ck_99, List.forall_mem_cons.mpr ⟨ck_100, List.forall_mem_cons.mpr ⟨ck_101, List.forall_mem_cons.mpr ⟨ck_102, List.forall_mem_cons.mpr ⟨ck_103, List.forall_mem_cons.mpr ⟨ck_104, List.forall_mem_cons.mpr ⟨ck_105, List.forall_mem_cons.mpr ⟨ck_106, List.forall_mem_cons.mpr ⟨ck_107, List.forall_mem_cons.mpr ⟨ck_108, List.forall_mem_cons.mpr ⟨ck_109, List.forall_mem_cons.mpr ⟨ck_110, List.forall_mem_cons.mpr ⟨ck_111, fun _ h => absurd h List.not_mem_nil⟩⟩⟩⟩⟩⟩⟩⟩⟩⟩⟩⟩⟩⟩⟩⟩
theorem ckc_7 : ∀ r ∈ rc_7, am_ck r = true := List.forall_mem_cons.mpr ⟨ck_112, List.forall_mem_cons.mpr ⟨ck_113, List.forall_mem_cons.mpr ⟨ck_114, List.forall_mem_cons.mpr ⟨ck_115, List.forall_mem_cons.mpr ⟨ck_116, List.forall_mem_cons.mpr ⟨ck_117, List.forall_mem_cons.mpr ⟨ck_118, List.forall_mem_cons.mpr ⟨ck_119, List.forall_mem_cons.mpr ⟨ck_120, List.forall_mem_cons.mpr ⟨ck_121, List.forall_mem_cons.mpr ⟨ck_122, List.forall_mem_cons.mpr ⟨ck_123, List.forall_mem_cons.mpr ⟨ck_124, List.forall_mem_cons.mpr ⟨ck_125, List.forall_mem_cons.mpr ⟨ck_126, List.forall_mem_cons.mpr ⟨ck_127, fun _ h => absurd h List.not_mem_nil⟩⟩⟩⟩⟩⟩⟩⟩⟩⟩⟩⟩⟩⟩⟩⟩
theorem ckc_8 : ∀ r ∈ rc_8, am_ck r = true := List.forall_mem_cons.mpr ⟨ck_128, List.forall_mem_cons.mpr ⟨ck_129, List.forall_mem_cons.mpr ⟨ck_130, List.forall_mem_cons.mpr ⟨ck_131, List.forall_mem_cons.mpr ⟨ck_132, List.forall_mem_cons.mpr ⟨ck_133, List.forall_mem_cons.mpr ⟨ck_134, List.forall_mem_cons.mpr ⟨ck_135, List.forall_mem_cons.mpr ⟨ck_136, List.forall_mem_cons.mpr ⟨ck_137, List.forall_mem_cons.mpr ⟨ck_138, List.forall_mem_cons.mpr ⟨ck_139, List.forall_mem_cons.mpr ⟨ck_140, List.forall_mem_cons.mpr ⟨ck_141, List.forall_mem_cons.mpr ⟨ck_142, List.forall_mem_cons.mpr ⟨ck_143, fun _ h => absurd h List.not_mem_nil⟩⟩⟩⟩⟩⟩⟩⟩⟩⟩⟩⟩⟩⟩⟩⟩
theorem ckc_9 : ∀ r ∈ rc_9, am_ck r = true := List.forall_mem_cons.mpr ⟨ck_144, List.forall_mem_cons.mpr ⟨ck_145, List.forall_mem_cons.mpr ⟨ck_146, List.forall_mem_cons.mpr ⟨ck_147, List.forall_mem_cons.mpr ⟨ck_148, List.forall_mem_cons.mpr ⟨ck_149, List.forall_mem_cons.mpr ⟨ck_150, List.forall_mem_cons.mpr ⟨ck_151, List.forall_mem_cons.mpr ⟨ck_152, List.forall_mem_cons.mpr ⟨ck_153, List.forall_mem_cons.mpr ⟨ck_154, List.forall_mem_cons.mpr ⟨ck_155, List.forall_mem_cons.mpr ⟨ck_156, List.forall_mem_cons.mpr ⟨ck_157, List.forall_mem_cons.mpr ⟨ck_158, List.forall_mem_cons.mpr ⟨ck_159, fun _ h => absurd h List.not_mem_nil⟩⟩⟩⟩⟩⟩⟩⟩⟩⟩⟩⟩⟩⟩⟩⟩
theorem ckc_10 : ∀ r ∈ rc_10, am_ck r = true := List.forall_mem_cons.mpr ⟨ck_160, List.forall_mem_cons.mpr ⟨ck_161, List.forall_mem_cons.mpr ⟨ck_162, List.forall_mem_cons.mpr ⟨ck_163, List.forall_mem_cons.mpr ⟨ck_164, List.forall_mem_cons.mpr ⟨ck_165, List.forall_mem_cons.mpr ⟨ck_166, List.forall_mem_cons.mpr ⟨ck_167, List.forall_mem_cons.mpr ⟨ck_168, List.forall_mem_cons.mpr ⟨ck_169, List.forall_mem_cons.mpr ⟨ck_170, List.forall_mem_cons.mpr ⟨ck_171, List.forall_mem_cons.mpr ⟨ck_172, List.forall_mem_cons.mpr ⟨ck_173, List.forall_mem_cons.mpr ⟨ck_174, List.forall_mem_cons.mpr ⟨ck_175, fun _ h => absurd h List.not_mem_nil⟩⟩⟩⟩⟩⟩⟩⟩⟩⟩⟩⟩⟩⟩⟩⟩
theorem ckc_11 : ∀ r ∈ rc_11, am_ck r = true := List.forall_mem_cons.mpr ⟨ck_176, List.forall_mem_cons.mpr ⟨ck_177, List.forall_mem_cons.mpr ⟨ck_178, List.forall_mem_cons.mpr ⟨ck_179, List.forall_mem_cons.mpr ⟨ck_180, List.forall_mem_cons.mpr ⟨ck_181, List.forall_mem_cons.mpr ⟨ck_182, List.forall_mem_cons.mpr ⟨ck_183, List.forall_mem_cons.mpr ⟨ck_184, List.forall_mem_cons.mpr ⟨ck_185, List.forall_mem_cons.mpr ⟨ck_186, List.forall_mem_cons.mpr ⟨ck_187, List.forall_mem_cons.mpr ⟨ck_188, List.forall_mem_cons.mpr ⟨ck_189, List.forall_mem_cons.mpr ⟨ck_190, List.forall_mem_cons.mpr ⟨ck_191, fun _ h => absurd h List.not_mem_nil⟩⟩⟩⟩⟩⟩⟩⟩⟩⟩⟩⟩⟩⟩⟩⟩
theorem ckc_12 : ∀ r ∈ rc_12, am_ck r = true := List.forall_mem_cons.mpr ⟨ck_192, List.forall_mem_cons.mpr ⟨ck_193, List.forall_mem_cons.mpr ⟨ck_194, List.forall_mem_cons.mpr ⟨ck_195, List.forall_mem_cons.mpr ⟨ck_196, List.forall_mem_cons.mpr ⟨ck_197, List.forall_mem_cons.mpr ⟨ck_198, List.forall_mem_cons.mpr ⟨ck_199, List.forall_mem_cons.mpr ⟨ck_200, List.forall_mem_cons.mpr ⟨ck_201, List.forall_mem_cons.mpr ⟨ck_202, List.forall_mem_cons.mpr ⟨ck_203, List.forall_mem_cons.mpr ⟨ck_204, List.forall_mem_cons.mpr ⟨ck_205, List.forall_mem_cons.mpr ⟨ck_206, List.forall_mem_cons.mpr ⟨ck_207, fun _ h => absurd h List.not_mem_nil⟩⟩⟩⟩⟩⟩⟩⟩⟩⟩⟩⟩⟩⟩⟩⟩
theorem ckc_13 : ∀ r ∈ rc_13, am_ck r = true := List.forall_mem_cons.mpr ⟨ck_208, List.forall_mem_cons.mpr ⟨ck_209, List.forall_mem_cons.mpr ⟨ck_210, List.forall_mem_cons.mpr ⟨ck_211, List.forall_mem_cons.mpr ⟨ck_212, List.forall_mem_cons.mpr ⟨ck_213, List.forall_mem_cons.mpr ⟨ck_214, List.forall_mem_cons.mpr ⟨ck_215, List.forall_mem_cons.mpr ⟨ck_216, List.forall_mem_cons.mpr ⟨ck_217, List.forall_mem_cons.mpr ⟨ck_218, List.forall_mem_cons.mpr ⟨ck_219, List.forall_mem_cons.mpr ⟨ck_220, List.forall_mem_cons.mpr ⟨ck_221, List.forall_mem_cons.mpr ⟨ck_222, List.forall_mem_cons.mpr ⟨ck_223, fun _ h => absurd h List.not_mem_nil⟩⟩⟩⟩⟩⟩⟩⟩⟩⟩⟩⟩⟩⟩⟩⟩
theorem ckc_14 : ∀ r ∈ rc_14, am_ck r = true := List.forall_mem_cons.mpr ⟨ck_224, List.forall_mem_cons.mpr ⟨ck_225, List.forall_mem_cons.mpr ⟨ck_226, List.forall_mem_cons.mpr ⟨ck_227, List.forall_mem_cons.mpr ⟨ck_228, List.forall_mem_cons.mpr ⟨ck_229, List.forall_mem_cons.mpr ⟨ck_230, List.forall_mem_cons.mpr ⟨ck_231, List.forall_mem_cons.mpr ⟨ck_232, List.forall_mem_cons.mpr ⟨ck_233, List.forall_mem_cons.mpr ⟨ck_234, List.forall_mem_cons.mpr ⟨ck_235, List.forall_mem_cons.mpr ⟨ck_236, List.forall_mem_cons.mpr ⟨ck_237, List.forall_mem_cons.mpr ⟨ck_238, List.forall_mem_cons.mpr ⟨ck_239, fun _ h => absurd h List.not_mem_nil⟩⟩⟩⟩⟩⟩⟩⟩⟩⟩⟩⟩⟩⟩⟩⟩
theorem ckc_15 : ∀ r ∈ rc_15, am_ck r = true := List.forall_mem_cons.mpr ⟨ck_240, List.forall_mem_cons.mpr ⟨ck_241, List.forall_mem_cons.mpr ⟨ck_242, List.forall_mem_cons.mpr ⟨ck_243, List.forall_mem_cons.mpr ⟨ck_244, List.forall_mem_cons.mpr ⟨ck_245, List.forall_mem_cons.mpr ⟨ck_246, List.forall_mem_cons.mpr ⟨ck_247, List.forall_mem_cons.mpr ⟨ck_248, List.forall_mem_cons.mpr ⟨ck_249, List.forall_mem_cons.mpr ⟨ck_250, List.forall_mem_cons.mpr ⟨ck_251, List.forall_mem_cons.mpr ⟨ck_252, List.forall_mem_cons.mpr ⟨ck_253, List.forall_mem_cons.mpr ⟨ck_254, List.forall_mem_cons.mpr ⟨ck_255, fun _ h => absurd h List.not_mem_nil⟩⟩⟩⟩⟩⟩⟩⟩⟩⟩⟩⟩⟩⟩⟩⟩
theorem ckc_16 : ∀ r ∈ rc_16, am_ck r = true := List.forall_mem_cons.mpr ⟨ck_256, List.forall_mem_cons.mpr ⟨ck_257, List.forall_mem_cons.mpr ⟨ck_258, List.forall_mem_cons.mpr ⟨ck_259, List.forall_mem_cons.mpr ⟨ck_260, List.forall_mem_cons.mpr ⟨ck_261, List.forall_mem_cons.mpr ⟨ck_262, List.forall_mem_cons.mpr ⟨ck_263, List.forall_mem_cons.mpr ⟨ck_264, List.forall_mem_cons.mpr ⟨ck_265, List.forall_mem_cons.mpr ⟨ck_266, List.forall_mem_cons.mpr ⟨ck_267, List.forall_mem_cons.mpr ⟨ck_268, List.forall_mem_cons.mpr ⟨ck_269, List.forall_mem_cons.mpr ⟨ck_270, List.forall_mem_cons.mpr ⟨ck_271, fun _ h => absurd h List.not_mem_nil⟩⟩⟩⟩⟩⟩⟩⟩⟩⟩⟩⟩⟩⟩⟩⟩
theorem ckc_17 : ∀ r ∈ rc_17, am_ck r = true := List.forall_mem_cons.mpr ⟨ck_272, List.forall_mem_cons.mpr ⟨ck_273, List.forall_mem_cons.mpr ⟨ck_274, List.forall_mem_cons.mpr ⟨ck_275, List.forall_mem_cons.mpr ⟨ck_276, List.forall_mem_cons.mpr ⟨ck_277, List.forall_mem_cons.mpr ⟨ck_278, List.forall_mem_cons.mpr ⟨ck_279, List.forall_mem_cons.mpr ⟨ck_280, List.forall_mem_cons.mpr ⟨ck_281, List.forall_mem_cons.mpr ⟨ck_282, List.forall_mem_cons.mpr ⟨ck_283, List.forall_mem_cons.mpr ⟨ck_284, List.forall_mem_cons.mpr ⟨ck_285, List.forall_mem_cons.mpr ⟨ck_286, List.forall_mem_cons.mpr ⟨ck_287, fun _ h => absurd h List.not_mem_nil⟩⟩⟩⟩⟩⟩⟩⟩⟩⟩⟩⟩⟩⟩⟩⟩
theorem ckc_18 : ∀ r ∈ rc_18, am_ck r = true := List.forall_mem_cons.mpr ⟨ck_288, List.forall_mem_cons.mpr ⟨ck_289, List.forall_mem_cons.mpr ⟨ck_290, List.forall_mem_cons.mpr ⟨ck_291, List.forall_mem_cons.mpr ⟨ck_292, List.forall_mem_cons.mpr ⟨ck_293, List.forall_mem_cons.mpr ⟨ck_294, List.forall_mem_cons.mpr ⟨ck_295, List.forall_mem_cons.mpr ⟨ck_296, List.forall_mem_cons.mpr ⟨ck_297, List.forall_mem_cons.mpr ⟨ck_298, List.forall_mem_cons.mpr ⟨ck_299, List.forall_mem_cons.mpr ⟨ck_300, List.forall_mem_cons.mpr ⟨ck_301, List.forall_mem_cons.mpr ⟨ck_302, List.forall_mem_cons.mpr ⟨ck_303, fun _ h => absurd h List.not_mem_nil⟩⟩⟩⟩⟩⟩⟩⟩⟩⟩⟩⟩⟩⟩⟩⟩
theorem ckc_19 : ∀ r ∈ rc_19, am_ck r = true := List.forall_mem_cons.mpr ⟨ck_304, List.forall_mem_cons.mpr ⟨ck_305, List.forall_mem_cons.mpr ⟨ck_306, List.forall_mem_cons.mpr ⟨ck_307, List.forall_mem_cons.mpr ⟨ck_308, List.forall_mem_cons.mpr ⟨ck_309, List.forall_mem_cons.mpr ⟨ck_310, List.forall_mem_cons.mpr ⟨ck_311, List.forall_mem_cons.mpr ⟨ck_312, List.forall_mem_cons.mpr ⟨ck_313, List.forall_mem_cons.mpr ⟨ck_314, List.forall_mem_cons.mpr ⟨ck_315, List.forall_mem_cons.mpr ⟨ck_316, List.forall_mem_cons.mpr ⟨ck_317, List.forall_mem_cons.mpr ⟨ck_318, List.forall_mem_cons.mpr ⟨ck_319, fun _ h => absurd h List.not_mem_nil⟩⟩⟩⟩⟩⟩⟩⟩⟩⟩⟩⟩⟩⟩⟩⟩
theorem ckc_20 : ∀ r ∈ rc_20, am_ck r = true := List.forall_mem_cons.mpr ⟨ck_320, List.forall_mem_cons.mpr ⟨ck_321, List.forall_mem_cons.mpr ⟨ck_322, List.forall_mem_cons.mpr ⟨ck_323, List.forall_mem_cons.mpr ⟨ck_324, List.forall_mem_cons.mpr ⟨ck_325, List.forall_mem_cons.mpr ⟨ck_326, List.forall_mem_cons.mpr ⟨ck_327, List.forall_mem_cons.mpr ⟨ck_328, List.forall_mem_cons.mpr ⟨ck_329, List.forall_mem_cons.mpr ⟨ck_330, List.forall_mem_cons.mpr ⟨ck_331, List.forall_mem_cons.mpr ⟨ck_332, List.forall_mem_cons.mpr ⟨ck_333, List.forall_mem_cons.mpr ⟨ck_334, List.forall_mem_cons.mpr ⟨ck_335, fun _ h => absurd h List.not_mem_nil⟩⟩⟩⟩⟩⟩⟩⟩⟩⟩⟩⟩⟩⟩⟩⟩
theorem ckc_21 : ∀ r ∈ rc_21, am_ck r = true := List.forall_mem_cons.mpr ⟨ck_336, List.forall_mem_cons.mpr ⟨ck_337, List.forall_mem_cons.mpr ⟨ck_338, List.forall_mem_cons.mpr ⟨ck_339, List.forall_mem_cons.mpr ⟨ck_340, fun _ h => absurd h List.not_mem_nil⟩⟩⟩⟩⟩
theorem ckcs : ∀ l ∈ rcs, ∀ r ∈ l, am_ck r = true := List.forall_mem_cons.mpr ⟨ckc_0, List.forall_mem_cons.mpr ⟨ckc_1, List.forall_mem_cons.mpr ⟨ckc_2, List.forall_mem_cons.mpr ⟨ckc_3, List.forall_mem_cons.mpr ⟨ckc_4, List.forall_mem_cons.mpr ⟨ckc_5, List.forall_mem_cons.mpr ⟨ckc_6, List.forall_mem_cons.mpr ⟨ckc_7, List.forall_mem_cons.mpr ⟨ckc_8, List.forall_mem_cons.mpr ⟨ckc_9, List.forall_mem_cons.mpr ⟨ckc_10, List.forall_mem_cons.mpr ⟨ckc_11, List.forall_mem_cons.mpr ⟨ckc_12, List.forall_mem_cons.mpr ⟨ckc_13, List.forall_mem_cons.mpr ⟨ckc_14, List.forall_mem_cons.mpr ⟨ckc_15, List.forall_mem_cons.mpr ⟨ckc_16, List.forall_mem_cons.mpr ⟨ckc_17, List.forall_mem_cons.mpr ⟨ckc_18, List.forall_mem_cons.mpr ⟨ckc_19, List.forall_mem_cons.mpr ⟨ckc_20, List.forall_mem_cons.mpr ⟨ckc_21, fun _ h => absurd h List.not_mem_nil⟩⟩⟩⟩⟩⟩⟩⟩⟩⟩⟩⟩⟩⟩⟩⟩⟩⟩⟩⟩⟩⟩
end
section
/-! am_G TT: printed by wip/gen/gok.py. -/
theorem am_look_mem {α : Type} {k : Nat} {v : α} : ∀ {l : List (Nat × α)}, am_look l k = some v → (k, v) ∈ l
  | [], h => by cases h
  | (a, b) :: t, h => by
    unfold am_look at h
    split at h
    · next hb => cases h; rw [Nat.eq_of_beq_eq_true hb]; exact List.mem_cons_self
    · exact List.mem_cons_of_mem _ (am_look_mem h)
theorem am_rfind_mem {k : Nat} {r : am_Row} : ∀ {l : List am_Row}, am_rfind l k = some r → r ∈ l ∧ r.1 = k
  | [], h => by cases h
  | a :: t, h => by
    unfold am_rfind at h
    split at h
    · next hb => cases h; exact ⟨List.mem_cons_self, Nat.eq_of_beq_eq_true hb⟩
    · exact ⟨List.mem_cons_of_mem _ (am_rfind_mem h).1, (am_rfind_mem h).2⟩
theorem am_row_mem {y : Nat} {r : am_Row} (h : am_row y = some r) : (∃ l ∈ rcs, r ∈ l) ∧ r.1 = y := by
  unfold am_row at h
  split at h
  · next l hl => exact ⟨⟨l, List.mem_of_getElem? hl, (am_rfind_mem h).1⟩, (am_rfind_mem h).2⟩
  · cases h
theorem am_fetch_mem {c : List (List (Nat × Instr × Nat × Nat))} {pc : Nat} {e : Instr × Nat × Nat} (h : am_fetch c pc = some e) : ∃ ch ∈ c, (pc, e) ∈ ch := by
  unfold am_fetch at h
  split at h
  · next ch hc => exact ⟨ch, List.mem_of_getElem? hc, am_look_mem h⟩
  · cases h
theorem tb_code_mem {y pc : Nat} {e : Instr × Nat × Nat} (h : tb_code y pc = some e) : ∃ r, am_row y = some r ∧ (∃ l ∈ rcs, r ∈ l) ∧ r.1 = y ∧ ∃ ch ∈ r.2.2.2.2, (pc, e) ∈ ch := by
  unfold tb_code at h
  split at h
  · next r hr => exact ⟨r, hr, (am_row_mem hr).1, (am_row_mem hr).2, am_fetch_mem h⟩
  · cases h
theorem tb_g1 (y pc : Nat) (i : Instr) (n t : Nat) (h : tb_code y pc = some (i, n, t)) : decode (tb_by y) pc = .ok (i, (am_ln i).getD n) ∧ am_tg i pc t := by
  obtain ⟨r, hr, ⟨l, hl, hrl⟩, -, ch, hch, he⟩ := tb_code_mem h
  have h1 := List.all_eq_true.mp (List.all_eq_true.mp (ckcs l hl r hrl) ch hch) _ he
  simp only [Bool.and_eq_true, decide_eq_true_eq] at h1
  have e1 : tb_by y = r.2.2.2.1 := by unfold tb_by; rw [hr]
  rw [e1]
  refine ⟨h1.1, ?_⟩
  have h2 := h1.2
  unfold am_tgb at h2
  unfold am_tg
  cases i <;> first | trivial | exact of_decide_eq_true h2
theorem tb_look {α : Type} {t : List (List (Nat × α))} {own k : Nat} {v : α} (h : am_look (t.getD own []) k = some v) : own < t.length ∧ (k, v) ∈ t.getD own [] := by
  refine ⟨?_, am_look_mem h⟩
  rcases Nat.lt_or_ge own t.length with z | z
  · exact z
  · rw [List.getD_eq_getElem?_getD, List.getElem?_eq_none z] at h
    cases h
def tb_fok (e : Nat × Nat × Nat × Nat × Nat) : Bool := decide (e.2.2.2.1 < (tb_Fs.getD e.2.2.1 []).length) && decide (e.2.2.1 < 11) && decide (lw_tbl[e.2.2.2.2]? = some (Cond.fieldLink (tb_nm.getD e.1 "") e.2.1 (tb_u e.2.2.1 e.2.2.2.1).1 (tb_u e.2.2.1 e.2.2.2.1).2.1 (tb_u e.2.2.1 e.2.2.2.1).2.2.1)) && decide ((tb_u e.2.2.1 e.2.2.2.1).1 = tb_nm.getD e.2.2.1 "")
def tb_fp0 : List (Nat × Nat × Nat × Nat × Nat) := [(9, 9, 9, 3, 514), (9, 16, 9, 4, 515), (9, 23, 9, 5, 516), (9, 30, 9, 6, 517), (9, 37, 9, 7, 518), (9, 41, 9, 8, 519), (9, 44, 9, 9, 520), (9, 47, 9, 10, 521), (9, 51, 9, 11, 522), (9, 60, 9, 12, 523), (9, 69, 9, 13, 524), (9, 78, 9, 14, 525), (9, 85, 9, 15, 526), (9, 89, 9, 16, 527), (9, 97, 9, 17, 528), (9, 101, 9, 0, 511), (9, 105, 2, 0, 169), (9, 109, 2, 1, 171), (9, 149, 9, 1, 512), (9, 169, 0, 5, 203)]
theorem tb_fp0_ok : tb_fp0.all tb_fok = true := by decide +kernel
def tb_fp1 : List (Nat × Nat × Nat × Nat × Nat) := [(9, 179, 7, 1, 275), (9, 182, 5, 9, 389), (9, 185, 5, 10, 391), (9, 188, 0, 4, 199), (9, 191, 0, 0, 188), (9, 194, 0, 1, 190), (9, 197, 0, 2, 193), (9, 200, 0, 3, 195), (9, 203, 0, 7, 213), (9, 206, 0, 6, 207), (9, 216, 0, 8, 215), (9, 225, 0, 10, 219), (9, 231, 0, 11, 221), (9, 234, 0, 12, 224), (9, 237, 0, 13, 228), (9, 373, 7, 0, 272), (9, 381, 3, 1, 463), (9, 382, 3, 0, 461), (9, 385, 3, 2, 465), (9, 388, 3, 3, 467)]
theorem tb_fp1_ok : tb_fp1.all tb_fok = true := by decide +kernel
def tb_fp2 : List (Nat × Nat × Nat × Nat × Nat) := [(9, 391, 3, 4, 469), (9, 394, 3, 5, 471), (9, 397, 3, 6, 473), (9, 400, 9, 2, 513), (0, 9, 0, 8, 214), (0, 15, 0, 9, 216), (0, 19, 0, 10, 217), (0, 22, 0, 11, 220), (0, 25, 0, 12, 222), (0, 28, 0, 13, 225), (0, 31, 0, 14, 229), (0, 34, 0, 15, 230), (0, 40, 0, 0, 187), (0, 44, 0, 1, 189), (0, 47, 0, 2, 191), (0, 50, 0, 3, 194), (0, 53, 0, 4, 196), (0, 56, 0, 5, 201), (0, 59, 0, 6, 204), (0, 62, 0, 7, 210)]
theorem tb_fp2_ok : tb_fp2.all tb_fok = true := by decide +kernel
def tb_fp3 : List (Nat × Nat × Nat × Nat × Nat) := [(1, 9, 1, 0, 422), (1, 15, 1, 1, 423), (1, 30, 1, 2, 424), (1, 44, 5, 8, 386), (1, 68, 5, 6, 379), (1, 84, 0, 4, 197), (1, 90, 5, 7, 383), (1, 105, 0, 6, 205), (1, 111, 0, 5, 202), (1, 117, 0, 7, 212), (1, 126, 0, 12, 223), (1, 130, 0, 13, 226), (2, 7, 2, 0, 168), (2, 13, 2, 1, 170), (3, 11, 3, 8, 475), (3, 17, 3, 0, 460), (3, 21, 3, 1, 462), (3, 25, 3, 2, 464), (3, 28, 3, 3, 466), (3, 31, 3, 4, 468)]
theorem tb_fp3_ok : tb_fp3.all tb_fok = true := by decide +kernel
def tb_fp4 : List (Nat × Nat × Nat × Nat × Nat) := [(3, 34, 3, 5, 470), (3, 37, 3, 6, 472), (3, 40, 3, 7, 474), (3, 44, 7, 2, 277), (3, 47, 7, 3, 280), (3, 58, 7, 8, 294), (3, 61, 7, 6, 288), (3, 64, 7, 7, 291), (3, 71, 0, 2, 192), (3, 91, 0, 10, 218), (3, 112, 0, 7, 211), (3, 116, 7, 4, 283), (3, 122, 0, 6, 206), (3, 125, 7, 5, 285), (4, 11, 4, 1, 502), (4, 15, 4, 2, 503), (4, 18, 4, 0, 501), (4, 28, 0, 5, 200), (4, 32, 0, 7, 209), (4, 63, 0, 4, 198)]
theorem tb_fp4_ok : tb_fp4.all tb_fok = true := by decide +kernel
def tb_fp5 : List (Nat × Nat × Nat × Nat × Nat) := [(4, 80, 0, 13, 227), (4, 99, 0, 6, 208), (5, 9, 5, 1, 374), (5, 15, 5, 9, 388), (5, 19, 5, 10, 390), (5, 22, 5, 0, 373), (5, 40, 5, 2, 375), (5, 42, 5, 3, 376), (5, 45, 5, 4, 377), (5, 48, 5, 8, 387), (5, 51, 5, 7, 382), (5, 55, 5, 6, 380), (5, 58, 5, 5, 378), (6, 13, 6, 0, 146), (6, 16, 6, 1, 147), (6, 20, 6, 2, 148), (6, 23, 6, 3, 149), (7, 11, 7, 3, 279), (7, 15, 7, 4, 281), (7, 18, 7, 5, 284)]
theorem tb_fp5_ok : tb_fp5.all tb_fok = true := by decide +kernel
def tb_fp6 : List (Nat × Nat × Nat × Nat × Nat) := [(7, 21, 7, 6, 287), (7, 24, 7, 7, 290), (7, 27, 7, 8, 293), (7, 30, 7, 0, 270), (7, 34, 7, 1, 273), (7, 38, 7, 2, 276), (8, 11, 8, 3, 441), (8, 15, 8, 0, 438), (8, 19, 8, 1, 439), (8, 23, 8, 2, 440), (8, 38, 7, 0, 271), (8, 42, 8, 4, 442), (8, 57, 5, 8, 385), (8, 60, 7, 2, 278), (8, 83, 7, 8, 295), (8, 86, 7, 1, 274), (8, 99, 7, 4, 282), (8, 108, 5, 7, 384), (8, 118, 7, 6, 289), (8, 124, 7, 5, 286)]
theorem tb_fp6_ok : tb_fp6.all tb_fok = true := by decide +kernel
def tb_fp7 : List (Nat × Nat × Nat × Nat × Nat) := [(8, 127, 5, 6, 381), (8, 136, 7, 7, 292), (10, 7, 10, 0, 1299), (10, 13, 10, 1, 1300), (10, 17, 10, 4, 1303), (10, 21, 10, 5, 1304), (10, 24, 10, 6, 1305), (10, 27, 10, 7, 1306), (10, 30, 10, 8, 1307), (10, 34, 10, 9, 1308), (10, 37, 10, 16, 1315), (10, 41, 10, 17, 1316), (10, 44, 10, 21, 1320), (10, 47, 10, 24, 1323), (10, 50, 10, 26, 1325), (10, 53, 10, 27, 1326), (10, 56, 10, 29, 1328), (10, 59, 10, 32, 1331), (10, 62, 10, 33, 1332), (10, 65, 10, 34, 1333)]
theorem tb_fp7_ok : tb_fp7.all tb_fok = true := by decide +kernel
def tb_fp8 : List (Nat × Nat × Nat × Nat × Nat) := [(10, 72, 10, 2, 1301), (10, 75, 10, 3, 1302), (10, 102, 10, 10, 1309), (10, 108, 10, 11, 1310), (10, 111, 10, 14, 1313), (10, 117, 10, 13, 1312), (10, 120, 10, 15, 1314), (10, 123, 10, 12, 1311), (10, 148, 10, 18, 1317), (10, 151, 10, 19, 1318), (10, 206, 10, 20, 1319), (10, 241, 10, 22, 1321), (10, 244, 10, 23, 1322), (10, 302, 10, 25, 1324), (10, 390, 10, 28, 1327), (10, 406, 10, 30, 1329), (10, 416, 10, 31, 1330), (10, 433, 10, 35, 1334), (10, 437, 10, 36, 1335)]
theorem tb_fp8_ok : tb_fp8.all tb_fok = true := by decide +kernel
def tb_fp : List (Nat × Nat × Nat × Nat × Nat) := tb_fp0 ++ tb_fp1 ++ tb_fp2 ++ tb_fp3 ++ tb_fp4 ++ tb_fp5 ++ tb_fp6 ++ tb_fp7 ++ tb_fp8
theorem tb_fp_ok : ∀ e ∈ tb_fp, tb_fok e = true := by
  intro e h
  unfold tb_fp at h
  simp only [List.mem_append] at h
  rcases h with ((((((((h | h) | h) | h) | h) | h) | h) | h) | h)
  · exact List.all_eq_true.mp tb_fp0_ok e h
  · exact List.all_eq_true.mp tb_fp1_ok e h
  · exact List.all_eq_true.mp tb_fp2_ok e h
  · exact List.all_eq_true.mp tb_fp3_ok e h
  · exact List.all_eq_true.mp tb_fp4_ok e h
  · exact List.all_eq_true.mp tb_fp5_ok e h
  · exact List.all_eq_true.mp tb_fp6_ok e h
  · exact List.all_eq_true.mp tb_fp7_ok e h
  · exact List.all_eq_true.mp tb_fp8_ok e h
theorem tb_fcov : (List.range 19).all (fun own => (tb_fs.getD own []).all fun e => tb_fp.any fun x => Nat.beq x.1 own && Nat.beq x.2.1 e.1 && Nat.beq x.2.2.1 e.2.1 && Nat.beq x.2.2.2.1 e.2.2) = true := by decide +kernel
theorem tb_cl_get {ci : Nat} (h : ci < 11) : tb_cl[ci]? = some (tb_nm.getD ci "", tb_u ci, (tb_Fs.getD ci []).length) := by
  match ci, h with
  | 0, _ => rfl
  | 1, _ => rfl
  | 2, _ => rfl
  | 3, _ => rfl
  | 4, _ => rfl
  | 5, _ => rfl
  | 6, _ => rfl
  | 7, _ => rfl
  | 8, _ => rfl
  | 9, _ => rfl
  | 10, _ => rfl
theorem tb_g2 (own k : Nat) (f : Nat × Nat) (h : pFld PP own k = some f) : ∃ (F : u_T) (N : Nat), tb_cl[f.1]? = some (pNm PP f.1, F, N) ∧ f.2 < N ∧ Cond.fieldLink (pNm PP own) k (F f.2).1 (F f.2).2.1 (F f.2).2.2.1 ∈ lw_good ∧ pFin PP f.1 f.2 = (F f.2).2.2.2 ∧ (F f.2).1 = pNm PP f.1 := by
  obtain ⟨h1, h2⟩ := tb_look (t := tb_fs) h
  have h3 := List.all_eq_true.mp (List.all_eq_true.mp tb_fcov own (List.mem_range.mpr h1)) _ h2
  obtain ⟨x, hx, hb⟩ := List.any_eq_true.mp h3
  simp only [Bool.and_eq_true] at hb
  obtain ⟨⟨⟨b1, b2⟩, b3⟩, b4⟩ := hb
  obtain ⟨x1, x2, x3, x4, x5⟩ := x
  have e1 : x1 = own := Nat.eq_of_beq_eq_true b1
  have e2 : x2 = k := Nat.eq_of_beq_eq_true b2
  have e3 : x3 = f.1 := Nat.eq_of_beq_eq_true b3
  have e4 : x4 = f.2 := Nat.eq_of_beq_eq_true b4
  subst e1; subst e2; subst e3; subst e4
  have h4 := tb_fp_ok _ hx
  unfold tb_fok at h4
  simp only [Bool.and_eq_true, decide_eq_true_eq] at h4
  obtain ⟨⟨⟨g1, g2⟩, g3⟩, g4⟩ := h4
  exact ⟨tb_u f.1, _, tb_cl_get g2, g1, lw_in _ g3 rfl, rfl, g4⟩
theorem tb_lay0 : (List.range 16).all (fun k => decide (lw_tbl[([231, 233, 235, 237, 239, 241, 243, 245, 247, 249, 251, 253, 255, 257, 259, 261] : List Nat).getD k 0]? = some (u_lay (tb_nm.getD 0 "") (tb_u 0) k)) && goodWord (u_lay (tb_nm.getD 0 "") (tb_u 0) k)) = true := by decide +kernel
theorem tb_ty0 : ∀ k, k < 16 → parseFieldDescriptor (tb_u 0 k).2.2.1 = some (pTy PP 0 k) := by decide +kernel
theorem tb_nm0 : ∀ a, a < 16 → ∀ b, b < 16 → a ≠ b → (tb_u 0 a).2.1 ≠ (tb_u 0 b).2.1 := by decide +kernel
theorem tb_in0 : Cond.instantiable (tb_nm.getD 0 "") 16 ∈ lw_good := lw_in 178 (by decide +kernel) rfl
theorem tb_it0 : Cond.initialized (tb_nm.getD 0 "") ∈ lw_good := lw_in 115 (by decide +kernel) rfl
theorem tb_lay1 : (List.range 3).all (fun k => decide (lw_tbl[([425, 427, 429] : List Nat).getD k 0]? = some (u_lay (tb_nm.getD 1 "") (tb_u 1) k)) && goodWord (u_lay (tb_nm.getD 1 "") (tb_u 1) k)) = true := by decide +kernel
theorem tb_ty1 : ∀ k, k < 3 → parseFieldDescriptor (tb_u 1 k).2.2.1 = some (pTy PP 1 k) := by decide +kernel
theorem tb_nm1 : ∀ a, a < 3 → ∀ b, b < 3 → a ≠ b → (tb_u 1 a).2.1 ≠ (tb_u 1 b).2.1 := by decide +kernel
theorem tb_in1 : Cond.instantiable (tb_nm.getD 1 "") 3 ∈ lw_good := lw_in 417 (by decide +kernel) rfl
theorem tb_it1 : Cond.initialized (tb_nm.getD 1 "") ∈ lw_good := lw_in 122 (by decide +kernel) rfl
theorem tb_lay2 : (List.range 2).all (fun k => decide (lw_tbl[([172, 174] : List Nat).getD k 0]? = some (u_lay (tb_nm.getD 2 "") (tb_u 2) k)) && goodWord (u_lay (tb_nm.getD 2 "") (tb_u 2) k)) = true := by decide +kernel
theorem tb_ty2 : ∀ k, k < 2 → parseFieldDescriptor (tb_u 2 k).2.2.1 = some (pTy PP 2 k) := by decide +kernel
theorem tb_nm2 : ∀ a, a < 2 → ∀ b, b < 2 → a ≠ b → (tb_u 2 a).2.1 ≠ (tb_u 2 b).2.1 := by decide +kernel
theorem tb_in2 : Cond.instantiable (tb_nm.getD 2 "") 2 ∈ lw_good := lw_in 163 (by decide +kernel) rfl
theorem tb_it2 : Cond.initialized (tb_nm.getD 2 "") ∈ lw_good := lw_in 114 (by decide +kernel) rfl
theorem tb_lay3 : (List.range 9).all (fun k => decide (lw_tbl[([476, 478, 480, 482, 484, 486, 488, 490, 492] : List Nat).getD k 0]? = some (u_lay (tb_nm.getD 3 "") (tb_u 3) k)) && goodWord (u_lay (tb_nm.getD 3 "") (tb_u 3) k)) = true := by decide +kernel
theorem tb_ty3 : ∀ k, k < 9 → parseFieldDescriptor (tb_u 3 k).2.2.1 = some (pTy PP 3 k) := by decide +kernel
theorem tb_nm3 : ∀ a, a < 9 → ∀ b, b < 9 → a ≠ b → (tb_u 3 a).2.1 ≠ (tb_u 3 b).2.1 := by decide +kernel
theorem tb_in3 : Cond.instantiable (tb_nm.getD 3 "") 9 ∈ lw_good := lw_in 455 (by decide +kernel) rfl
theorem tb_it3 : Cond.initialized (tb_nm.getD 3 "") ∈ lw_good := lw_in 124 (by decide +kernel) rfl
theorem tb_lay4 : (List.range 3).all (fun k => decide (lw_tbl[([504, 506, 508] : List Nat).getD k 0]? = some (u_lay (tb_nm.getD 4 "") (tb_u 4) k)) && goodWord (u_lay (tb_nm.getD 4 "") (tb_u 4) k)) = true := by decide +kernel
theorem tb_ty4 : ∀ k, k < 3 → parseFieldDescriptor (tb_u 4 k).2.2.1 = some (pTy PP 4 k) := by decide +kernel
theorem tb_nm4 : ∀ a, a < 3 → ∀ b, b < 3 → a ≠ b → (tb_u 4 a).2.1 ≠ (tb_u 4 b).2.1 := by decide +kernel
theorem tb_in4 : Cond.instantiable (tb_nm.getD 4 "") 3 ∈ lw_good := lw_in 496 (by decide +kernel) rfl
theorem tb_it4 : Cond.initialized (tb_nm.getD 4 "") ∈ lw_good := lw_in 125 (by decide +kernel) rfl
theorem tb_lay5 : (List.range 11).all (fun k => decide (lw_tbl[([392, 394, 396, 398, 400, 402, 404, 406, 408, 410, 412] : List Nat).getD k 0]? = some (u_lay (tb_nm.getD 5 "") (tb_u 5) k)) && goodWord (u_lay (tb_nm.getD 5 "") (tb_u 5) k)) = true := by decide +kernel
theorem tb_ty5 : ∀ k, k < 11 → parseFieldDescriptor (tb_u 5 k).2.2.1 = some (pTy PP 5 k) := by decide +kernel
theorem tb_nm5 : ∀ a, a < 11 → ∀ b, b < 11 → a ≠ b → (tb_u 5 a).2.1 ≠ (tb_u 5 b).2.1 := by decide +kernel
theorem tb_in5 : Cond.instantiable (tb_nm.getD 5 "") 11 ∈ lw_good := lw_in 318 (by decide +kernel) rfl
theorem tb_it5 : Cond.initialized (tb_nm.getD 5 "") ∈ lw_good := lw_in 117 (by decide +kernel) rfl
theorem tb_lay6 : (List.range 4).all (fun k => decide (lw_tbl[([150, 152, 154, 156] : List Nat).getD k 0]? = some (u_lay (tb_nm.getD 6 "") (tb_u 6) k)) && goodWord (u_lay (tb_nm.getD 6 "") (tb_u 6) k)) = true := by decide +kernel
theorem tb_ty6 : ∀ k, k < 4 → parseFieldDescriptor (tb_u 6 k).2.2.1 = some (pTy PP 6 k) := by decide +kernel
theorem tb_nm6 : ∀ a, a < 4 → ∀ b, b < 4 → a ≠ b → (tb_u 6 a).2.1 ≠ (tb_u 6 b).2.1 := by decide +kernel
theorem tb_in6 : Cond.instantiable (tb_nm.getD 6 "") 4 ∈ lw_good := lw_in 139 (by decide +kernel) rfl
theorem tb_it6 : Cond.initialized (tb_nm.getD 6 "") ∈ lw_good := lw_in 113 (by decide +kernel) rfl
theorem tb_lay7 : (List.range 9).all (fun k => decide (lw_tbl[([296, 298, 300, 302, 304, 306, 308, 310, 312] : List Nat).getD k 0]? = some (u_lay (tb_nm.getD 7 "") (tb_u 7) k)) && goodWord (u_lay (tb_nm.getD 7 "") (tb_u 7) k)) = true := by decide +kernel
theorem tb_ty7 : ∀ k, k < 9 → parseFieldDescriptor (tb_u 7 k).2.2.1 = some (pTy PP 7 k) := by decide +kernel
theorem tb_nm7 : ∀ a, a < 9 → ∀ b, b < 9 → a ≠ b → (tb_u 7 a).2.1 ≠ (tb_u 7 b).2.1 := by decide +kernel
theorem tb_in7 : Cond.instantiable (tb_nm.getD 7 "") 9 ∈ lw_good := lw_in 265 (by decide +kernel) rfl
theorem tb_it7 : Cond.initialized (tb_nm.getD 7 "") ∈ lw_good := lw_in 116 (by decide +kernel) rfl
theorem tb_lay8 : (List.range 5).all (fun k => decide (lw_tbl[([443, 445, 447, 449, 451] : List Nat).getD k 0]? = some (u_lay (tb_nm.getD 8 "") (tb_u 8) k)) && goodWord (u_lay (tb_nm.getD 8 "") (tb_u 8) k)) = true := by decide +kernel
theorem tb_ty8 : ∀ k, k < 5 → parseFieldDescriptor (tb_u 8 k).2.2.1 = some (pTy PP 8 k) := by decide +kernel
theorem tb_nm8 : ∀ a, a < 5 → ∀ b, b < 5 → a ≠ b → (tb_u 8 a).2.1 ≠ (tb_u 8 b).2.1 := by decide +kernel
theorem tb_in8 : Cond.instantiable (tb_nm.getD 8 "") 5 ∈ lw_good := lw_in 433 (by decide +kernel) rfl
theorem tb_it8 : Cond.initialized (tb_nm.getD 8 "") ∈ lw_good := lw_in 123 (by decide +kernel) rfl
theorem tb_lay9 : (List.range 18).all (fun k => decide (lw_tbl[([529, 531, 533, 535, 537, 539, 541, 543, 545, 547, 549, 551, 553, 555, 557, 559, 561, 563] : List Nat).getD k 0]? = some (u_lay (tb_nm.getD 9 "") (tb_u 9) k)) && goodWord (u_lay (tb_nm.getD 9 "") (tb_u 9) k)) = true := by decide +kernel
theorem tb_ty9 : ∀ k, k < 18 → parseFieldDescriptor (tb_u 9 k).2.2.1 = some (pTy PP 9 k) := by decide +kernel
theorem tb_nm9 : ∀ a, a < 18 → ∀ b, b < 18 → a ≠ b → (tb_u 9 a).2.1 ≠ (tb_u 9 b).2.1 := by decide +kernel
theorem tb_in9 : Cond.instantiable (tb_nm.getD 9 "") 18 ∈ lw_good := lw_in 131 (by decide +kernel) rfl
theorem tb_it9 : Cond.initialized (tb_nm.getD 9 "") ∈ lw_good := lw_in 112 (by decide +kernel) rfl
theorem tb_lay10 : (List.range 37).all (fun k => decide (lw_tbl[([1336, 1338, 1340, 1342, 1344, 1346, 1348, 1350, 1352, 1354, 1356, 1358, 1360, 1362, 1364, 1366, 1368, 1370, 1372, 1374, 1376, 1378, 1380, 1382, 1384, 1386, 1388, 1390, 1392, 1394, 1396, 1398, 1400, 1402, 1404, 1406, 1408] : List Nat).getD k 0]? = some (u_lay (tb_nm.getD 10 "") (tb_u 10) k)) && goodWord (u_lay (tb_nm.getD 10 "") (tb_u 10) k)) = true := by decide +kernel
theorem tb_ty10 : ∀ k, k < 37 → parseFieldDescriptor (tb_u 10 k).2.2.1 = some (pTy PP 10 k) := by decide +kernel
theorem tb_nm10 : ∀ a, a < 37 → ∀ b, b < 37 → a ≠ b → (tb_u 10 a).2.1 ≠ (tb_u 10 b).2.1 := by decide +kernel
theorem tb_in10 : Cond.instantiable (tb_nm.getD 10 "") 37 ∈ lw_good := lw_in 1290 (by decide +kernel) rfl
theorem tb_it10 : Cond.initialized (tb_nm.getD 10 "") ∈ lw_good := lw_in 126 (by decide +kernel) rfl
theorem tb_lays {ci n : Nat} {ps : List Nat} (h : (List.range n).all (fun k => decide (lw_tbl[ps.getD k 0]? = some (u_lay (tb_nm.getD ci "") (tb_u ci) k)) && goodWord (u_lay (tb_nm.getD ci "") (tb_u ci) k)) = true) : ∀ w ∈ u_ws (tb_nm.getD ci "") (tb_u ci) n, w ∈ lw_good := by
  intro w hw
  obtain ⟨k, hk, rfl⟩ := List.mem_map.mp hw
  have h1 := List.all_eq_true.mp h k hk
  simp only [Bool.and_eq_true, decide_eq_true_eq] at h1
  exact lw_in _ h1.1 h1.2
theorem tb_g3 (ci : Nat) (C : String) (F : u_T) (N : Nat) (h : tb_cl[ci]? = some (C, F, N)) : C = pNm PP ci ∧ N = pNf PP ci ∧ (∀ w ∈ u_ws C F N, w ∈ lw_good) ∧ (∀ k, k < N → parseFieldDescriptor (F k).2.2.1 = some (pTy PP ci k)) ∧ (∀ a, a < N → ∀ b, b < N → a ≠ b → (F a).2.1 ≠ (F b).2.1) ∧ Cond.instantiable C N ∈ lw_good ∧ Cond.initialized C ∈ lw_good := by
  have hlt : ci < 11 := (List.getElem?_eq_some_iff.mp h).1
  match ci, hlt, h with
  | 0, _, h => cases h; exact ⟨rfl, rfl, tb_lays tb_lay0, tb_ty0, tb_nm0, tb_in0, tb_it0⟩
  | 1, _, h => cases h; exact ⟨rfl, rfl, tb_lays tb_lay1, tb_ty1, tb_nm1, tb_in1, tb_it1⟩
  | 2, _, h => cases h; exact ⟨rfl, rfl, tb_lays tb_lay2, tb_ty2, tb_nm2, tb_in2, tb_it2⟩
  | 3, _, h => cases h; exact ⟨rfl, rfl, tb_lays tb_lay3, tb_ty3, tb_nm3, tb_in3, tb_it3⟩
  | 4, _, h => cases h; exact ⟨rfl, rfl, tb_lays tb_lay4, tb_ty4, tb_nm4, tb_in4, tb_it4⟩
  | 5, _, h => cases h; exact ⟨rfl, rfl, tb_lays tb_lay5, tb_ty5, tb_nm5, tb_in5, tb_it5⟩
  | 6, _, h => cases h; exact ⟨rfl, rfl, tb_lays tb_lay6, tb_ty6, tb_nm6, tb_in6, tb_it6⟩
  | 7, _, h => cases h; exact ⟨rfl, rfl, tb_lays tb_lay7, tb_ty7, tb_nm7, tb_in7, tb_it7⟩
  | 8, _, h => cases h; exact ⟨rfl, rfl, tb_lays tb_lay8, tb_ty8, tb_nm8, tb_in8, tb_it8⟩
  | 9, _, h => cases h; exact ⟨rfl, rfl, tb_lays tb_lay9, tb_ty9, tb_nm9, tb_in9, tb_it9⟩
  | 10, _, h => cases h; exact ⟨rfl, rfl, tb_lays tb_lay10, tb_ty10, tb_nm10, tb_in10, tb_it10⟩
def tb_kp : List (Nat × Nat × Value) := [(9, 139, .long (-1)), (3, 43, .int (100000)), (3, 115, .int (65536)), (5, 26, .retAddr 2), (5, 38, .long (32)), (6, 11, .double 3), (11, 32, .long (4294967295)), (10, 100, .long (-1)), (10, 132, .int (100000)), (10, 171, .retAddr 4), (10, 324, .long (9)), (10, 329, .long (5)), (10, 331, .long (3)), (10, 333, .long (16)), (10, 363, .long (60)), (10, 374, .long (20)), (10, 400, .long (12)), (10, 409, .int (65536)), (10, 428, .long (9999)), (12, 265, .int (1431655765)), (12, 266, .int (858993459)), (12, 267, .int (252645135)), (14, 9, .float 2), (14, 15, .float 1), (14, 38, .double 1), (14, 1053, .double 2)]
theorem tb_kp_ok : ∀ e ∈ tb_kp, am_cok TT e.1 e.2.1 e.2.2 := List.forall_mem_cons.mpr ⟨(lw_in 625 (by decide +kernel) rfl), List.forall_mem_cons.mpr ⟨(lw_in 1242 (by decide +kernel) rfl), List.forall_mem_cons.mpr ⟨(lw_in 1262 (by decide +kernel) rfl), List.forall_mem_cons.mpr ⟨(trivial), List.forall_mem_cons.mpr ⟨(lw_in 372 (by decide +kernel) rfl), List.forall_mem_cons.mpr ⟨(trivial), List.forall_mem_cons.mpr ⟨(lw_in 1996 (by decide +kernel) rfl), List.forall_mem_cons.mpr ⟨(lw_in 1449 (by decide +kernel) rfl), List.forall_mem_cons.mpr ⟨(lw_in 1488 (by decide +kernel) rfl), List.forall_mem_cons.mpr ⟨(trivial), List.forall_mem_cons.mpr ⟨(lw_in 1708 (by decide +kernel) rfl), List.forall_mem_cons.mpr ⟨(lw_in 1728 (by decide +kernel) rfl), List.forall_mem_cons.mpr ⟨(lw_in 1737 (by decide +kernel) rfl), List.forall_mem_cons.mpr ⟨(lw_in 1738 (by decide +kernel) rfl), List.forall_mem_cons.mpr ⟨(lw_in 1851 (by decide +kernel) rfl), List.forall_mem_cons.mpr ⟨(lw_in 1880 (by decide +kernel) rfl), List.forall_mem_cons.mpr ⟨(lw_in 1933 (by decide +kernel) rfl), List.forall_mem_cons.mpr ⟨(lw_in 1967 (by decide +kernel) rfl), List.forall_mem_cons.mpr ⟨(lw_in 1950 (by decide +kernel) rfl), List.forall_mem_cons.mpr ⟨(lw_in 909 (by decide +kernel) rfl), List.forall_mem_cons.mpr ⟨(lw_in 910 (by decide +kernel) rfl), List.forall_mem_cons.mpr ⟨(lw_in 911 (by decide +kernel) rfl), List.forall_mem_cons.mpr ⟨(lw_in 1997 (by decide +kernel) rfl), List.forall_mem_cons.mpr ⟨(lw_in 1998 (by decide +kernel) rfl), List.forall_mem_cons.mpr ⟨(lw_in 332 (by decide +kernel) rfl), List.forall_mem_cons.mpr ⟨(lw_in 348 (by decide +kernel) rfl), fun _ h => absurd h List.not_mem_nil⟩⟩⟩⟩⟩⟩⟩⟩⟩⟩⟩⟩⟩⟩⟩⟩⟩⟩⟩⟩⟩⟩⟩⟩⟩⟩
theorem tb_kcov : (List.range 19).all (fun own => (tb_ks.getD own []).all fun e => tb_kp.any fun x => decide (x = (own, e.1, e.2))) = true := by decide +kernel
theorem tb_g4 (own k : Nat) (v : Value) (h : pCst PP own k = some v) : am_cok TT own k v := by
  obtain ⟨h1, h2⟩ := tb_look (t := tb_ks) h
  have h3 := List.all_eq_true.mp (List.all_eq_true.mp tb_kcov own (List.mem_range.mpr h1)) _ h2
  obtain ⟨x, hx, hb⟩ := List.any_eq_true.mp h3
  have e := of_decide_eq_true hb
  subst e
  exact tb_kp_ok _ hx
def tb_cp : List (Nat × Nat × Nat × Nat) := [(9, 13, 6, 138), (9, 20, 2, 162), (9, 27, 0, 177), (9, 34, 7, 264), (9, 55, 5, 317), (9, 64, 1, 416), (9, 73, 8, 432), (9, 82, 3, 454), (9, 92, 4, 495), (11, 7, 9, 130), (11, 10, 10, 1289)]
theorem tb_cp_ok : tb_cp.all (fun e => decide (e.2.2.1 < 11) && decide (lw_tbl[e.2.2.2]? = some (Cond.classLink (tb_nm.getD e.1 "") e.2.1 (tb_nm.getD e.2.2.1 "")))) = true := by decide +kernel
theorem tb_ccov : (List.range 19).all (fun own => (tb_cs.getD own []).all fun e => tb_cp.any fun x => Nat.beq x.1 own && Nat.beq x.2.1 e.1 && Nat.beq x.2.2.1 e.2) = true := by decide +kernel
theorem tb_g5 (own k ci : Nat) (h : pCls PP own k = some ci) : ∃ (F : u_T) (N : Nat), tb_cl[ci]? = some (pNm PP ci, F, N) ∧ Cond.classLink (pNm PP own) k (pNm PP ci) ∈ lw_good := by
  obtain ⟨h1, h2⟩ := tb_look (t := tb_cs) h
  have h3 := List.all_eq_true.mp (List.all_eq_true.mp tb_ccov own (List.mem_range.mpr h1)) _ h2
  obtain ⟨x, hx, hb⟩ := List.any_eq_true.mp h3
  simp only [Bool.and_eq_true] at hb
  obtain ⟨⟨b1, b2⟩, b3⟩ := hb
  obtain ⟨x1, x2, x3, x4⟩ := x
  have e1 : x1 = own := Nat.eq_of_beq_eq_true b1
  have e2 : x2 = k := Nat.eq_of_beq_eq_true b2
  have e3 : x3 = ci := Nat.eq_of_beq_eq_true b3
  subst e1; subst e2; subst e3
  have h4 := List.all_eq_true.mp tb_cp_ok _ hx
  simp only [Bool.and_eq_true, decide_eq_true_eq] at h4
  exact ⟨tb_u x3, _, tb_cl_get h4.1, lw_in _ h4.2 rfl⟩
end
section
/-! links of methods, and the methods themselves -/
theorem tb_o1 : Cond.instanceMethod objectInit ∈ lw_good := lw_in 136 (by decide +kernel) rfl
theorem tb_o2 : Cond.code objectInit ⟨#[0xb1]⟩ 1 none ∈ lw_good := lw_in 137 (by decide +kernel) rfl
theorem tb_a1 : Cond.native arraycopyName ∈ lw_good := lw_in 640 (by decide +kernel) rfl
theorem tb_a2 : Cond.static arraycopyName ∈ lw_good := lw_in 639 (by decide +kernel) rfl
theorem tb_a3 : Cond.initialized "java/lang/System" ∈ lw_good := lw_in 127 (by decide +kernel) rfl
def tb_mnm (y : Nat) : MethodName := match y with
  | 0 => objectInit
  | 1 => arraycopyName
  | 2 => Lib.Math.max.name
  | 3 => Lib.Math.min.name
  | y => tb_na y
theorem tb_xmax1 : Cond.static Lib.Math.max.name ∈ lw_good := lw_in 1162 (by decide +kernel) rfl
theorem tb_xmax2 : Cond.code Lib.Math.max.name Lib.Math.max.code 2 (some .int) ∈ lw_good := lw_in 1163 (by decide +kernel) rfl
theorem tb_xmin1 : Cond.static Lib.Math.min.name ∈ lw_good := lw_in 917 (by decide +kernel) rfl
theorem tb_xmin2 : Cond.code Lib.Math.min.name Lib.Math.min.code 2 (some .int) ∈ lw_good := lw_in 918 (by decide +kernel) rfl
theorem tb_xi : Cond.initialized "java/lang/Math" ∈ lw_good := lw_in 128 (by decide +kernel) rfl
def tb_mok1 (e : Nat × Nat × Nat × Nat) : Bool := decide (lw_tbl[e.2.2.2]? = some (Cond.methodLink (tb_nm.getD e.1 "") e.2.1 (tb_mnm e.2.2.1)))
def tb_mp0 : List (Nat × Nat × Nat × Nat) := [(9, 1, 0, 135), (9, 29, 4, 179), (9, 57, 73, 319), (9, 66, 31, 418), (9, 75, 102, 434), (9, 94, 50, 497), (9, 112, 88, 582), (9, 116, 119, 586), (9, 120, 118, 589), (9, 123, 91, 593), (9, 127, 92, 601), (9, 131, 93, 610), (9, 135, 94, 621), (9, 141, 95, 630), (9, 145, 96, 634), (9, 152, 125, 645), (9, 156, 117, 653), (9, 160, 32, 657), (9, 163, 6, 762), (9, 166, 99, 767), (9, 172, 116, 771), (9, 175, 103, 779), (9, 176, 100, 833), (9, 209, 18, 846), (9, 213, 7, 854), (9, 219, 19, 858), (9, 222, 8, 866), (9, 228, 24, 870), (9, 240, 20, 878), (9, 243, 29, 886), (9, 247, 30, 890), (9, 250, 21, 923), (9, 254, 22, 931), (9, 257, 328, 935), (9, 262, 16, 956), (9, 266, 17, 961), (9, 270, 9, 966), (9, 274, 11, 978), (9, 277, 142, 974), (9, 280, 51, 979)]
theorem tb_mp0_ok : tb_mp0.all tb_mok1 = true := by decide +kernel
def tb_mp1 : List (Nat × Nat × Nat × Nat) := [(9, 283, 28, 989), (9, 286, 52, 997), (9, 289, 53, 1006), (9, 292, 10, 1014), (9, 295, 54, 1018), (9, 298, 55, 1026), (9, 301, 56, 1034), (9, 304, 57, 1042), (9, 307, 59, 1058), (9, 310, 60, 1067), (9, 313, 62, 1077), (9, 316, 63, 1089), (9, 319, 61, 1101), (9, 322, 64, 1106), (9, 325, 159, 1114), (9, 328, 12, 1118), (9, 331, 89, 1138), (9, 334, 90, 1139), (9, 337, 23, 1147), (9, 341, 163, 1134), (9, 344, 164, 1143), (9, 347, 65, 1156), (9, 350, 66, 1168), (9, 353, 68, 1184), (9, 356, 69, 1193), (9, 360, 71, 1203), (9, 363, 72, 1211), (9, 366, 174, 1219), (9, 369, 41, 1222), (9, 377, 43, 1238), (0, 3, 0, 182), (0, 37, 5, 183), (0, 65, 1, 766), (0, 71, 11, 912), (0, 75, 23, 874), (0, 79, 328, 906), (0, 85, 26, 902), (0, 89, 25, 894), (0, 93, 27, 898), (0, 96, 3, 916)]
theorem tb_mp1_ok : tb_mp1.all tb_mok1 = true := by decide +kernel
def tb_mp2 : List (Nat × Nat × Nat × Nat) := [(1, 3, 0, 421), (1, 19, 74, 661), (1, 25, 5, 665), (1, 34, 76, 666), (1, 38, 79, 682), (1, 41, 33, 686), (1, 47, 34, 690), (1, 51, 36, 712), (1, 54, 37, 745), (1, 57, 39, 758), (1, 60, 75, 694), (1, 64, 86, 695), (1, 71, 17, 700), (1, 74, 85, 704), (1, 77, 13, 728), (1, 81, 14, 732), (1, 87, 83, 716), (1, 94, 35, 724), (1, 98, 84, 736), (1, 101, 15, 740), (1, 108, 82, 744), (1, 114, 16, 749), (1, 120, 38, 753), (1, 123, 80, 757), (2, 1, 0, 167), (3, 3, 0, 459), (3, 50, 44, 1243), (3, 54, 45, 1247), (3, 67, 47, 1251), (3, 76, 48, 1258), (3, 80, 21, 1263), (3, 84, 46, 1264), (3, 88, 22, 1268), (3, 94, 49, 1269), (3, 98, 29, 1255), (3, 102, 30, 1256), (3, 106, 328, 1257), (3, 119, 11, 1272), (4, 3, 0, 500), (4, 22, 25, 983)]
theorem tb_mp2_ok : tb_mp2.all tb_mok1 = true := by decide +kernel
def tb_mp3 : List (Nat × Nat × Nat × Nat) := [(4, 35, 26, 984), (4, 39, 27, 1001), (4, 43, 58, 1046), (4, 47, 328, 1049), (4, 53, 28, 1062), (4, 56, 11, 1071), (4, 60, 59, 1072), (4, 66, 61, 1093), (4, 69, 23, 1160), (4, 72, 2, 1161), (4, 77, 67, 1172), (4, 83, 20, 1188), (4, 86, 70, 1197), (4, 90, 3, 1201), (4, 93, 1, 1202), (5, 3, 0, 322), (5, 28, 329, 324), (5, 34, 330, 334), (5, 61, 77, 670), (5, 64, 78, 674), (5, 68, 75, 678), (5, 72, 76, 699), (5, 75, 80, 720), (5, 78, 82, 708), (6, 3, 0, 143), (6, 27, 88, 605), (6, 31, 89, 606), (6, 34, 97, 614), (6, 38, 1, 638), (7, 5, 0, 269), (7, 41, 1, 837), (8, 3, 0, 437), (8, 27, 74, 783), (8, 33, 99, 784), (8, 46, 76, 785), (8, 50, 79, 786), (8, 53, 75, 787), (8, 63, 104, 788), (8, 66, 105, 796), (8, 69, 107, 800)]
theorem tb_mp3_ok : tb_mp3.all tb_mok1 = true := by decide +kernel
def tb_mp4 : List (Nat × Nat × Nat × Nat) := [(8, 72, 106, 828), (8, 76, 85, 832), (8, 79, 101, 792), (8, 89, 108, 810), (8, 92, 109, 804), (8, 95, 111, 823), (8, 102, 110, 815), (8, 105, 83, 808), (8, 112, 13, 814), (8, 121, 14, 809), (8, 130, 81, 819), (8, 133, 86, 827), (11, 9, 112, 132), (11, 12, 182, 1291), (11, 13, 113, 566), (11, 17, 184, 1411), (11, 18, 114, 570), (11, 22, 185, 1415), (11, 23, 115, 574), (11, 26, 186, 1419), (11, 27, 120, 578), (11, 31, 194, 1423), (11, 34, 121, 597), (11, 38, 196, 1434), (11, 39, 122, 617), (11, 43, 197, 1445), (11, 44, 123, 626), (11, 48, 198, 1450), (11, 49, 124, 641), (11, 53, 200, 1454), (11, 54, 126, 649), (11, 58, 228, 1466), (11, 59, 127, 775), (11, 62, 234, 1580), (11, 63, 128, 838), (11, 66, 216, 1462), (11, 67, 129, 842), (11, 70, 251, 1604), (11, 71, 130, 850), (11, 75, 253, 1624)]
theorem tb_mp4_ok : tb_mp4.all tb_mok1 = true := by decide +kernel
def tb_mp5 : List (Nat × Nat × Nat × Nat) := [(11, 76, 131, 862), (11, 79, 254, 1640), (11, 80, 132, 882), (11, 83, 259, 1669), (11, 84, 133, 919), (11, 88, 261, 1688), (11, 89, 134, 927), (11, 92, 263, 1696), (11, 93, 135, 936), (11, 97, 265, 1704), (11, 98, 136, 940), (11, 102, 266, 1716), (11, 103, 137, 944), (11, 106, 267, 1720), (11, 107, 138, 948), (11, 110, 268, 1724), (11, 111, 139, 952), (11, 114, 269, 1729), (11, 115, 140, 957), (11, 118, 270, 1733), (11, 119, 141, 962), (11, 122, 271, 1739), (11, 123, 143, 970), (11, 126, 272, 1751), (11, 127, 144, 985), (11, 130, 273, 1759), (11, 131, 145, 993), (11, 134, 274, 1763), (11, 135, 146, 1002), (11, 138, 275, 1767), (11, 139, 147, 1010), (11, 142, 277, 1771), (11, 143, 148, 1022), (11, 146, 278, 1783), (11, 147, 149, 1030), (11, 150, 279, 1787), (11, 151, 150, 1038), (11, 154, 281, 1791), (11, 155, 151, 1050), (11, 158, 282, 1799)]
theorem tb_mp5_ok : tb_mp5.all tb_mok1 = true := by decide +kernel
def tb_mp6 : List (Nat × Nat × Nat × Nat) := [(11, 159, 152, 1054), (11, 162, 284, 1803), (11, 163, 153, 1063), (11, 166, 285, 1811), (11, 167, 154, 1073), (11, 170, 287, 1819), (11, 171, 155, 1081), (11, 174, 288, 1827), (11, 175, 156, 1085), (11, 178, 290, 1831), (11, 179, 157, 1097), (11, 182, 291, 1839), (11, 183, 158, 1102), (11, 186, 292, 1843), (11, 187, 160, 1110), (11, 190, 296, 1847), (11, 191, 161, 1122), (11, 194, 297, 1864), (11, 195, 162, 1126), (11, 198, 298, 1868), (11, 199, 165, 1130), (11, 203, 302, 1872), (11, 204, 166, 1148), (11, 208, 303, 1889), (11, 209, 167, 1152), (11, 212, 304, 1893), (11, 213, 168, 1164), (11, 216, 306, 1897), (11, 217, 169, 1176), (11, 220, 307, 1905), (11, 221, 170, 1180), (11, 224, 308, 1909), (11, 225, 171, 1189), (11, 228, 311, 1913), (11, 229, 172, 1207), (11, 232, 312, 1925), (11, 233, 173, 1215), (11, 236, 313, 1929), (11, 237, 175, 1226), (11, 241, 314, 1938)]
theorem tb_mp6_ok : tb_mp6.all tb_mok1 = true := by decide +kernel
def tb_mp7 : List (Nat × Nat × Nat × Nat) := [(11, 242, 176, 1230), (11, 245, 315, 1942), (11, 246, 177, 1234), (11, 249, 322, 1946), (11, 250, 178, 1273), (11, 253, 323, 1976), (11, 254, 179, 1277), (11, 257, 324, 1980), (11, 258, 180, 1281), (11, 261, 326, 1984), (11, 262, 181, 1285), (11, 265, 327, 1992), (10, 1, 0, 1294), (10, 68, 183, 1295), (10, 78, 188, 1490), (10, 82, 189, 1576), (10, 85, 187, 1430), (10, 89, 192, 1427), (10, 92, 195, 1438), (10, 96, 193, 1442), (10, 105, 201, 1458), (10, 114, 202, 1478), (10, 126, 203, 1482), (10, 129, 204, 1485), (10, 133, 3, 1489), (10, 138, 329, 1503), (10, 144, 330, 1504), (10, 154, 205, 1474), (10, 157, 206, 1568), (10, 160, 208, 1505), (10, 163, 207, 1499), (10, 167, 214, 1529), (10, 173, 213, 1521), (10, 177, 215, 1525), (10, 180, 220, 1517), (10, 184, 211, 1533), (10, 188, 212, 1509), (10, 191, 219, 1537), (10, 194, 218, 1545), (10, 197, 223, 1548)]
theorem tb_mp7_ok : tb_mp7.all tb_mok1 = true := by decide +kernel
def tb_mp8 : List (Nat × Nat × Nat × Nat) := [(10, 200, 221, 1560), (10, 203, 225, 1556), (10, 209, 222, 1513), (10, 213, 224, 1541), (10, 216, 226, 1552), (10, 219, 210, 1564), (10, 222, 209, 1470), (10, 226, 227, 1494), (10, 229, 217, 1572), (10, 232, 230, 1592), (10, 235, 229, 1596), (10, 238, 231, 1600), (10, 247, 232, 1588), (10, 250, 233, 1584), (10, 253, 237, 1747), (10, 256, 199, 1709), (10, 260, 238, 1612), (10, 263, 241, 1636), (10, 266, 243, 1620), (10, 269, 246, 1661), (10, 272, 248, 1652), (10, 275, 2, 1656), (10, 278, 244, 1608), (10, 281, 250, 1616), (10, 284, 235, 1628), (10, 287, 252, 1632), (10, 290, 236, 1644), (10, 293, 249, 1648), (10, 296, 245, 1657), (10, 299, 247, 1665), (10, 305, 242, 1685), (10, 308, 255, 1681), (10, 312, 256, 1677), (10, 315, 258, 1673), (10, 318, 260, 1692), (10, 321, 262, 1700), (10, 326, 264, 1712), (10, 335, 239, 1743), (10, 339, 257, 1755), (10, 342, 240, 1775)]
theorem tb_mp8_ok : tb_mp8.all tb_mok1 = true := by decide +kernel
def tb_mp9 : List (Nat × Nat × Nat × Nat) := [(10, 345, 276, 1779), (10, 348, 280, 1795), (10, 351, 283, 1807), (10, 354, 190, 1815), (10, 357, 286, 1823), (10, 360, 289, 1835), (10, 365, 293, 1852), (10, 368, 295, 1856), (10, 371, 294, 1860), (10, 376, 300, 1885), (10, 380, 299, 1876), (10, 384, 301, 1881), (10, 387, 305, 1901), (10, 393, 309, 1921), (10, 397, 310, 1917), (10, 402, 191, 1934), (10, 410, 317, 1959), (10, 413, 316, 1963), (10, 419, 318, 1955), (10, 422, 319, 1968), (10, 425, 320, 1972), (10, 430, 321, 1951), (10, 440, 325, 1988), (14, 335, 331, 328), (14, 492, 332, 338), (14, 495, 334, 342), (14, 498, 337, 353), (14, 1059, 339, 350), (15, 9, 333, 345), (16, 48, 336, 359), (16, 67, 338, 356), (16, 71, 335, 363), (16, 414, 333, 362)]
theorem tb_mp9_ok : tb_mp9.all tb_mok1 = true := by decide +kernel
def tb_mp : List (Nat × Nat × Nat × Nat) := tb_mp0 ++ tb_mp1 ++ tb_mp2 ++ tb_mp3 ++ tb_mp4 ++ tb_mp5 ++ tb_mp6 ++ tb_mp7 ++ tb_mp8 ++ tb_mp9
theorem tb_mp_ok : ∀ e ∈ tb_mp, tb_mok1 e = true := by
  intro e h
  unfold tb_mp at h
  simp only [List.mem_append] at h
  rcases h with (((((((((h | h) | h) | h) | h) | h) | h) | h) | h) | h)
  · exact List.all_eq_true.mp tb_mp0_ok e h
  · exact List.all_eq_true.mp tb_mp1_ok e h
  · exact List.all_eq_true.mp tb_mp2_ok e h
  · exact List.all_eq_true.mp tb_mp3_ok e h
  · exact List.all_eq_true.mp tb_mp4_ok e h
  · exact List.all_eq_true.mp tb_mp5_ok e h
  · exact List.all_eq_true.mp tb_mp6_ok e h
  · exact List.all_eq_true.mp tb_mp7_ok e h
  · exact List.all_eq_true.mp tb_mp8_ok e h
  · exact List.all_eq_true.mp tb_mp9_ok e h
def tb_np : List (Nat × Nat × Nat) := [(9, 15, 87), (9, 22, 40), (9, 36, 98), (9, 84, 42)]
theorem tb_np_ok : ∀ e ∈ tb_np, am_lnk TT e.1 e.2.1 e.2.2 := List.forall_mem_cons.mpr ⟨Or.inr ⟨rfl, "IslandCall", List.mem_of_getElem? (i := 0) rfl⟩, List.forall_mem_cons.mpr ⟨Or.inr ⟨rfl, "IslandCall", List.mem_of_getElem? (i := 1) rfl⟩, List.forall_mem_cons.mpr ⟨Or.inr ⟨rfl, "IslandCall", List.mem_of_getElem? (i := 2) rfl⟩, List.forall_mem_cons.mpr ⟨Or.inr ⟨rfl, "IslandCall", List.mem_of_getElem? (i := 3) rfl⟩, fun _ h => absurd h List.not_mem_nil⟩⟩⟩⟩
theorem tb_mcov : (List.range 19).all (fun own => (tb_ms.getD own []).all fun e => (tb_mp.any fun x => Nat.beq x.1 own && Nat.beq x.2.1 e.1 && Nat.beq x.2.2.1 e.2) || tb_np.any fun x => Nat.beq x.1 own && Nat.beq x.2.1 e.1 && Nat.beq x.2.2 e.2) = true := by decide +kernel
theorem tb_g6 (own k y : Nat) (h : pMth PP own k = some y) : am_lnk TT own k y := by
  obtain ⟨h1, h2⟩ := tb_look (t := tb_ms) h
  have h3 := List.all_eq_true.mp (List.all_eq_true.mp tb_mcov own (List.mem_range.mpr h1)) _ h2
  simp only [Bool.or_eq_true] at h3
  rcases h3 with h3 | h3
  · obtain ⟨x, hx, hb⟩ := List.any_eq_true.mp h3
    simp only [Bool.and_eq_true] at hb
    obtain ⟨⟨b1, b2⟩, b3⟩ := hb
    obtain ⟨x1, x2, x3, x4⟩ := x
    have e1 : x1 = own := Nat.eq_of_beq_eq_true b1
    have e2 : x2 = k := Nat.eq_of_beq_eq_true b2
    have e3 : x3 = y := Nat.eq_of_beq_eq_true b3
    subst e1; subst e2; subst e3
    have h4 : lw_tbl[x4]? = some (Cond.methodLink (tb_nm.getD x1 "") x2 (tb_mnm x3)) := of_decide_eq_true (tb_mp_ok _ hx)
    have h5 := lw_in _ h4 rfl
    match x3, h5 with
    | 0, h5 => exact ⟨h5, tb_o1, tb_o2⟩
    | 1, h5 => exact ⟨h5, tb_a1, tb_a2, tb_a3⟩
    | 2, h5 => exact ⟨h5, tb_xmax1, tb_xi, tb_xmax2⟩
    | 3, h5 => exact ⟨h5, tb_xmin1, tb_xi, tb_xmin2⟩
    | n + 4, h5 => exact Or.inl h5
  · obtain ⟨x, hx, hb⟩ := List.any_eq_true.mp h3
    simp only [Bool.and_eq_true] at hb
    obtain ⟨⟨b1, b2⟩, b3⟩ := hb
    obtain ⟨x1, x2, x3⟩ := x
    have e1 : x1 = own := Nat.eq_of_beq_eq_true b1
    have e2 : x2 = k := Nat.eq_of_beq_eq_true b2
    have e3 : x3 = y := Nat.eq_of_beq_eq_true b3
    subst e1; subst e2; subst e3
    exact tb_np_ok _ hx
theorem lw_i1 {w : Cond} (i : Nat) (h : tables_1_1[i]? = some w) (g : goodWord w = true) : w ∈ lw_good := List.mem_filter.mpr ⟨List.mem_append_right _ (show w ∈ tables_1 from (List.mem_append_left _ (List.mem_of_getElem? h))), g⟩
theorem lw_i2 {w : Cond} (i : Nat) (h : tables_1_2[i]? = some w) (g : goodWord w = true) : w ∈ lw_good := List.mem_filter.mpr ⟨List.mem_append_right _ (show w ∈ tables_1 from (List.mem_append_right _ (List.mem_append_left _ (List.mem_of_getElem? h)))), g⟩
theorem lw_i3 {w : Cond} (i : Nat) (h : tables_1_3[i]? = some w) (g : goodWord w = true) : w ∈ lw_good := List.mem_filter.mpr ⟨List.mem_append_right _ (show w ∈ tables_1 from (List.mem_append_right _ (List.mem_append_right _ (List.mem_append_left _ (List.mem_of_getElem? h))))), g⟩
theorem lw_i4 {w : Cond} (i : Nat) (h : tables_1_4[i]? = some w) (g : goodWord w = true) : w ∈ lw_good := List.mem_filter.mpr ⟨List.mem_append_right _ (show w ∈ tables_1 from (List.mem_append_right _ (List.mem_append_right _ (List.mem_append_right _ (List.mem_append_left _ (List.mem_of_getElem? h)))))), g⟩
theorem lw_i5 {w : Cond} (i : Nat) (h : tables_1_5[i]? = some w) (g : goodWord w = true) : w ∈ lw_good := List.mem_filter.mpr ⟨List.mem_append_right _ (show w ∈ tables_1 from (List.mem_append_right _ (List.mem_append_right _ (List.mem_append_right _ (List.mem_append_right _ (List.mem_append_left _ (List.mem_of_getElem? h))))))), g⟩
theorem lw_i6 {w : Cond} (i : Nat) (h : tables_1_6[i]? = some w) (g : goodWord w = true) : w ∈ lw_good := List.mem_filter.mpr ⟨List.mem_append_right _ (show w ∈ tables_1 from (List.mem_append_right _ (List.mem_append_right _ (List.mem_append_right _ (List.mem_append_right _ (List.mem_append_right _ (List.mem_append_left _ (List.mem_of_getElem? h)))))))), g⟩
theorem lw_i7 {w : Cond} (i : Nat) (h : tables_1_7[i]? = some w) (g : goodWord w = true) : w ∈ lw_good := List.mem_filter.mpr ⟨List.mem_append_right _ (show w ∈ tables_1 from (List.mem_append_right _ (List.mem_append_right _ (List.mem_append_right _ (List.mem_append_right _ (List.mem_append_right _ (List.mem_append_right _ (List.mem_append_left _ (List.mem_of_getElem? h))))))))), g⟩
theorem lw_i8 {w : Cond} (i : Nat) (h : tables_1_8[i]? = some w) (g : goodWord w = true) : w ∈ lw_good := List.mem_filter.mpr ⟨List.mem_append_right _ (show w ∈ tables_1 from (List.mem_append_right _ (List.mem_append_right _ (List.mem_append_right _ (List.mem_append_right _ (List.mem_append_right _ (List.mem_append_right _ (List.mem_append_right _ (List.mem_of_getElem? h))))))))), g⟩
theorem lw_ip {w : Cond} (i : Nat) (h : (k2_sels lw_privs)[i]? = some w) (g : goodWord w = true) : w ∈ lw_good := List.mem_filter.mpr ⟨List.mem_append_left _ (List.mem_of_getElem? h), g⟩
theorem cn_9 : plainName (tb_nm.getD 9 "") = true := by decide +kernel
theorem cm_9 : tb_nm.getD 9 "" ≠ "java/lang/invoke/MethodHandle" := by decide +kernel
theorem cv_9 : tb_nm.getD 9 "" ≠ "java/lang/invoke/VarHandle" := by decide +kernel
theorem ci_9 : Cond.initialized (tb_nm.getD 9 "") ∈ lw_good := lw_i1 1 rfl rfl
theorem cn_0 : plainName (tb_nm.getD 0 "") = true := by decide +kernel
theorem cm_0 : tb_nm.getD 0 "" ≠ "java/lang/invoke/MethodHandle" := by decide +kernel
theorem cv_0 : tb_nm.getD 0 "" ≠ "java/lang/invoke/VarHandle" := by decide +kernel
theorem ci_0 : Cond.initialized (tb_nm.getD 0 "") ∈ lw_good := lw_i1 4 rfl rfl
theorem cn_1 : plainName (tb_nm.getD 1 "") = true := by decide +kernel
theorem cm_1 : tb_nm.getD 1 "" ≠ "java/lang/invoke/MethodHandle" := by decide +kernel
theorem cv_1 : tb_nm.getD 1 "" ≠ "java/lang/invoke/VarHandle" := by decide +kernel
theorem ci_1 : Cond.initialized (tb_nm.getD 1 "") ∈ lw_good := lw_i1 11 rfl rfl
theorem cn_2 : plainName (tb_nm.getD 2 "") = true := by decide +kernel
theorem cm_2 : tb_nm.getD 2 "" ≠ "java/lang/invoke/MethodHandle" := by decide +kernel
theorem cv_2 : tb_nm.getD 2 "" ≠ "java/lang/invoke/VarHandle" := by decide +kernel
theorem ci_2 : Cond.initialized (tb_nm.getD 2 "") ∈ lw_good := lw_i1 3 rfl rfl
theorem cn_3 : plainName (tb_nm.getD 3 "") = true := by decide +kernel
theorem cm_3 : tb_nm.getD 3 "" ≠ "java/lang/invoke/MethodHandle" := by decide +kernel
theorem cv_3 : tb_nm.getD 3 "" ≠ "java/lang/invoke/VarHandle" := by decide +kernel
theorem ci_3 : Cond.initialized (tb_nm.getD 3 "") ∈ lw_good := lw_i1 13 rfl rfl
theorem cn_4 : plainName (tb_nm.getD 4 "") = true := by decide +kernel
theorem cm_4 : tb_nm.getD 4 "" ≠ "java/lang/invoke/MethodHandle" := by decide +kernel
theorem cv_4 : tb_nm.getD 4 "" ≠ "java/lang/invoke/VarHandle" := by decide +kernel
theorem ci_4 : Cond.initialized (tb_nm.getD 4 "") ∈ lw_good := lw_i1 14 rfl rfl
theorem cn_5 : plainName (tb_nm.getD 5 "") = true := by decide +kernel
theorem cm_5 : tb_nm.getD 5 "" ≠ "java/lang/invoke/MethodHandle" := by decide +kernel
theorem cv_5 : tb_nm.getD 5 "" ≠ "java/lang/invoke/VarHandle" := by decide +kernel
theorem ci_5 : Cond.initialized (tb_nm.getD 5 "") ∈ lw_good := lw_i1 6 rfl rfl
theorem cn_6 : plainName (tb_nm.getD 6 "") = true := by decide +kernel
theorem cm_6 : tb_nm.getD 6 "" ≠ "java/lang/invoke/MethodHandle" := by decide +kernel
theorem cv_6 : tb_nm.getD 6 "" ≠ "java/lang/invoke/VarHandle" := by decide +kernel
theorem ci_6 : Cond.initialized (tb_nm.getD 6 "") ∈ lw_good := lw_i1 2 rfl rfl
theorem cn_7 : plainName (tb_nm.getD 7 "") = true := by decide +kernel
theorem cm_7 : tb_nm.getD 7 "" ≠ "java/lang/invoke/MethodHandle" := by decide +kernel
theorem cv_7 : tb_nm.getD 7 "" ≠ "java/lang/invoke/VarHandle" := by decide +kernel
theorem ci_7 : Cond.initialized (tb_nm.getD 7 "") ∈ lw_good := lw_i1 5 rfl rfl
theorem cn_8 : plainName (tb_nm.getD 8 "") = true := by decide +kernel
theorem cm_8 : tb_nm.getD 8 "" ≠ "java/lang/invoke/MethodHandle" := by decide +kernel
theorem cv_8 : tb_nm.getD 8 "" ≠ "java/lang/invoke/VarHandle" := by decide +kernel
theorem ci_8 : Cond.initialized (tb_nm.getD 8 "") ∈ lw_good := lw_i1 12 rfl rfl
theorem cn_10 : plainName (tb_nm.getD 10 "") = true := by decide +kernel
theorem cm_10 : tb_nm.getD 10 "" ≠ "java/lang/invoke/MethodHandle" := by decide +kernel
theorem cv_10 : tb_nm.getD 10 "" ≠ "java/lang/invoke/VarHandle" := by decide +kernel
theorem ci_10 : Cond.initialized (tb_nm.getD 10 "") ∈ lw_good := lw_i1 15 rfl rfl
theorem cn_12 : plainName (tb_nm.getD 12 "") = true := by decide +kernel
theorem cm_12 : tb_nm.getD 12 "" ≠ "java/lang/invoke/MethodHandle" := by decide +kernel
theorem cv_12 : tb_nm.getD 12 "" ≠ "java/lang/invoke/VarHandle" := by decide +kernel
theorem ci_12 : Cond.initialized (tb_nm.getD 12 "") ∈ lw_good := lw_i1 18 rfl rfl
theorem cn_14 : plainName (tb_nm.getD 14 "") = true := by decide +kernel
theorem cm_14 : tb_nm.getD 14 "" ≠ "java/lang/invoke/MethodHandle" := by decide +kernel
theorem cv_14 : tb_nm.getD 14 "" ≠ "java/lang/invoke/VarHandle" := by decide +kernel
theorem ci_14 : Cond.initialized (tb_nm.getD 14 "") ∈ lw_good := lw_i1 7 rfl rfl
theorem cn_15 : plainName (tb_nm.getD 15 "") = true := by decide +kernel
theorem cm_15 : tb_nm.getD 15 "" ≠ "java/lang/invoke/MethodHandle" := by decide +kernel
theorem cv_15 : tb_nm.getD 15 "" ≠ "java/lang/invoke/VarHandle" := by decide +kernel
theorem ci_15 : Cond.initialized (tb_nm.getD 15 "") ∈ lw_good := lw_i1 8 rfl rfl
theorem cn_16 : plainName (tb_nm.getD 16 "") = true := by decide +kernel
theorem cm_16 : tb_nm.getD 16 "" ≠ "java/lang/invoke/MethodHandle" := by decide +kernel
theorem cv_16 : tb_nm.getD 16 "" ≠ "java/lang/invoke/VarHandle" := by decide +kernel
theorem ci_16 : Cond.initialized (tb_nm.getD 16 "") ∈ lw_good := lw_i1 10 rfl rfl
theorem cn_18 : plainName (tb_nm.getD 18 "") = true := by decide +kernel
theorem cm_18 : tb_nm.getD 18 "" ≠ "java/lang/invoke/MethodHandle" := by decide +kernel
theorem cv_18 : tb_nm.getD 18 "" ≠ "java/lang/invoke/VarHandle" := by decide +kernel
theorem ci_18 : Cond.initialized (tb_nm.getD 18 "") ∈ lw_good := lw_i1 9 rfl rfl
theorem pd_0 : (parseMethodDescriptor "()B").map (fun d => d.parameters.length) = some 0 := by decide +kernel
theorem pd_1 : (parseMethodDescriptor "()I").map (fun d => d.parameters.length) = some 0 := by decide +kernel
theorem pd_2 : (parseMethodDescriptor "()J").map (fun d => d.parameters.length) = some 0 := by decide +kernel
theorem pd_3 : (parseMethodDescriptor "()V").map (fun d => d.parameters.length) = some 0 := by decide +kernel
theorem pd_4 : (parseMethodDescriptor "()Z").map (fun d => d.parameters.length) = some 0 := by decide +kernel
theorem pd_5 : (parseMethodDescriptor "(I)C").map (fun d => d.parameters.length) = some 1 := by decide +kernel
theorem pd_6 : (parseMethodDescriptor "(I)I").map (fun d => d.parameters.length) = some 1 := by decide +kernel
theorem pd_7 : (parseMethodDescriptor "(I)V").map (fun d => d.parameters.length) = some 1 := by decide +kernel
theorem pd_8 : (parseMethodDescriptor "(I)Z").map (fun d => d.parameters.length) = some 1 := by decide +kernel
theorem pd_9 : (parseMethodDescriptor "(II)I").map (fun d => d.parameters.length) = some 2 := by decide +kernel
theorem pd_10 : (parseMethodDescriptor "(II)J").map (fun d => d.parameters.length) = some 2 := by decide +kernel
theorem pd_11 : (parseMethodDescriptor "(II)V").map (fun d => d.parameters.length) = some 2 := by decide +kernel
theorem pd_12 : (parseMethodDescriptor "(II)Z").map (fun d => d.parameters.length) = some 2 := by decide +kernel
theorem pd_13 : (parseMethodDescriptor "(III)I").map (fun d => d.parameters.length) = some 3 := by decide +kernel
theorem pd_14 : (parseMethodDescriptor "(III)V").map (fun d => d.parameters.length) = some 3 := by decide +kernel
theorem pd_15 : (parseMethodDescriptor "(III)Z").map (fun d => d.parameters.length) = some 3 := by decide +kernel
theorem pd_16 : (parseMethodDescriptor "(IIII)I").map (fun d => d.parameters.length) = some 4 := by decide +kernel
theorem pd_17 : (parseMethodDescriptor "(IIII)Z").map (fun d => d.parameters.length) = some 4 := by decide +kernel
theorem pd_18 : (parseMethodDescriptor "(IIIII)I").map (fun d => d.parameters.length) = some 5 := by decide +kernel
theorem pd_19 : (parseMethodDescriptor "(IIIII)V").map (fun d => d.parameters.length) = some 5 := by decide +kernel
theorem pd_20 : (parseMethodDescriptor "(IIIII)Z").map (fun d => d.parameters.length) = some 5 := by decide +kernel
theorem pd_21 : (parseMethodDescriptor "(IIJ)V").map (fun d => d.parameters.length) = some 3 := by decide +kernel
theorem pd_22 : (parseMethodDescriptor "(IIJ)Z").map (fun d => d.parameters.length) = some 3 := by decide +kernel
theorem pd_23 : (parseMethodDescriptor "(IILjava/util/function/BiFunction;)I").map (fun d => d.parameters.length) = some 3 := by decide +kernel
theorem pd_24 : (parseMethodDescriptor "(IIZ)Z").map (fun d => d.parameters.length) = some 3 := by decide +kernel
theorem pd_25 : (parseMethodDescriptor "(IZ)I").map (fun d => d.parameters.length) = some 2 := by decide +kernel
theorem pd_26 : (parseMethodDescriptor "(IZ)Z").map (fun d => d.parameters.length) = some 2 := by decide +kernel
theorem pd_27 : (parseMethodDescriptor "(I[B)V").map (fun d => d.parameters.length) = some 2 := by decide +kernel
theorem pd_28 : (parseMethodDescriptor "(J)I").map (fun d => d.parameters.length) = some 1 := by decide +kernel
theorem pd_29 : (parseMethodDescriptor "(J)Z").map (fun d => d.parameters.length) = some 1 := by decide +kernel
theorem pd_30 : (parseMethodDescriptor "(JI)I").map (fun d => d.parameters.length) = some 2 := by decide +kernel
theorem pd_31 : (parseMethodDescriptor "(JI)J").map (fun d => d.parameters.length) = some 2 := by decide +kernel
theorem pd_32 : (parseMethodDescriptor "(JJ)V").map (fun d => d.parameters.length) = some 2 := by decide +kernel
theorem pd_33 : (parseMethodDescriptor "(JJ)Z").map (fun d => d.parameters.length) = some 2 := by decide +kernel
theorem pd_34 : (parseMethodDescriptor "(JJJ)Z").map (fun d => d.parameters.length) = some 3 := by decide +kernel
theorem pd_35 : (parseMethodDescriptor "(LIslandCall$Boat;)V").map (fun d => d.parameters.length) = some 1 := by decide +kernel
theorem pd_36 : (parseMethodDescriptor "(LIslandCall$Boat;LIslandCall$Years;I)I").map (fun d => d.parameters.length) = some 3 := by decide +kernel
theorem pd_37 : (parseMethodDescriptor "(LIslandCall$Boat;LIslandCall$Years;I)V").map (fun d => d.parameters.length) = some 3 := by decide +kernel
theorem pd_38 : (parseMethodDescriptor "(LIslandCall$Boat;LIslandCall$Years;I)Z").map (fun d => d.parameters.length) = some 3 := by decide +kernel
theorem pd_39 : (parseMethodDescriptor "(LIslandCall$Boat;Z)V").map (fun d => d.parameters.length) = some 2 := by decide +kernel
theorem pd_40 : (parseMethodDescriptor "(LIslandCall$Tokens;LIslandCall$Boat;)V").map (fun d => d.parameters.length) = some 2 := by decide +kernel
theorem pd_41 : (parseMethodDescriptor "(LIslandCall$Tokens;LIslandCall$Years;LIslandCall$Boat;)V").map (fun d => d.parameters.length) = some 3 := by decide +kernel
theorem pd_42 : (parseMethodDescriptor "(LIslandCall$Years;)V").map (fun d => d.parameters.length) = some 1 := by decide +kernel
theorem pd_43 : (parseMethodDescriptor "(LIslandCall$Years;I)I").map (fun d => d.parameters.length) = some 2 := by decide +kernel
theorem pd_44 : (parseMethodDescriptor "(Ljava/lang/String;)I").map (fun d => d.parameters.length) = some 1 := by decide +kernel
theorem pd_45 : (parseMethodDescriptor "(Ljava/lang/String;)Z").map (fun d => d.parameters.length) = some 1 := by decide +kernel
theorem pd_46 : (parseMethodDescriptor "(Ljava/lang/String;I)Z").map (fun d => d.parameters.length) = some 2 := by decide +kernel
theorem pd_47 : (parseMethodDescriptor "(Z)V").map (fun d => d.parameters.length) = some 1 := by decide +kernel
theorem pd_48 : (parseMethodDescriptor "([B)I").map (fun d => d.parameters.length) = some 1 := by decide +kernel
theorem pd_49 : (parseMethodDescriptor "([BI)C").map (fun d => d.parameters.length) = some 2 := by decide +kernel
theorem pd_50 : (parseMethodDescriptor "([I)V").map (fun d => d.parameters.length) = some 1 := by decide +kernel
theorem pd_51 : (parseMethodDescriptor "([I)Z").map (fun d => d.parameters.length) = some 1 := by decide +kernel
theorem mk_4 : am_mok TT 4 := ⟨lw_i1 70 rfl rfl, ci_0, rfl, by decide, cn_0, ⟨cm_0, cv_0, pd_3⟩, ⟨by decide, lw_i1 69 rfl rfl, rfl, rfl⟩⟩
theorem mk_5 : am_mok TT 5 := ⟨lw_i1 75 rfl rfl, ci_0, rfl, by decide, cn_0, ⟨cm_0, cv_0, pd_3⟩, ⟨by decide, lw_i1 73 rfl rfl, lw_i1 74 rfl rfl⟩⟩
theorem mk_6 : am_mok TT 6 := ⟨lw_i3 174 rfl rfl, ci_0, rfl, by decide, cn_0, ⟨cm_0, cv_0, pd_35⟩, ⟨by decide, lw_i3 172 rfl rfl, lw_i3 173 rfl rfl⟩⟩
theorem mk_7 : am_mok TT 7 := ⟨lw_i4 26 rfl rfl, ci_0, rfl, by decide, cn_0, ⟨cm_0, cv_0, pd_8⟩, ⟨by decide, lw_i4 24 rfl rfl, lw_i4 25 rfl rfl⟩⟩
theorem mk_8 : am_mok TT 8 := ⟨lw_i4 38 rfl rfl, ci_0, rfl, by decide, cn_0, ⟨cm_0, cv_0, pd_8⟩, ⟨by decide, lw_i4 36 rfl rfl, lw_i4 37 rfl rfl⟩⟩
theorem mk_9 : am_mok TT 9 := ⟨lw_i4 138 rfl rfl, ci_0, rfl, by decide, cn_0, ⟨cm_0, cv_0, pd_29⟩, ⟨by decide, lw_i4 136 rfl rfl, lw_i4 137 rfl rfl⟩⟩
theorem mk_10 : am_mok TT 10 := ⟨lw_i4 186 rfl rfl, ci_0, rfl, by decide, cn_0, ⟨cm_0, cv_0, pd_29⟩, ⟨by decide, lw_i4 184 rfl rfl, lw_i4 185 rfl rfl⟩⟩
theorem mk_11 : am_mok TT 11 := ⟨lw_i4 84 rfl rfl, ci_0, rfl, by decide, cn_0, ⟨cm_0, cv_0, pd_8⟩, ⟨by decide, lw_i4 82 rfl rfl, lw_i4 83 rfl rfl⟩⟩
theorem mk_12 : am_mok TT 12 := ⟨lw_i5 50 rfl rfl, ci_0, rfl, by decide, cn_0, ⟨cm_0, cv_0, pd_1⟩, ⟨by decide, lw_i5 48 rfl rfl, lw_i5 49 rfl rfl⟩⟩
theorem mk_13 : am_mok TT 13 := ⟨lw_i3 140 rfl rfl, ci_0, rfl, by decide, cn_0, ⟨cm_0, cv_0, pd_28⟩, ⟨by decide, lw_i3 138 rfl rfl, lw_i3 139 rfl rfl⟩⟩
theorem mk_14 : am_mok TT 14 := ⟨lw_i3 144 rfl rfl, ci_0, rfl, by decide, cn_0, ⟨cm_0, cv_0, pd_28⟩, ⟨by decide, lw_i3 142 rfl rfl, lw_i3 143 rfl rfl⟩⟩
theorem mk_15 : am_mok TT 15 := ⟨lw_i3 152 rfl rfl, ci_0, rfl, by decide, cn_0, ⟨cm_0, cv_0, pd_30⟩, ⟨by decide, lw_i3 150 rfl rfl, lw_i3 151 rfl rfl⟩⟩
theorem mk_16 : am_mok TT 16 := ⟨lw_i3 161 rfl rfl, ci_0, rfl, by decide, cn_0, ⟨cm_0, cv_0, pd_30⟩, ⟨by decide, lw_i3 159 rfl rfl, lw_i3 160 rfl rfl⟩⟩
theorem mk_17 : am_mok TT 17 := ⟨lw_i3 112 rfl rfl, ci_0, rfl, by decide, cn_0, ⟨cm_0, cv_0, pd_12⟩, ⟨by decide, lw_i3 110 rfl rfl, lw_i3 111 rfl rfl⟩⟩
theorem mk_18 : am_mok TT 18 := ⟨lw_i4 18 rfl rfl, ci_0, rfl, by decide, cn_0, ⟨cm_0, cv_0, pd_1⟩, ⟨by decide, lw_i4 16 rfl rfl, lw_i4 17 rfl rfl⟩⟩
theorem mk_19 : am_mok TT 19 := ⟨lw_i4 30 rfl rfl, ci_0, rfl, by decide, cn_0, ⟨cm_0, cv_0, pd_6⟩, ⟨by decide, lw_i4 28 rfl rfl, lw_i4 29 rfl rfl⟩⟩
theorem mk_20 : am_mok TT 20 := ⟨lw_i4 50 rfl rfl, ci_0, rfl, by decide, cn_0, ⟨cm_0, cv_0, pd_6⟩, ⟨by decide, lw_i4 48 rfl rfl, lw_i4 49 rfl rfl⟩⟩
theorem mk_21 : am_mok TT 21 := ⟨lw_i4 95 rfl rfl, ci_0, rfl, by decide, cn_0, ⟨cm_0, cv_0, pd_26⟩, ⟨by decide, lw_i4 93 rfl rfl, lw_i4 94 rfl rfl⟩⟩
theorem mk_22 : am_mok TT 22 := ⟨lw_i4 103 rfl rfl, ci_0, rfl, by decide, cn_0, ⟨cm_0, cv_0, pd_8⟩, ⟨by decide, lw_i4 101 rfl rfl, lw_i4 102 rfl rfl⟩⟩
theorem mk_23 : am_mok TT 23 := ⟨lw_i4 46 rfl rfl, ci_0, rfl, by decide, cn_0, ⟨cm_0, cv_0, pd_13⟩, ⟨by decide, lw_i4 44 rfl rfl, lw_i4 45 rfl rfl⟩⟩
theorem mk_24 : am_mok TT 24 := ⟨lw_i4 42 rfl rfl, ci_0, rfl, by decide, cn_0, ⟨cm_0, cv_0, pd_9⟩, ⟨by decide, lw_i4 40 rfl rfl, lw_i4 41 rfl rfl⟩⟩
theorem mk_25 : am_mok TT 25 := ⟨lw_i4 66 rfl rfl, ci_0, rfl, by decide, cn_0, ⟨cm_0, cv_0, pd_7⟩, ⟨by decide, lw_i4 64 rfl rfl, lw_i4 65 rfl rfl⟩⟩
theorem mk_26 : am_mok TT 26 := ⟨lw_i4 74 rfl rfl, ci_0, rfl, by decide, cn_0, ⟨cm_0, cv_0, pd_9⟩, ⟨by decide, lw_i4 72 rfl rfl, lw_i4 73 rfl rfl⟩⟩
theorem mk_27 : am_mok TT 27 := ⟨lw_i4 70 rfl rfl, ci_0, rfl, by decide, cn_0, ⟨cm_0, cv_0, pd_13⟩, ⟨by decide, lw_i4 68 rfl rfl, lw_i4 69 rfl rfl⟩⟩
theorem mk_28 : am_mok TT 28 := ⟨lw_i4 161 rfl rfl, ci_0, rfl, by decide, cn_0, ⟨cm_0, cv_0, pd_9⟩, ⟨by decide, lw_i4 159 rfl rfl, lw_i4 160 rfl rfl⟩⟩
theorem mk_29 : am_mok TT 29 := ⟨lw_i4 58 rfl rfl, ci_0, rfl, by decide, cn_0, ⟨cm_0, cv_0, pd_4⟩, ⟨by decide, lw_i4 56 rfl rfl, lw_i4 57 rfl rfl⟩⟩
theorem mk_30 : am_mok TT 30 := ⟨lw_i4 62 rfl rfl, ci_0, rfl, by decide, cn_0, ⟨cm_0, cv_0, pd_1⟩, ⟨by decide, lw_i4 60 rfl rfl, lw_i4 61 rfl rfl⟩⟩
theorem mk_31 : am_mok TT 31 := ⟨lw_i2 69 rfl rfl, ci_1, rfl, by decide, cn_1, ⟨cm_1, cv_1, pd_40⟩, ⟨by decide, lw_i2 68 rfl rfl, rfl, rfl⟩⟩
theorem mk_32 : am_mok TT 32 := ⟨lw_i3 69 rfl rfl, ci_1, rfl, by decide, cn_1, ⟨cm_1, cv_1, pd_8⟩, ⟨by decide, lw_i3 67 rfl rfl, lw_i3 68 rfl rfl⟩⟩
theorem mk_33 : am_mok TT 33 := ⟨lw_i3 98 rfl rfl, ci_1, rfl, by decide, cn_1, ⟨cm_1, cv_1, pd_4⟩, ⟨by decide, lw_i3 97 rfl rfl, lw_ip 5 rfl rfl⟩⟩
theorem mk_34 : am_mok TT 34 := ⟨lw_i3 102 rfl rfl, ci_1, rfl, by decide, cn_1, ⟨cm_1, cv_1, pd_15⟩, ⟨by decide, lw_i3 101 rfl rfl, lw_ip 6 rfl rfl⟩⟩
theorem mk_35 : am_mok TT 35 := ⟨lw_i3 136 rfl rfl, ci_1, rfl, by decide, cn_1, ⟨cm_1, cv_1, pd_29⟩, ⟨by decide, lw_i3 135 rfl rfl, lw_ip 8 rfl rfl⟩⟩
theorem mk_36 : am_mok TT 36 := ⟨lw_i3 124 rfl rfl, ci_1, rfl, by decide, cn_1, ⟨cm_1, cv_1, pd_4⟩, ⟨by decide, lw_i3 123 rfl rfl, lw_ip 7 rfl rfl⟩⟩
theorem mk_37 : am_mok TT 37 := ⟨lw_i3 157 rfl rfl, ci_1, rfl, by decide, cn_1, ⟨cm_1, cv_1, pd_4⟩, ⟨by decide, lw_i3 156 rfl rfl, lw_ip 9 rfl rfl⟩⟩
theorem mk_38 : am_mok TT 38 := ⟨lw_i3 165 rfl rfl, ci_1, rfl, by decide, cn_1, ⟨cm_1, cv_1, pd_8⟩, ⟨by decide, lw_i3 164 rfl rfl, lw_ip 10 rfl rfl⟩⟩
theorem mk_39 : am_mok TT 39 := ⟨lw_i3 170 rfl rfl, ci_1, rfl, by decide, cn_1, ⟨cm_1, cv_1, pd_4⟩, ⟨by decide, lw_i3 169 rfl rfl, lw_ip 11 rfl rfl⟩⟩
theorem mk_40 : am_mok TT 40 := ⟨lw_i1 55 rfl rfl, ci_2, rfl, by decide, cn_2, ⟨cm_2, cv_2, pd_3⟩, ⟨by decide, lw_i1 54 rfl rfl, rfl, rfl⟩⟩
theorem mk_41 : am_mok TT 41 := ⟨lw_i5 154 rfl rfl, ci_2, rfl, by decide, cn_2, ⟨cm_2, cv_2, pd_32⟩, ⟨by decide, lw_i5 152 rfl rfl, lw_i5 153 rfl rfl⟩⟩
theorem mk_42 : am_mok TT 42 := ⟨lw_i2 107 rfl rfl, ci_3, rfl, by decide, cn_3, ⟨cm_3, cv_3, pd_3⟩, ⟨by decide, lw_i2 106 rfl rfl, rfl, rfl⟩⟩
theorem mk_43 : am_mok TT 43 := ⟨lw_i5 170 rfl rfl, ci_3, rfl, by decide, cn_3, ⟨cm_3, cv_3, pd_37⟩, ⟨by decide, lw_i5 168 rfl rfl, lw_i5 169 rfl rfl⟩⟩
theorem mk_44 : am_mok TT 44 := ⟨lw_i5 175 rfl rfl, ci_3, rfl, by decide, cn_3, ⟨cm_3, cv_3, pd_43⟩, ⟨by decide, lw_i5 174 rfl rfl, lw_ip 27 rfl rfl⟩⟩
theorem mk_45 : am_mok TT 45 := ⟨lw_i5 179 rfl rfl, ci_3, rfl, by decide, cn_3, ⟨cm_3, cv_3, pd_36⟩, ⟨by decide, lw_i5 178 rfl rfl, lw_ip 28 rfl rfl⟩⟩
theorem mk_46 : am_mok TT 46 := ⟨lw_i5 196 rfl rfl, ci_3, rfl, by decide, cn_3, ⟨cm_3, cv_3, pd_47⟩, ⟨by decide, lw_i5 195 rfl rfl, lw_ip 31 rfl rfl⟩⟩
theorem mk_47 : am_mok TT 47 := ⟨lw_i5 183 rfl rfl, ci_3, rfl, by decide, cn_3, ⟨cm_3, cv_3, pd_39⟩, ⟨by decide, lw_i5 182 rfl rfl, lw_ip 29 rfl rfl⟩⟩
theorem mk_48 : am_mok TT 48 := ⟨lw_i5 190 rfl rfl, ci_3, rfl, by decide, cn_3, ⟨cm_3, cv_3, pd_8⟩, ⟨by decide, lw_i5 189 rfl rfl, lw_ip 30 rfl rfl⟩⟩
theorem mk_49 : am_mok TT 49 := ⟨lw_i5 200 rfl rfl, ci_3, rfl, by decide, cn_3, ⟨cm_3, cv_3, pd_38⟩, lw_i5 199 rfl rfl⟩
theorem mk_50 : am_mok TT 50 := ⟨lw_i2 148 rfl rfl, ci_4, rfl, by decide, cn_4, ⟨cm_4, cv_4, pd_35⟩, ⟨by decide, lw_i2 147 rfl rfl, rfl, rfl⟩⟩
theorem mk_51 : am_mok TT 51 := ⟨lw_i4 151 rfl rfl, ci_4, rfl, by decide, cn_4, ⟨cm_4, cv_4, pd_9⟩, ⟨by decide, lw_i4 149 rfl rfl, lw_i4 150 rfl rfl⟩⟩
theorem mk_52 : am_mok TT 52 := ⟨lw_i4 169 rfl rfl, ci_4, rfl, by decide, cn_4, ⟨cm_4, cv_4, pd_6⟩, ⟨by decide, lw_i4 167 rfl rfl, lw_i4 168 rfl rfl⟩⟩
theorem mk_53 : am_mok TT 53 := ⟨lw_i4 178 rfl rfl, ci_4, rfl, by decide, cn_4, ⟨cm_4, cv_4, pd_6⟩, ⟨by decide, lw_i4 176 rfl rfl, lw_i4 177 rfl rfl⟩⟩
theorem mk_54 : am_mok TT 54 := ⟨lw_i4 190 rfl rfl, ci_4, rfl, by decide, cn_4, ⟨cm_4, cv_4, pd_12⟩, ⟨by decide, lw_i4 188 rfl rfl, lw_i4 189 rfl rfl⟩⟩
theorem mk_55 : am_mok TT 55 := ⟨lw_i4 198 rfl rfl, ci_4, rfl, by decide, cn_4, ⟨cm_4, cv_4, pd_6⟩, ⟨by decide, lw_i4 196 rfl rfl, lw_i4 197 rfl rfl⟩⟩
theorem mk_56 : am_mok TT 56 := ⟨lw_i4 206 rfl rfl, ci_4, rfl, by decide, cn_4, ⟨cm_4, cv_4, pd_6⟩, ⟨by decide, lw_i4 204 rfl rfl, lw_i4 205 rfl rfl⟩⟩
theorem mk_57 : am_mok TT 57 := ⟨lw_i4 214 rfl rfl, ci_4, rfl, by decide, cn_4, ⟨cm_4, cv_4, pd_6⟩, ⟨by decide, lw_i4 212 rfl rfl, lw_i4 213 rfl rfl⟩⟩
theorem mk_58 : am_mok TT 58 := ⟨lw_i4 217 rfl rfl, ci_4, rfl, by decide, cn_4, ⟨cm_4, cv_4, pd_12⟩, lw_i4 216 rfl rfl⟩
theorem mk_59 : am_mok TT 59 := ⟨lw_i4 230 rfl rfl, ci_4, rfl, by decide, cn_4, ⟨cm_4, cv_4, pd_9⟩, ⟨by decide, lw_i4 228 rfl rfl, lw_i4 229 rfl rfl⟩⟩
theorem mk_60 : am_mok TT 60 := ⟨lw_i4 239 rfl rfl, ci_4, rfl, by decide, cn_4, ⟨cm_4, cv_4, pd_6⟩, ⟨by decide, lw_i4 237 rfl rfl, lw_i4 238 rfl rfl⟩⟩
theorem mk_61 : am_mok TT 61 := ⟨lw_i5 25 rfl rfl, ci_4, rfl, by decide, cn_4, ⟨cm_4, cv_4, pd_6⟩, ⟨by decide, lw_i5 23 rfl rfl, lw_i5 24 rfl rfl⟩⟩
theorem mk_62 : am_mok TT 62 := ⟨lw_i5 9 rfl rfl, ci_4, rfl, by decide, cn_4, ⟨cm_4, cv_4, pd_6⟩, ⟨by decide, lw_i5 7 rfl rfl, lw_i5 8 rfl rfl⟩⟩
theorem mk_63 : am_mok TT 63 := ⟨lw_i5 21 rfl rfl, ci_4, rfl, by decide, cn_4, ⟨cm_4, cv_4, pd_1⟩, ⟨by decide, lw_i5 19 rfl rfl, lw_i5 20 rfl rfl⟩⟩
theorem mk_64 : am_mok TT 64 := ⟨lw_i5 38 rfl rfl, ci_4, rfl, by decide, cn_4, ⟨cm_4, cv_4, pd_1⟩, ⟨by decide, lw_i5 36 rfl rfl, lw_i5 37 rfl rfl⟩⟩
theorem mk_65 : am_mok TT 65 := ⟨lw_i5 88 rfl rfl, ci_4, rfl, by decide, cn_4, ⟨cm_4, cv_4, pd_13⟩, ⟨by decide, lw_i5 86 rfl rfl, lw_i5 87 rfl rfl⟩⟩
theorem mk_66 : am_mok TT 66 := ⟨lw_i5 100 rfl rfl, ci_4, rfl, by decide, cn_4, ⟨cm_4, cv_4, pd_1⟩, ⟨by decide, lw_i5 98 rfl rfl, lw_i5 99 rfl rfl⟩⟩
theorem mk_67 : am_mok TT 67 := ⟨lw_i5 104 rfl rfl, ci_4, rfl, by decide, cn_4, ⟨cm_4, cv_4, pd_8⟩, ⟨by decide, lw_i5 103 rfl rfl, lw_ip 25 rfl rfl⟩⟩
theorem mk_68 : am_mok TT 68 := ⟨lw_i5 116 rfl rfl, ci_4, rfl, by decide, cn_4, ⟨cm_4, cv_4, pd_1⟩, ⟨by decide, lw_i5 114 rfl rfl, lw_i5 115 rfl rfl⟩⟩
theorem mk_69 : am_mok TT 69 := ⟨lw_i5 125 rfl rfl, ci_4, rfl, by decide, cn_4, ⟨cm_4, cv_4, pd_11⟩, ⟨by decide, lw_i5 123 rfl rfl, lw_i5 124 rfl rfl⟩⟩
theorem mk_70 : am_mok TT 70 := ⟨lw_i5 129 rfl rfl, ci_4, rfl, by decide, cn_4, ⟨cm_4, cv_4, pd_47⟩, ⟨by decide, lw_i5 128 rfl rfl, lw_ip 26 rfl rfl⟩⟩
theorem mk_71 : am_mok TT 71 := ⟨lw_i5 135 rfl rfl, ci_4, rfl, by decide, cn_4, ⟨cm_4, cv_4, pd_1⟩, ⟨by decide, lw_i5 133 rfl rfl, lw_i5 134 rfl rfl⟩⟩
theorem mk_72 : am_mok TT 72 := ⟨lw_i5 143 rfl rfl, ci_4, rfl, by decide, cn_4, ⟨cm_4, cv_4, pd_1⟩, ⟨by decide, lw_i5 141 rfl rfl, lw_i5 142 rfl rfl⟩⟩
theorem mk_73 : am_mok TT 73 := ⟨lw_i1 210 rfl rfl, ci_5, rfl, by decide, cn_5, ⟨cm_5, cv_5, pd_50⟩, ⟨by decide, lw_i1 209 rfl rfl, rfl, rfl⟩⟩
theorem mk_74 : am_mok TT 74 := ⟨lw_i3 73 rfl rfl, ci_5, rfl, by decide, cn_5, ⟨cm_5, cv_5, pd_7⟩, ⟨by decide, lw_i3 71 rfl rfl, lw_i3 72 rfl rfl⟩⟩
theorem mk_75 : am_mok TT 75 := ⟨lw_i3 90 rfl rfl, ci_5, rfl, by decide, cn_5, ⟨cm_5, cv_5, pd_8⟩, ⟨by decide, lw_i3 88 rfl rfl, lw_i3 89 rfl rfl⟩⟩
theorem mk_76 : am_mok TT 76 := ⟨lw_i3 78 rfl rfl, ci_5, rfl, by decide, cn_5, ⟨cm_5, cv_5, pd_4⟩, ⟨by decide, lw_i3 76 rfl rfl, lw_i3 77 rfl rfl⟩⟩
theorem mk_77 : am_mok TT 77 := ⟨lw_i3 82 rfl rfl, ci_5, rfl, by decide, cn_5, ⟨cm_5, cv_5, pd_3⟩, ⟨by decide, lw_i3 81 rfl rfl, lw_ip 3 rfl rfl⟩⟩
theorem mk_78 : am_mok TT 78 := ⟨lw_i3 86 rfl rfl, ci_5, rfl, by decide, cn_5, ⟨cm_5, cv_5, pd_4⟩, ⟨by decide, lw_i3 85 rfl rfl, lw_ip 4 rfl rfl⟩⟩
theorem mk_79 : am_mok TT 79 := ⟨lw_i3 94 rfl rfl, ci_5, rfl, by decide, cn_5, ⟨cm_5, cv_5, pd_4⟩, ⟨by decide, lw_i3 92 rfl rfl, lw_i3 93 rfl rfl⟩⟩
theorem mk_80 : am_mok TT 80 := ⟨lw_i3 132 rfl rfl, ci_5, rfl, by decide, cn_5, ⟨cm_5, cv_5, pd_4⟩, ⟨by decide, lw_i3 130 rfl rfl, lw_i3 131 rfl rfl⟩⟩
theorem mk_81 : am_mok TT 81 := ⟨lw_i3 231 rfl rfl, ci_5, rfl, by decide, cn_5, ⟨cm_5, cv_5, pd_4⟩, ⟨by decide, lw_i3 229 rfl rfl, lw_i3 230 rfl rfl⟩⟩
theorem mk_82 : am_mok TT 82 := ⟨lw_i3 120 rfl rfl, ci_5, rfl, by decide, cn_5, ⟨cm_5, cv_5, pd_4⟩, ⟨by decide, lw_i3 118 rfl rfl, lw_i3 119 rfl rfl⟩⟩
theorem mk_83 : am_mok TT 83 := ⟨lw_i3 128 rfl rfl, ci_5, rfl, by decide, cn_5, ⟨cm_5, cv_5, pd_4⟩, ⟨by decide, lw_i3 126 rfl rfl, lw_i3 127 rfl rfl⟩⟩
theorem mk_84 : am_mok TT 84 := ⟨lw_i3 148 rfl rfl, ci_5, rfl, by decide, cn_5, ⟨cm_5, cv_5, pd_8⟩, ⟨by decide, lw_i3 146 rfl rfl, lw_i3 147 rfl rfl⟩⟩
theorem mk_85 : am_mok TT 85 := ⟨lw_i3 116 rfl rfl, ci_5, rfl, by decide, cn_5, ⟨cm_5, cv_5, pd_4⟩, ⟨by decide, lw_i3 114 rfl rfl, lw_i3 115 rfl rfl⟩⟩
theorem mk_86 : am_mok TT 86 := ⟨lw_i3 107 rfl rfl, ci_5, rfl, by decide, cn_5, ⟨cm_5, cv_5, pd_12⟩, ⟨by decide, lw_i3 105 rfl rfl, lw_i3 106 rfl rfl⟩⟩
theorem mk_87 : am_mok TT 87 := ⟨lw_i1 31 rfl rfl, ci_6, rfl, by decide, cn_6, ⟨cm_6, cv_6, pd_3⟩, ⟨by decide, lw_i1 30 rfl rfl, rfl, rfl⟩⟩
theorem mk_88 : am_mok TT 88 := ⟨lw_i2 234 rfl rfl, ci_6, rfl, by decide, cn_6, ⟨cm_6, cv_6, pd_8⟩, ⟨by decide, lw_i2 232 rfl rfl, lw_i2 233 rfl rfl⟩⟩
theorem mk_89 : am_mok TT 89 := ⟨lw_i3 18 rfl rfl, ci_6, rfl, by decide, cn_6, ⟨cm_6, cv_6, pd_8⟩, ⟨by decide, lw_i3 16 rfl rfl, lw_i3 17 rfl rfl⟩⟩
theorem mk_90 : am_mok TT 90 := ⟨lw_i5 71 rfl rfl, ci_6, rfl, by decide, cn_6, ⟨cm_6, cv_6, pd_6⟩, ⟨by decide, lw_i5 69 rfl rfl, lw_i5 70 rfl rfl⟩⟩
theorem mk_91 : am_mok TT 91 := ⟨lw_i3 5 rfl rfl, ci_6, rfl, by decide, cn_6, ⟨cm_6, cv_6, pd_14⟩, ⟨by decide, lw_i3 3 rfl rfl, lw_i3 4 rfl rfl⟩⟩
theorem mk_92 : am_mok TT 92 := ⟨lw_i3 13 rfl rfl, ci_6, rfl, by decide, cn_6, ⟨cm_6, cv_6, pd_9⟩, ⟨by decide, lw_i3 11 rfl rfl, lw_i3 12 rfl rfl⟩⟩
theorem mk_93 : am_mok TT 93 := ⟨lw_i3 22 rfl rfl, ci_6, rfl, by decide, cn_6, ⟨cm_6, cv_6, pd_21⟩, ⟨by decide, lw_i3 20 rfl rfl, lw_i3 21 rfl rfl⟩⟩
theorem mk_94 : am_mok TT 94 := ⟨lw_i3 33 rfl rfl, ci_6, rfl, by decide, cn_6, ⟨cm_6, cv_6, pd_10⟩, ⟨by decide, lw_i3 31 rfl rfl, lw_i3 32 rfl rfl⟩⟩
theorem mk_95 : am_mok TT 95 := ⟨lw_i3 42 rfl rfl, ci_6, rfl, by decide, cn_6, ⟨cm_6, cv_6, pd_18⟩, ⟨by decide, lw_i3 40 rfl rfl, lw_i3 41 rfl rfl⟩⟩
theorem mk_96 : am_mok TT 96 := ⟨lw_i3 46 rfl rfl, ci_6, rfl, by decide, cn_6, ⟨cm_6, cv_6, pd_19⟩, ⟨by decide, lw_i3 44 rfl rfl, lw_i3 45 rfl rfl⟩⟩
theorem mk_97 : am_mok TT 97 := ⟨lw_i3 25 rfl rfl, ci_6, rfl, by decide, cn_6, ⟨cm_6, cv_6, pd_31⟩, lw_i3 24 rfl rfl⟩
theorem mk_98 : am_mok TT 98 := ⟨lw_i1 157 rfl rfl, ci_7, rfl, by decide, cn_7, ⟨cm_7, cv_7, pd_3⟩, ⟨by decide, lw_i1 156 rfl rfl, rfl, rfl⟩⟩
theorem mk_99 : am_mok TT 99 := ⟨lw_i3 179 rfl rfl, ci_7, rfl, by decide, cn_7, ⟨cm_7, cv_7, pd_3⟩, ⟨by decide, lw_i3 177 rfl rfl, lw_i3 178 rfl rfl⟩⟩
theorem mk_100 : am_mok TT 100 := ⟨lw_i4 5 rfl rfl, ci_7, rfl, by decide, cn_7, ⟨cm_7, cv_7, pd_42⟩, ⟨by decide, lw_i4 3 rfl rfl, lw_i4 4 rfl rfl⟩⟩
theorem mk_101 : am_mok TT 101 := ⟨lw_i3 204 rfl rfl, ci_7, rfl, by decide, cn_7, ⟨cm_7, cv_7, pd_6⟩, ⟨by decide, lw_i3 202 rfl rfl, lw_i3 203 rfl rfl⟩⟩
theorem mk_102 : am_mok TT 102 := ⟨lw_i2 85 rfl rfl, ci_8, rfl, by decide, cn_8, ⟨cm_8, cv_8, pd_41⟩, ⟨by decide, lw_i2 84 rfl rfl, rfl, rfl⟩⟩
theorem mk_103 : am_mok TT 103 := ⟨lw_i3 191 rfl rfl, ci_8, rfl, by decide, cn_8, ⟨cm_8, cv_8, pd_8⟩, ⟨by decide, lw_i3 189 rfl rfl, lw_i3 190 rfl rfl⟩⟩
theorem mk_104 : am_mok TT 104 := ⟨lw_i3 200 rfl rfl, ci_8, rfl, by decide, cn_8, ⟨cm_8, cv_8, pd_4⟩, ⟨by decide, lw_i3 199 rfl rfl, lw_ip 13 rfl rfl⟩⟩
theorem mk_105 : am_mok TT 105 := ⟨lw_i3 208 rfl rfl, ci_8, rfl, by decide, cn_8, ⟨cm_8, cv_8, pd_8⟩, ⟨by decide, lw_i3 207 rfl rfl, lw_ip 14 rfl rfl⟩⟩
theorem mk_106 : am_mok TT 106 := ⟨lw_i4 0 rfl rfl, ci_8, rfl, by decide, cn_8, ⟨cm_8, cv_8, pd_12⟩, ⟨by decide, lw_i3 239 rfl rfl, lw_ip 20 rfl rfl⟩⟩
theorem mk_107 : am_mok TT 107 := ⟨lw_i3 212 rfl rfl, ci_8, rfl, by decide, cn_8, ⟨cm_8, cv_8, pd_8⟩, ⟨by decide, lw_i3 211 rfl rfl, lw_ip 15 rfl rfl⟩⟩
theorem mk_108 : am_mok TT 108 := ⟨lw_i3 222 rfl rfl, ci_8, rfl, by decide, cn_8, ⟨cm_8, cv_8, pd_8⟩, ⟨by decide, lw_i3 221 rfl rfl, lw_ip 17 rfl rfl⟩⟩
theorem mk_109 : am_mok TT 109 := ⟨lw_i3 216 rfl rfl, ci_8, rfl, by decide, cn_8, ⟨cm_8, cv_8, pd_8⟩, ⟨by decide, lw_i3 215 rfl rfl, lw_ip 16 rfl rfl⟩⟩
theorem mk_110 : am_mok TT 110 := ⟨lw_i3 227 rfl rfl, ci_8, rfl, by decide, cn_8, ⟨cm_8, cv_8, pd_8⟩, ⟨by decide, lw_i3 226 rfl rfl, lw_ip 18 rfl rfl⟩⟩
theorem mk_111 : am_mok TT 111 := ⟨lw_i3 235 rfl rfl, ci_8, rfl, by decide, cn_8, ⟨cm_8, cv_8, pd_15⟩, ⟨by decide, lw_i3 234 rfl rfl, lw_ip 19 rfl rfl⟩⟩
theorem mk_112 : am_mok TT 112 := ⟨lw_i1 23 rfl rfl, ci_9, rfl, by decide, cn_9, ⟨cm_9, cv_9, pd_3⟩, ⟨by decide, lw_i1 22 rfl rfl, rfl, rfl⟩⟩
theorem mk_113 : am_mok TT 113 := ⟨lw_i2 218 rfl rfl, ci_9, rfl, by decide, cn_9, ⟨cm_9, cv_9, pd_1⟩, ⟨by decide, lw_i2 216 rfl rfl, lw_i2 217 rfl rfl⟩⟩
theorem mk_114 : am_mok TT 114 := ⟨lw_i2 222 rfl rfl, ci_9, rfl, by decide, cn_9, ⟨cm_9, cv_9, pd_2⟩, ⟨by decide, lw_i2 220 rfl rfl, lw_i2 221 rfl rfl⟩⟩
theorem mk_115 : am_mok TT 115 := ⟨lw_i2 226 rfl rfl, ci_9, rfl, by decide, cn_9, ⟨cm_9, cv_9, pd_2⟩, ⟨by decide, lw_i2 224 rfl rfl, lw_i2 225 rfl rfl⟩⟩
theorem mk_116 : am_mok TT 116 := ⟨lw_i3 183 rfl rfl, ci_9, rfl, by decide, cn_9, ⟨cm_9, cv_9, pd_6⟩, ⟨by decide, lw_i3 182 rfl rfl, lw_ip 12 rfl rfl⟩⟩
theorem mk_117 : am_mok TT 117 := ⟨lw_i3 65 rfl rfl, ci_9, rfl, by decide, cn_9, ⟨cm_9, cv_9, pd_6⟩, ⟨by decide, lw_i3 64 rfl rfl, lw_ip 2 rfl rfl⟩⟩
theorem mk_118 : am_mok TT 118 := ⟨lw_i3 1 rfl rfl, ci_9, rfl, by decide, cn_9, ⟨cm_9, cv_9, pd_8⟩, ⟨by decide, lw_i3 0 rfl rfl, lw_ip 0 rfl rfl⟩⟩
theorem mk_119 : am_mok TT 119 := ⟨lw_i2 237 rfl rfl, ci_9, rfl, by decide, cn_9, ⟨cm_9, cv_9, pd_15⟩, lw_i2 236 rfl rfl⟩
theorem mk_120 : am_mok TT 120 := ⟨lw_i2 230 rfl rfl, ci_9, rfl, by decide, cn_9, ⟨cm_9, cv_9, pd_15⟩, ⟨by decide, lw_i2 228 rfl rfl, lw_i2 229 rfl rfl⟩⟩
theorem mk_121 : am_mok TT 121 := ⟨lw_i3 9 rfl rfl, ci_9, rfl, by decide, cn_9, ⟨cm_9, cv_9, pd_22⟩, ⟨by decide, lw_i3 7 rfl rfl, lw_i3 8 rfl rfl⟩⟩
theorem mk_122 : am_mok TT 122 := ⟨lw_i3 29 rfl rfl, ci_9, rfl, by decide, cn_9, ⟨cm_9, cv_9, pd_10⟩, ⟨by decide, lw_i3 27 rfl rfl, lw_i3 28 rfl rfl⟩⟩
theorem mk_123 : am_mok TT 123 := ⟨lw_i3 38 rfl rfl, ci_9, rfl, by decide, cn_9, ⟨cm_9, cv_9, pd_20⟩, ⟨by decide, lw_i3 36 rfl rfl, lw_i3 37 rfl rfl⟩⟩
theorem mk_124 : am_mok TT 124 := ⟨lw_i3 53 rfl rfl, ci_9, rfl, by decide, cn_9, ⟨cm_9, cv_9, pd_18⟩, ⟨by decide, lw_i3 51 rfl rfl, lw_i3 52 rfl rfl⟩⟩
theorem mk_125 : am_mok TT 125 := ⟨lw_i3 57 rfl rfl, ci_9, rfl, by decide, cn_9, ⟨cm_9, cv_9, pd_7⟩, ⟨by decide, lw_i3 56 rfl rfl, lw_ip 1 rfl rfl⟩⟩
theorem mk_126 : am_mok TT 126 := ⟨lw_i3 61 rfl rfl, ci_9, rfl, by decide, cn_9, ⟨cm_9, cv_9, pd_6⟩, ⟨by decide, lw_i3 59 rfl rfl, lw_i3 60 rfl rfl⟩⟩
theorem mk_127 : am_mok TT 127 := ⟨lw_i3 187 rfl rfl, ci_9, rfl, by decide, cn_9, ⟨cm_9, cv_9, pd_6⟩, ⟨by decide, lw_i3 185 rfl rfl, lw_i3 186 rfl rfl⟩⟩
theorem mk_128 : am_mok TT 128 := ⟨lw_i4 10 rfl rfl, ci_9, rfl, by decide, cn_9, ⟨cm_9, cv_9, pd_6⟩, ⟨by decide, lw_i4 8 rfl rfl, lw_i4 9 rfl rfl⟩⟩
theorem mk_129 : am_mok TT 129 := ⟨lw_i4 14 rfl rfl, ci_9, rfl, by decide, cn_9, ⟨cm_9, cv_9, pd_6⟩, ⟨by decide, lw_i4 12 rfl rfl, lw_i4 13 rfl rfl⟩⟩
theorem mk_130 : am_mok TT 130 := ⟨lw_i4 22 rfl rfl, ci_9, rfl, by decide, cn_9, ⟨cm_9, cv_9, pd_9⟩, ⟨by decide, lw_i4 20 rfl rfl, lw_i4 21 rfl rfl⟩⟩
theorem mk_131 : am_mok TT 131 := ⟨lw_i4 34 rfl rfl, ci_9, rfl, by decide, cn_9, ⟨cm_9, cv_9, pd_9⟩, ⟨by decide, lw_i4 32 rfl rfl, lw_i4 33 rfl rfl⟩⟩
theorem mk_132 : am_mok TT 132 := ⟨lw_i4 54 rfl rfl, ci_9, rfl, by decide, cn_9, ⟨cm_9, cv_9, pd_1⟩, ⟨by decide, lw_i4 52 rfl rfl, lw_i4 53 rfl rfl⟩⟩
theorem mk_133 : am_mok TT 133 := ⟨lw_i4 91 rfl rfl, ci_9, rfl, by decide, cn_9, ⟨cm_9, cv_9, pd_26⟩, ⟨by decide, lw_i4 89 rfl rfl, lw_i4 90 rfl rfl⟩⟩
theorem mk_134 : am_mok TT 134 := ⟨lw_i4 99 rfl rfl, ci_9, rfl, by decide, cn_9, ⟨cm_9, cv_9, pd_6⟩, ⟨by decide, lw_i4 97 rfl rfl, lw_i4 98 rfl rfl⟩⟩
theorem mk_135 : am_mok TT 135 := ⟨lw_i4 108 rfl rfl, ci_9, rfl, by decide, cn_9, ⟨cm_9, cv_9, pd_12⟩, ⟨by decide, lw_i4 106 rfl rfl, lw_i4 107 rfl rfl⟩⟩
theorem mk_136 : am_mok TT 136 := ⟨lw_i4 112 rfl rfl, ci_9, rfl, by decide, cn_9, ⟨cm_9, cv_9, pd_24⟩, ⟨by decide, lw_i4 110 rfl rfl, lw_i4 111 rfl rfl⟩⟩
theorem mk_137 : am_mok TT 137 := ⟨lw_i4 116 rfl rfl, ci_9, rfl, by decide, cn_9, ⟨cm_9, cv_9, pd_24⟩, ⟨by decide, lw_i4 114 rfl rfl, lw_i4 115 rfl rfl⟩⟩
theorem mk_138 : am_mok TT 138 := ⟨lw_i4 120 rfl rfl, ci_9, rfl, by decide, cn_9, ⟨cm_9, cv_9, pd_12⟩, ⟨by decide, lw_i4 118 rfl rfl, lw_i4 119 rfl rfl⟩⟩
theorem mk_139 : am_mok TT 139 := ⟨lw_i4 124 rfl rfl, ci_9, rfl, by decide, cn_9, ⟨cm_9, cv_9, pd_6⟩, ⟨by decide, lw_i4 122 rfl rfl, lw_i4 123 rfl rfl⟩⟩
theorem mk_140 : am_mok TT 140 := ⟨lw_i4 129 rfl rfl, ci_9, rfl, by decide, cn_9, ⟨cm_9, cv_9, pd_12⟩, ⟨by decide, lw_i4 127 rfl rfl, lw_i4 128 rfl rfl⟩⟩
theorem mk_141 : am_mok TT 141 := ⟨lw_i4 134 rfl rfl, ci_9, rfl, by decide, cn_9, ⟨cm_9, cv_9, pd_9⟩, ⟨by decide, lw_i4 132 rfl rfl, lw_i4 133 rfl rfl⟩⟩
theorem mk_142 : am_mok TT 142 := ⟨lw_i4 146 rfl rfl, ci_9, rfl, by decide, cn_9, ⟨cm_9, cv_9, pd_9⟩, ⟨by decide, lw_i4 145 rfl rfl, lw_ip 21 rfl rfl⟩⟩
theorem mk_143 : am_mok TT 143 := ⟨lw_i4 142 rfl rfl, ci_9, rfl, by decide, cn_9, ⟨cm_9, cv_9, pd_9⟩, ⟨by decide, lw_i4 140 rfl rfl, lw_i4 141 rfl rfl⟩⟩
theorem mk_144 : am_mok TT 144 := ⟨lw_i4 157 rfl rfl, ci_9, rfl, by decide, cn_9, ⟨cm_9, cv_9, pd_6⟩, ⟨by decide, lw_i4 155 rfl rfl, lw_i4 156 rfl rfl⟩⟩
theorem mk_145 : am_mok TT 145 := ⟨lw_i4 165 rfl rfl, ci_9, rfl, by decide, cn_9, ⟨cm_9, cv_9, pd_6⟩, ⟨by decide, lw_i4 163 rfl rfl, lw_i4 164 rfl rfl⟩⟩
theorem mk_146 : am_mok TT 146 := ⟨lw_i4 174 rfl rfl, ci_9, rfl, by decide, cn_9, ⟨cm_9, cv_9, pd_6⟩, ⟨by decide, lw_i4 172 rfl rfl, lw_i4 173 rfl rfl⟩⟩
theorem mk_147 : am_mok TT 147 := ⟨lw_i4 182 rfl rfl, ci_9, rfl, by decide, cn_9, ⟨cm_9, cv_9, pd_9⟩, ⟨by decide, lw_i4 180 rfl rfl, lw_i4 181 rfl rfl⟩⟩
theorem mk_148 : am_mok TT 148 := ⟨lw_i4 194 rfl rfl, ci_9, rfl, by decide, cn_9, ⟨cm_9, cv_9, pd_6⟩, ⟨by decide, lw_i4 192 rfl rfl, lw_i4 193 rfl rfl⟩⟩
theorem mk_149 : am_mok TT 149 := ⟨lw_i4 202 rfl rfl, ci_9, rfl, by decide, cn_9, ⟨cm_9, cv_9, pd_6⟩, ⟨by decide, lw_i4 200 rfl rfl, lw_i4 201 rfl rfl⟩⟩
theorem mk_150 : am_mok TT 150 := ⟨lw_i4 210 rfl rfl, ci_9, rfl, by decide, cn_9, ⟨cm_9, cv_9, pd_6⟩, ⟨by decide, lw_i4 208 rfl rfl, lw_i4 209 rfl rfl⟩⟩
theorem mk_151 : am_mok TT 151 := ⟨lw_i4 222 rfl rfl, ci_9, rfl, by decide, cn_9, ⟨cm_9, cv_9, pd_6⟩, ⟨by decide, lw_i4 220 rfl rfl, lw_i4 221 rfl rfl⟩⟩
theorem mk_152 : am_mok TT 152 := ⟨lw_i4 226 rfl rfl, ci_9, rfl, by decide, cn_9, ⟨cm_9, cv_9, pd_9⟩, ⟨by decide, lw_i4 224 rfl rfl, lw_i4 225 rfl rfl⟩⟩
theorem mk_153 : am_mok TT 153 := ⟨lw_i4 235 rfl rfl, ci_9, rfl, by decide, cn_9, ⟨cm_9, cv_9, pd_6⟩, ⟨by decide, lw_i4 233 rfl rfl, lw_i4 234 rfl rfl⟩⟩
theorem mk_154 : am_mok TT 154 := ⟨lw_i5 5 rfl rfl, ci_9, rfl, by decide, cn_9, ⟨cm_9, cv_9, pd_6⟩, ⟨by decide, lw_i5 3 rfl rfl, lw_i5 4 rfl rfl⟩⟩
theorem mk_155 : am_mok TT 155 := ⟨lw_i5 13 rfl rfl, ci_9, rfl, by decide, cn_9, ⟨cm_9, cv_9, pd_6⟩, ⟨by decide, lw_i5 11 rfl rfl, lw_i5 12 rfl rfl⟩⟩
theorem mk_156 : am_mok TT 156 := ⟨lw_i5 17 rfl rfl, ci_9, rfl, by decide, cn_9, ⟨cm_9, cv_9, pd_1⟩, ⟨by decide, lw_i5 15 rfl rfl, lw_i5 16 rfl rfl⟩⟩
theorem mk_157 : am_mok TT 157 := ⟨lw_i5 29 rfl rfl, ci_9, rfl, by decide, cn_9, ⟨cm_9, cv_9, pd_1⟩, ⟨by decide, lw_i5 27 rfl rfl, lw_i5 28 rfl rfl⟩⟩
theorem mk_158 : am_mok TT 158 := ⟨lw_i5 34 rfl rfl, ci_9, rfl, by decide, cn_9, ⟨cm_9, cv_9, pd_1⟩, ⟨by decide, lw_i5 32 rfl rfl, lw_i5 33 rfl rfl⟩⟩
theorem mk_159 : am_mok TT 159 := ⟨lw_i5 46 rfl rfl, ci_9, rfl, by decide, cn_9, ⟨cm_9, cv_9, pd_7⟩, ⟨by decide, lw_i5 45 rfl rfl, lw_ip 22 rfl rfl⟩⟩
theorem mk_160 : am_mok TT 160 := ⟨lw_i5 42 rfl rfl, ci_9, rfl, by decide, cn_9, ⟨cm_9, cv_9, pd_6⟩, ⟨by decide, lw_i5 40 rfl rfl, lw_i5 41 rfl rfl⟩⟩
theorem mk_161 : am_mok TT 161 := ⟨lw_i5 54 rfl rfl, ci_9, rfl, by decide, cn_9, ⟨cm_9, cv_9, pd_6⟩, ⟨by decide, lw_i5 52 rfl rfl, lw_i5 53 rfl rfl⟩⟩
theorem mk_162 : am_mok TT 162 := ⟨lw_i5 58 rfl rfl, ci_9, rfl, by decide, cn_9, ⟨cm_9, cv_9, pd_9⟩, ⟨by decide, lw_i5 56 rfl rfl, lw_i5 57 rfl rfl⟩⟩
theorem mk_163 : am_mok TT 163 := ⟨lw_i5 66 rfl rfl, ci_9, rfl, by decide, cn_9, ⟨cm_9, cv_9, pd_13⟩, ⟨by decide, lw_i5 65 rfl rfl, lw_ip 23 rfl rfl⟩⟩
theorem mk_164 : am_mok TT 164 := ⟨lw_i5 75 rfl rfl, ci_9, rfl, by decide, cn_9, ⟨cm_9, cv_9, pd_13⟩, ⟨by decide, lw_i5 74 rfl rfl, lw_ip 24 rfl rfl⟩⟩
theorem mk_165 : am_mok TT 165 := ⟨lw_i5 62 rfl rfl, ci_9, rfl, by decide, cn_9, ⟨cm_9, cv_9, pd_13⟩, ⟨by decide, lw_i5 60 rfl rfl, lw_i5 61 rfl rfl⟩⟩
theorem mk_166 : am_mok TT 166 := ⟨lw_i5 80 rfl rfl, ci_9, rfl, by decide, cn_9, ⟨cm_9, cv_9, pd_16⟩, ⟨by decide, lw_i5 78 rfl rfl, lw_i5 79 rfl rfl⟩⟩
theorem mk_167 : am_mok TT 167 := ⟨lw_i5 84 rfl rfl, ci_9, rfl, by decide, cn_9, ⟨cm_9, cv_9, pd_13⟩, ⟨by decide, lw_i5 82 rfl rfl, lw_i5 83 rfl rfl⟩⟩
theorem mk_168 : am_mok TT 168 := ⟨lw_i5 96 rfl rfl, ci_9, rfl, by decide, cn_9, ⟨cm_9, cv_9, pd_1⟩, ⟨by decide, lw_i5 94 rfl rfl, lw_i5 95 rfl rfl⟩⟩
theorem mk_169 : am_mok TT 169 := ⟨lw_i5 108 rfl rfl, ci_9, rfl, by decide, cn_9, ⟨cm_9, cv_9, pd_1⟩, ⟨by decide, lw_i5 106 rfl rfl, lw_i5 107 rfl rfl⟩⟩
theorem mk_170 : am_mok TT 170 := ⟨lw_i5 112 rfl rfl, ci_9, rfl, by decide, cn_9, ⟨cm_9, cv_9, pd_1⟩, ⟨by decide, lw_i5 110 rfl rfl, lw_i5 111 rfl rfl⟩⟩
theorem mk_171 : am_mok TT 171 := ⟨lw_i5 121 rfl rfl, ci_9, rfl, by decide, cn_9, ⟨cm_9, cv_9, pd_6⟩, ⟨by decide, lw_i5 119 rfl rfl, lw_i5 120 rfl rfl⟩⟩
theorem mk_172 : am_mok TT 172 := ⟨lw_i5 139 rfl rfl, ci_9, rfl, by decide, cn_9, ⟨cm_9, cv_9, pd_6⟩, ⟨by decide, lw_i5 137 rfl rfl, lw_i5 138 rfl rfl⟩⟩
theorem mk_173 : am_mok TT 173 := ⟨lw_i5 147 rfl rfl, ci_9, rfl, by decide, cn_9, ⟨cm_9, cv_9, pd_12⟩, ⟨by decide, lw_i5 145 rfl rfl, lw_i5 146 rfl rfl⟩⟩
theorem mk_174 : am_mok TT 174 := ⟨lw_i5 150 rfl rfl, ci_9, rfl, by decide, cn_9, ⟨cm_9, cv_9, pd_10⟩, lw_i5 149 rfl rfl⟩
theorem mk_175 : am_mok TT 175 := ⟨lw_i5 158 rfl rfl, ci_9, rfl, by decide, cn_9, ⟨cm_9, cv_9, pd_8⟩, ⟨by decide, lw_i5 156 rfl rfl, lw_i5 157 rfl rfl⟩⟩
theorem mk_176 : am_mok TT 176 := ⟨lw_i5 162 rfl rfl, ci_9, rfl, by decide, cn_9, ⟨cm_9, cv_9, pd_6⟩, ⟨by decide, lw_i5 160 rfl rfl, lw_i5 161 rfl rfl⟩⟩
theorem mk_177 : am_mok TT 177 := ⟨lw_i5 166 rfl rfl, ci_9, rfl, by decide, cn_9, ⟨cm_9, cv_9, pd_6⟩, ⟨by decide, lw_i5 164 rfl rfl, lw_i5 165 rfl rfl⟩⟩
theorem mk_178 : am_mok TT 178 := ⟨lw_i5 205 rfl rfl, ci_9, rfl, by decide, cn_9, ⟨cm_9, cv_9, pd_6⟩, ⟨by decide, lw_i5 203 rfl rfl, lw_i5 204 rfl rfl⟩⟩
theorem mk_179 : am_mok TT 179 := ⟨lw_i5 209 rfl rfl, ci_9, rfl, by decide, cn_9, ⟨cm_9, cv_9, pd_12⟩, ⟨by decide, lw_i5 207 rfl rfl, lw_i5 208 rfl rfl⟩⟩
theorem mk_180 : am_mok TT 180 := ⟨lw_i5 213 rfl rfl, ci_9, rfl, by decide, cn_9, ⟨cm_9, cv_9, pd_1⟩, ⟨by decide, lw_i5 211 rfl rfl, lw_i5 212 rfl rfl⟩⟩
theorem mk_181 : am_mok TT 181 := ⟨lw_i5 217 rfl rfl, ci_9, rfl, by decide, cn_9, ⟨cm_9, cv_9, pd_1⟩, ⟨by decide, lw_i5 215 rfl rfl, lw_i5 216 rfl rfl⟩⟩
theorem mk_182 : am_mok TT 182 := ⟨lw_i5 222 rfl rfl, ci_10, rfl, by decide, cn_10, ⟨cm_10, cv_10, pd_3⟩, ⟨by decide, lw_i5 221 rfl rfl, rfl, rfl⟩⟩
theorem mk_183 : am_mok TT 183 := ⟨lw_i5 227 rfl rfl, ci_10, rfl, by decide, cn_10, ⟨cm_10, cv_10, pd_7⟩, ⟨by decide, lw_i5 226 rfl rfl, lw_ip 32 rfl rfl⟩⟩
theorem mk_184 : am_mok TT 184 := ⟨lw_i6 103 rfl rfl, ci_10, rfl, by decide, cn_10, ⟨cm_10, cv_10, pd_1⟩, ⟨by decide, lw_i6 101 rfl rfl, lw_i6 102 rfl rfl⟩⟩
theorem mk_185 : am_mok TT 185 := ⟨lw_i6 107 rfl rfl, ci_10, rfl, by decide, cn_10, ⟨cm_10, cv_10, pd_2⟩, ⟨by decide, lw_i6 105 rfl rfl, lw_i6 106 rfl rfl⟩⟩
theorem mk_186 : am_mok TT 186 := ⟨lw_i6 111 rfl rfl, ci_10, rfl, by decide, cn_10, ⟨cm_10, cv_10, pd_2⟩, ⟨by decide, lw_i6 109 rfl rfl, lw_i6 110 rfl rfl⟩⟩
theorem mk_187 : am_mok TT 187 := ⟨lw_i6 122 rfl rfl, ci_10, rfl, by decide, cn_10, ⟨cm_10, cv_10, pd_8⟩, ⟨by decide, lw_i6 121 rfl rfl, lw_ip 33 rfl rfl⟩⟩
theorem mk_188 : am_mok TT 188 := ⟨lw_i6 182 rfl rfl, ci_10, rfl, by decide, cn_10, ⟨cm_10, cv_10, pd_6⟩, ⟨by decide, lw_i6 181 rfl rfl, lw_ip 39 rfl rfl⟩⟩
theorem mk_189 : am_mok TT 189 := ⟨lw_i7 28 rfl rfl, ci_10, rfl, by decide, cn_10, ⟨cm_10, cv_10, pd_6⟩, ⟨by decide, lw_i7 27 rfl rfl, lw_ip 59 rfl rfl⟩⟩
theorem mk_190 : am_mok TT 190 := ⟨lw_i8 27 rfl rfl, ci_10, rfl, by decide, cn_10, ⟨cm_10, cv_10, pd_6⟩, ⟨by decide, lw_i8 26 rfl rfl, lw_ip 91 rfl rfl⟩⟩
theorem mk_191 : am_mok TT 191 := ⟨lw_i8 146 rfl rfl, ci_10, rfl, by decide, cn_10, ⟨cm_10, cv_10, pd_33⟩, ⟨by decide, lw_i8 145 rfl rfl, lw_ip 103 rfl rfl⟩⟩
theorem mk_192 : am_mok TT 192 := ⟨lw_i6 118 rfl rfl, ci_10, rfl, by decide, cn_10, ⟨cm_10, cv_10, pd_8⟩, lw_i6 117 rfl rfl⟩
theorem mk_193 : am_mok TT 193 := ⟨lw_i6 133 rfl rfl, ci_10, rfl, by decide, cn_10, ⟨cm_10, cv_10, pd_31⟩, lw_i6 132 rfl rfl⟩
theorem mk_194 : am_mok TT 194 := ⟨lw_i6 115 rfl rfl, ci_10, rfl, by decide, cn_10, ⟨cm_10, cv_10, pd_15⟩, ⟨by decide, lw_i6 113 rfl rfl, lw_i6 114 rfl rfl⟩⟩
theorem mk_195 : am_mok TT 195 := ⟨lw_i6 130 rfl rfl, ci_10, rfl, by decide, cn_10, ⟨cm_10, cv_10, pd_9⟩, ⟨by decide, lw_i6 129 rfl rfl, lw_ip 34 rfl rfl⟩⟩
theorem mk_196 : am_mok TT 196 := ⟨lw_i6 126 rfl rfl, ci_10, rfl, by decide, cn_10, ⟨cm_10, cv_10, pd_22⟩, ⟨by decide, lw_i6 124 rfl rfl, lw_i6 125 rfl rfl⟩⟩
theorem mk_197 : am_mok TT 197 := ⟨lw_i6 137 rfl rfl, ci_10, rfl, by decide, cn_10, ⟨cm_10, cv_10, pd_10⟩, ⟨by decide, lw_i6 135 rfl rfl, lw_i6 136 rfl rfl⟩⟩
theorem mk_198 : am_mok TT 198 := ⟨lw_i6 142 rfl rfl, ci_10, rfl, by decide, cn_10, ⟨cm_10, cv_10, pd_20⟩, ⟨by decide, lw_i6 140 rfl rfl, lw_i6 141 rfl rfl⟩⟩
theorem mk_199 : am_mok TT 199 := ⟨lw_i7 160 rfl rfl, ci_10, rfl, by decide, cn_10, ⟨cm_10, cv_10, pd_34⟩, lw_i7 159 rfl rfl⟩
theorem mk_200 : am_mok TT 200 := ⟨lw_i6 146 rfl rfl, ci_10, rfl, by decide, cn_10, ⟨cm_10, cv_10, pd_18⟩, ⟨by decide, lw_i6 144 rfl rfl, lw_i6 145 rfl rfl⟩⟩
theorem mk_201 : am_mok TT 201 := ⟨lw_i6 150 rfl rfl, ci_10, rfl, by decide, cn_10, ⟨cm_10, cv_10, pd_7⟩, ⟨by decide, lw_i6 149 rfl rfl, lw_ip 35 rfl rfl⟩⟩
theorem mk_202 : am_mok TT 202 := ⟨lw_i6 170 rfl rfl, ci_10, rfl, by decide, cn_10, ⟨cm_10, cv_10, pd_6⟩, ⟨by decide, lw_i6 169 rfl rfl, lw_ip 38 rfl rfl⟩⟩
theorem mk_203 : am_mok TT 203 := ⟨lw_i6 173 rfl rfl, ci_10, rfl, by decide, cn_10, ⟨cm_10, cv_10, pd_8⟩, lw_i6 172 rfl rfl⟩
theorem mk_204 : am_mok TT 204 := ⟨lw_i6 176 rfl rfl, ci_10, rfl, by decide, cn_10, ⟨cm_10, cv_10, pd_8⟩, lw_i6 175 rfl rfl⟩
theorem mk_205 : am_mok TT 205 := ⟨lw_i6 166 rfl rfl, ci_10, rfl, by decide, cn_10, ⟨cm_10, cv_10, pd_3⟩, ⟨by decide, lw_i6 165 rfl rfl, lw_ip 37 rfl rfl⟩⟩
theorem mk_206 : am_mok TT 206 := ⟨lw_i7 20 rfl rfl, ci_10, rfl, by decide, cn_10, ⟨cm_10, cv_10, pd_8⟩, ⟨by decide, lw_i7 19 rfl rfl, lw_ip 57 rfl rfl⟩⟩
theorem mk_207 : am_mok TT 207 := ⟨lw_i6 191 rfl rfl, ci_10, rfl, by decide, cn_10, ⟨cm_10, cv_10, pd_44⟩, ⟨by decide, lw_i6 190 rfl rfl, lw_ip 41 rfl rfl⟩⟩
theorem mk_208 : am_mok TT 208 := ⟨lw_i6 197 rfl rfl, ci_10, rfl, by decide, cn_10, ⟨cm_10, cv_10, pd_8⟩, ⟨by decide, lw_i6 196 rfl rfl, lw_ip 42 rfl rfl⟩⟩
theorem mk_209 : am_mok TT 209 := ⟨lw_i6 162 rfl rfl, ci_10, rfl, by decide, cn_10, ⟨cm_10, cv_10, pd_12⟩, ⟨by decide, lw_i6 161 rfl rfl, lw_ip 36 rfl rfl⟩⟩
theorem mk_210 : am_mok TT 210 := ⟨lw_i7 16 rfl rfl, ci_10, rfl, by decide, cn_10, ⟨cm_10, cv_10, pd_8⟩, ⟨by decide, lw_i7 15 rfl rfl, lw_ip 56 rfl rfl⟩⟩
theorem mk_211 : am_mok TT 211 := ⟨lw_i6 225 rfl rfl, ci_10, rfl, by decide, cn_10, ⟨cm_10, cv_10, pd_46⟩, ⟨by decide, lw_i6 224 rfl rfl, lw_ip 49 rfl rfl⟩⟩
theorem mk_212 : am_mok TT 212 := ⟨lw_i6 201 rfl rfl, ci_10, rfl, by decide, cn_10, ⟨cm_10, cv_10, pd_15⟩, ⟨by decide, lw_i6 200 rfl rfl, lw_ip 43 rfl rfl⟩⟩
theorem mk_213 : am_mok TT 213 := ⟨lw_i6 213 rfl rfl, ci_10, rfl, by decide, cn_10, ⟨cm_10, cv_10, pd_45⟩, ⟨by decide, lw_i6 212 rfl rfl, lw_ip 46 rfl rfl⟩⟩
theorem mk_214 : am_mok TT 214 := ⟨lw_i6 221 rfl rfl, ci_10, rfl, by decide, cn_10, ⟨cm_10, cv_10, pd_2⟩, ⟨by decide, lw_i6 220 rfl rfl, lw_ip 48 rfl rfl⟩⟩
theorem mk_215 : am_mok TT 215 := ⟨lw_i6 217 rfl rfl, ci_10, rfl, by decide, cn_10, ⟨cm_10, cv_10, pd_9⟩, ⟨by decide, lw_i6 216 rfl rfl, lw_ip 47 rfl rfl⟩⟩
theorem mk_216 : am_mok TT 216 := ⟨lw_i6 154 rfl rfl, ci_10, rfl, by decide, cn_10, ⟨cm_10, cv_10, pd_6⟩, ⟨by decide, lw_i6 152 rfl rfl, lw_i6 153 rfl rfl⟩⟩
theorem mk_217 : am_mok TT 217 := ⟨lw_i7 24 rfl rfl, ci_10, rfl, by decide, cn_10, ⟨cm_10, cv_10, pd_6⟩, ⟨by decide, lw_i7 23 rfl rfl, lw_ip 58 rfl rfl⟩⟩
theorem mk_218 : am_mok TT 218 := ⟨lw_i6 236 rfl rfl, ci_10, rfl, by decide, cn_10, ⟨cm_10, cv_10, pd_6⟩, lw_i6 235 rfl rfl⟩
theorem mk_219 : am_mok TT 219 := ⟨lw_i6 229 rfl rfl, ci_10, rfl, by decide, cn_10, ⟨cm_10, cv_10, pd_8⟩, ⟨by decide, lw_i6 228 rfl rfl, lw_ip 50 rfl rfl⟩⟩
theorem mk_220 : am_mok TT 220 := ⟨lw_i6 209 rfl rfl, ci_10, rfl, by decide, cn_10, ⟨cm_10, cv_10, pd_15⟩, ⟨by decide, lw_i6 208 rfl rfl, lw_ip 45 rfl rfl⟩⟩
theorem mk_221 : am_mok TT 221 := ⟨lw_i7 12 rfl rfl, ci_10, rfl, by decide, cn_10, ⟨cm_10, cv_10, pd_15⟩, ⟨by decide, lw_i7 11 rfl rfl, lw_ip 55 rfl rfl⟩⟩
theorem mk_222 : am_mok TT 222 := ⟨lw_i6 205 rfl rfl, ci_10, rfl, by decide, cn_10, ⟨cm_10, cv_10, pd_4⟩, ⟨by decide, lw_i6 204 rfl rfl, lw_ip 44 rfl rfl⟩⟩
theorem mk_223 : am_mok TT 223 := ⟨lw_i7 0 rfl rfl, ci_10, rfl, by decide, cn_10, ⟨cm_10, cv_10, pd_8⟩, ⟨by decide, lw_i6 239 rfl rfl, lw_ip 52 rfl rfl⟩⟩
theorem mk_224 : am_mok TT 224 := ⟨lw_i6 233 rfl rfl, ci_10, rfl, by decide, cn_10, ⟨cm_10, cv_10, pd_4⟩, ⟨by decide, lw_i6 232 rfl rfl, lw_ip 51 rfl rfl⟩⟩
theorem mk_225 : am_mok TT 225 := ⟨lw_i7 8 rfl rfl, ci_10, rfl, by decide, cn_10, ⟨cm_10, cv_10, pd_8⟩, ⟨by decide, lw_i7 7 rfl rfl, lw_ip 54 rfl rfl⟩⟩
theorem mk_226 : am_mok TT 226 := ⟨lw_i7 4 rfl rfl, ci_10, rfl, by decide, cn_10, ⟨cm_10, cv_10, pd_4⟩, ⟨by decide, lw_i7 3 rfl rfl, lw_ip 53 rfl rfl⟩⟩
theorem mk_227 : am_mok TT 227 := ⟨lw_i6 186 rfl rfl, ci_10, rfl, by decide, cn_10, ⟨cm_10, cv_10, pd_4⟩, ⟨by decide, lw_i6 185 rfl rfl, lw_ip 40 rfl rfl⟩⟩
theorem mk_228 : am_mok TT 228 := ⟨lw_i6 158 rfl rfl, ci_10, rfl, by decide, cn_10, ⟨cm_10, cv_10, pd_6⟩, ⟨by decide, lw_i6 156 rfl rfl, lw_i6 157 rfl rfl⟩⟩
theorem mk_229 : am_mok TT 229 := ⟨lw_i7 48 rfl rfl, ci_10, rfl, by decide, cn_10, ⟨cm_10, cv_10, pd_8⟩, ⟨by decide, lw_i7 47 rfl rfl, lw_ip 63 rfl rfl⟩⟩
theorem mk_230 : am_mok TT 230 := ⟨lw_i7 44 rfl rfl, ci_10, rfl, by decide, cn_10, ⟨cm_10, cv_10, pd_8⟩, ⟨by decide, lw_i7 43 rfl rfl, lw_ip 62 rfl rfl⟩⟩
theorem mk_231 : am_mok TT 231 := ⟨lw_i7 52 rfl rfl, ci_10, rfl, by decide, cn_10, ⟨cm_10, cv_10, pd_8⟩, ⟨by decide, lw_i7 51 rfl rfl, lw_ip 64 rfl rfl⟩⟩
theorem mk_232 : am_mok TT 232 := ⟨lw_i7 40 rfl rfl, ci_10, rfl, by decide, cn_10, ⟨cm_10, cv_10, pd_12⟩, ⟨by decide, lw_i7 39 rfl rfl, lw_ip 61 rfl rfl⟩⟩
theorem mk_233 : am_mok TT 233 := ⟨lw_i7 36 rfl rfl, ci_10, rfl, by decide, cn_10, ⟨cm_10, cv_10, pd_4⟩, ⟨by decide, lw_i7 35 rfl rfl, lw_ip 60 rfl rfl⟩⟩
theorem mk_234 : am_mok TT 234 := ⟨lw_i7 32 rfl rfl, ci_10, rfl, by decide, cn_10, ⟨cm_10, cv_10, pd_6⟩, ⟨by decide, lw_i7 30 rfl rfl, lw_i7 31 rfl rfl⟩⟩
theorem mk_235 : am_mok TT 235 := ⟨lw_i7 80 rfl rfl, ci_10, rfl, by decide, cn_10, ⟨cm_10, cv_10, pd_8⟩, ⟨by decide, lw_i7 79 rfl rfl, lw_ip 69 rfl rfl⟩⟩
theorem mk_236 : am_mok TT 236 := ⟨lw_i7 96 rfl rfl, ci_10, rfl, by decide, cn_10, ⟨cm_10, cv_10, pd_8⟩, ⟨by decide, lw_i7 95 rfl rfl, lw_ip 72 rfl rfl⟩⟩
theorem mk_237 : am_mok TT 237 := ⟨lw_i7 199 rfl rfl, ci_10, rfl, by decide, cn_10, ⟨cm_10, cv_10, pd_1⟩, ⟨by decide, lw_i7 198 rfl rfl, lw_ip 85 rfl rfl⟩⟩
theorem mk_238 : am_mok TT 238 := ⟨lw_i7 64 rfl rfl, ci_10, rfl, by decide, cn_10, ⟨cm_10, cv_10, pd_1⟩, ⟨by decide, lw_i7 63 rfl rfl, lw_ip 66 rfl rfl⟩⟩
theorem mk_239 : am_mok TT 239 := ⟨lw_i7 195 rfl rfl, ci_10, rfl, by decide, cn_10, ⟨cm_10, cv_10, pd_29⟩, ⟨by decide, lw_i7 194 rfl rfl, lw_ip 84 rfl rfl⟩⟩
theorem mk_240 : am_mok TT 240 := ⟨lw_i7 227 rfl rfl, ci_10, rfl, by decide, cn_10, ⟨cm_10, cv_10, pd_29⟩, ⟨by decide, lw_i7 226 rfl rfl, lw_ip 87 rfl rfl⟩⟩
theorem mk_241 : am_mok TT 241 := ⟨lw_i7 88 rfl rfl, ci_10, rfl, by decide, cn_10, ⟨cm_10, cv_10, pd_12⟩, ⟨by decide, lw_i7 87 rfl rfl, lw_ip 71 rfl rfl⟩⟩
theorem mk_242 : am_mok TT 242 := ⟨lw_i7 136 rfl rfl, ci_10, rfl, by decide, cn_10, ⟨cm_10, cv_10, pd_6⟩, lw_i7 135 rfl rfl⟩
theorem mk_243 : am_mok TT 243 := ⟨lw_i7 72 rfl rfl, ci_10, rfl, by decide, cn_10, ⟨cm_10, cv_10, pd_9⟩, ⟨by decide, lw_i7 71 rfl rfl, lw_ip 68 rfl rfl⟩⟩
theorem mk_244 : am_mok TT 244 := ⟨lw_i7 60 rfl rfl, ci_10, rfl, by decide, cn_10, ⟨cm_10, cv_10, pd_1⟩, ⟨by decide, lw_i7 59 rfl rfl, lw_ip 65 rfl rfl⟩⟩
theorem mk_245 : am_mok TT 245 := ⟨lw_i7 109 rfl rfl, ci_10, rfl, by decide, cn_10, ⟨cm_10, cv_10, pd_8⟩, ⟨by decide, lw_i7 108 rfl rfl, lw_ip 75 rfl rfl⟩⟩
theorem mk_246 : am_mok TT 246 := ⟨lw_i7 113 rfl rfl, ci_10, rfl, by decide, cn_10, ⟨cm_10, cv_10, pd_6⟩, ⟨by decide, lw_i7 112 rfl rfl, lw_ip 76 rfl rfl⟩⟩
theorem mk_247 : am_mok TT 247 := ⟨lw_i7 117 rfl rfl, ci_10, rfl, by decide, cn_10, ⟨cm_10, cv_10, pd_6⟩, ⟨by decide, lw_i7 116 rfl rfl, lw_ip 77 rfl rfl⟩⟩
theorem mk_248 : am_mok TT 248 := ⟨lw_i7 104 rfl rfl, ci_10, rfl, by decide, cn_10, ⟨cm_10, cv_10, pd_9⟩, ⟨by decide, lw_i7 103 rfl rfl, lw_ip 74 rfl rfl⟩⟩
theorem mk_249 : am_mok TT 249 := ⟨lw_i7 100 rfl rfl, ci_10, rfl, by decide, cn_10, ⟨cm_10, cv_10, pd_9⟩, ⟨by decide, lw_i7 99 rfl rfl, lw_ip 73 rfl rfl⟩⟩
theorem mk_250 : am_mok TT 250 := ⟨lw_i7 68 rfl rfl, ci_10, rfl, by decide, cn_10, ⟨cm_10, cv_10, pd_1⟩, ⟨by decide, lw_i7 67 rfl rfl, lw_ip 67 rfl rfl⟩⟩
theorem mk_251 : am_mok TT 251 := ⟨lw_i7 56 rfl rfl, ci_10, rfl, by decide, cn_10, ⟨cm_10, cv_10, pd_6⟩, ⟨by decide, lw_i7 54 rfl rfl, lw_i7 55 rfl rfl⟩⟩
theorem mk_252 : am_mok TT 252 := ⟨lw_i7 84 rfl rfl, ci_10, rfl, by decide, cn_10, ⟨cm_10, cv_10, pd_6⟩, ⟨by decide, lw_i7 83 rfl rfl, lw_ip 70 rfl rfl⟩⟩
theorem mk_253 : am_mok TT 253 := ⟨lw_i7 76 rfl rfl, ci_10, rfl, by decide, cn_10, ⟨cm_10, cv_10, pd_9⟩, ⟨by decide, lw_i7 74 rfl rfl, lw_i7 75 rfl rfl⟩⟩
theorem mk_254 : am_mok TT 254 := ⟨lw_i7 92 rfl rfl, ci_10, rfl, by decide, cn_10, ⟨cm_10, cv_10, pd_9⟩, ⟨by decide, lw_i7 90 rfl rfl, lw_i7 91 rfl rfl⟩⟩
theorem mk_255 : am_mok TT 255 := ⟨lw_i7 133 rfl rfl, ci_10, rfl, by decide, cn_10, ⟨cm_10, cv_10, pd_16⟩, ⟨by decide, lw_i7 132 rfl rfl, lw_ip 80 rfl rfl⟩⟩
theorem mk_256 : am_mok TT 256 := ⟨lw_i7 129 rfl rfl, ci_10, rfl, by decide, cn_10, ⟨cm_10, cv_10, pd_9⟩, ⟨by decide, lw_i7 128 rfl rfl, lw_ip 79 rfl rfl⟩⟩
theorem mk_257 : am_mok TT 257 := ⟨lw_i7 207 rfl rfl, ci_10, rfl, by decide, cn_10, ⟨cm_10, cv_10, pd_6⟩, ⟨by decide, lw_i7 206 rfl rfl, lw_ip 86 rfl rfl⟩⟩
theorem mk_258 : am_mok TT 258 := ⟨lw_i7 125 rfl rfl, ci_10, rfl, by decide, cn_10, ⟨cm_10, cv_10, pd_1⟩, ⟨by decide, lw_i7 124 rfl rfl, lw_ip 78 rfl rfl⟩⟩
theorem mk_259 : am_mok TT 259 := ⟨lw_i7 121 rfl rfl, ci_10, rfl, by decide, cn_10, ⟨cm_10, cv_10, pd_1⟩, ⟨by decide, lw_i7 119 rfl rfl, lw_i7 120 rfl rfl⟩⟩
theorem mk_260 : am_mok TT 260 := ⟨lw_i7 144 rfl rfl, ci_10, rfl, by decide, cn_10, ⟨cm_10, cv_10, pd_12⟩, ⟨by decide, lw_i7 143 rfl rfl, lw_ip 81 rfl rfl⟩⟩
theorem mk_261 : am_mok TT 261 := ⟨lw_i7 140 rfl rfl, ci_10, rfl, by decide, cn_10, ⟨cm_10, cv_10, pd_26⟩, ⟨by decide, lw_i7 138 rfl rfl, lw_i7 139 rfl rfl⟩⟩
theorem mk_262 : am_mok TT 262 := ⟨lw_i7 152 rfl rfl, ci_10, rfl, by decide, cn_10, ⟨cm_10, cv_10, pd_8⟩, ⟨by decide, lw_i7 151 rfl rfl, lw_ip 82 rfl rfl⟩⟩
theorem mk_263 : am_mok TT 263 := ⟨lw_i7 148 rfl rfl, ci_10, rfl, by decide, cn_10, ⟨cm_10, cv_10, pd_6⟩, ⟨by decide, lw_i7 146 rfl rfl, lw_i7 147 rfl rfl⟩⟩
theorem mk_264 : am_mok TT 264 := ⟨lw_i7 164 rfl rfl, ci_10, rfl, by decide, cn_10, ⟨cm_10, cv_10, pd_12⟩, ⟨by decide, lw_i7 163 rfl rfl, lw_ip 83 rfl rfl⟩⟩
theorem mk_265 : am_mok TT 265 := ⟨lw_i7 156 rfl rfl, ci_10, rfl, by decide, cn_10, ⟨cm_10, cv_10, pd_12⟩, ⟨by decide, lw_i7 154 rfl rfl, lw_i7 155 rfl rfl⟩⟩
theorem mk_266 : am_mok TT 266 := ⟨lw_i7 168 rfl rfl, ci_10, rfl, by decide, cn_10, ⟨cm_10, cv_10, pd_24⟩, ⟨by decide, lw_i7 166 rfl rfl, lw_i7 167 rfl rfl⟩⟩
theorem mk_267 : am_mok TT 267 := ⟨lw_i7 172 rfl rfl, ci_10, rfl, by decide, cn_10, ⟨cm_10, cv_10, pd_24⟩, ⟨by decide, lw_i7 170 rfl rfl, lw_i7 171 rfl rfl⟩⟩
theorem mk_268 : am_mok TT 268 := ⟨lw_i7 176 rfl rfl, ci_10, rfl, by decide, cn_10, ⟨cm_10, cv_10, pd_12⟩, ⟨by decide, lw_i7 174 rfl rfl, lw_i7 175 rfl rfl⟩⟩
theorem mk_269 : am_mok TT 269 := ⟨lw_i7 181 rfl rfl, ci_10, rfl, by decide, cn_10, ⟨cm_10, cv_10, pd_6⟩, ⟨by decide, lw_i7 179 rfl rfl, lw_i7 180 rfl rfl⟩⟩
theorem mk_270 : am_mok TT 270 := ⟨lw_i7 185 rfl rfl, ci_10, rfl, by decide, cn_10, ⟨cm_10, cv_10, pd_12⟩, ⟨by decide, lw_i7 183 rfl rfl, lw_i7 184 rfl rfl⟩⟩
theorem mk_271 : am_mok TT 271 := ⟨lw_i7 191 rfl rfl, ci_10, rfl, by decide, cn_10, ⟨cm_10, cv_10, pd_9⟩, ⟨by decide, lw_i7 189 rfl rfl, lw_i7 190 rfl rfl⟩⟩
theorem mk_272 : am_mok TT 272 := ⟨lw_i7 203 rfl rfl, ci_10, rfl, by decide, cn_10, ⟨cm_10, cv_10, pd_9⟩, ⟨by decide, lw_i7 201 rfl rfl, lw_i7 202 rfl rfl⟩⟩
theorem mk_273 : am_mok TT 273 := ⟨lw_i7 211 rfl rfl, ci_10, rfl, by decide, cn_10, ⟨cm_10, cv_10, pd_6⟩, ⟨by decide, lw_i7 209 rfl rfl, lw_i7 210 rfl rfl⟩⟩
theorem mk_274 : am_mok TT 274 := ⟨lw_i7 215 rfl rfl, ci_10, rfl, by decide, cn_10, ⟨cm_10, cv_10, pd_6⟩, ⟨by decide, lw_i7 213 rfl rfl, lw_i7 214 rfl rfl⟩⟩
theorem mk_275 : am_mok TT 275 := ⟨lw_i7 219 rfl rfl, ci_10, rfl, by decide, cn_10, ⟨cm_10, cv_10, pd_6⟩, ⟨by decide, lw_i7 217 rfl rfl, lw_i7 218 rfl rfl⟩⟩
theorem mk_276 : am_mok TT 276 := ⟨lw_i7 231 rfl rfl, ci_10, rfl, by decide, cn_10, ⟨cm_10, cv_10, pd_12⟩, ⟨by decide, lw_i7 230 rfl rfl, lw_ip 88 rfl rfl⟩⟩
theorem mk_277 : am_mok TT 277 := ⟨lw_i7 223 rfl rfl, ci_10, rfl, by decide, cn_10, ⟨cm_10, cv_10, pd_9⟩, ⟨by decide, lw_i7 221 rfl rfl, lw_i7 222 rfl rfl⟩⟩
theorem mk_278 : am_mok TT 278 := ⟨lw_i7 235 rfl rfl, ci_10, rfl, by decide, cn_10, ⟨cm_10, cv_10, pd_6⟩, ⟨by decide, lw_i7 233 rfl rfl, lw_i7 234 rfl rfl⟩⟩
theorem mk_279 : am_mok TT 279 := ⟨lw_i7 239 rfl rfl, ci_10, rfl, by decide, cn_10, ⟨cm_10, cv_10, pd_6⟩, ⟨by decide, lw_i7 237 rfl rfl, lw_i7 238 rfl rfl⟩⟩
theorem mk_280 : am_mok TT 280 := ⟨lw_i8 7 rfl rfl, ci_10, rfl, by decide, cn_10, ⟨cm_10, cv_10, pd_6⟩, ⟨by decide, lw_i8 6 rfl rfl, lw_ip 89 rfl rfl⟩⟩
theorem mk_281 : am_mok TT 281 := ⟨lw_i8 3 rfl rfl, ci_10, rfl, by decide, cn_10, ⟨cm_10, cv_10, pd_6⟩, ⟨by decide, lw_i8 1 rfl rfl, lw_i8 2 rfl rfl⟩⟩
theorem mk_282 : am_mok TT 282 := ⟨lw_i8 11 rfl rfl, ci_10, rfl, by decide, cn_10, ⟨cm_10, cv_10, pd_6⟩, ⟨by decide, lw_i8 9 rfl rfl, lw_i8 10 rfl rfl⟩⟩
theorem mk_283 : am_mok TT 283 := ⟨lw_i8 19 rfl rfl, ci_10, rfl, by decide, cn_10, ⟨cm_10, cv_10, pd_9⟩, ⟨by decide, lw_i8 18 rfl rfl, lw_ip 90 rfl rfl⟩⟩
theorem mk_284 : am_mok TT 284 := ⟨lw_i8 15 rfl rfl, ci_10, rfl, by decide, cn_10, ⟨cm_10, cv_10, pd_9⟩, ⟨by decide, lw_i8 13 rfl rfl, lw_i8 14 rfl rfl⟩⟩
theorem mk_285 : am_mok TT 285 := ⟨lw_i8 23 rfl rfl, ci_10, rfl, by decide, cn_10, ⟨cm_10, cv_10, pd_6⟩, ⟨by decide, lw_i8 21 rfl rfl, lw_i8 22 rfl rfl⟩⟩
theorem mk_286 : am_mok TT 286 := ⟨lw_i8 35 rfl rfl, ci_10, rfl, by decide, cn_10, ⟨cm_10, cv_10, pd_6⟩, ⟨by decide, lw_i8 34 rfl rfl, lw_ip 92 rfl rfl⟩⟩
theorem mk_287 : am_mok TT 287 := ⟨lw_i8 31 rfl rfl, ci_10, rfl, by decide, cn_10, ⟨cm_10, cv_10, pd_6⟩, ⟨by decide, lw_i8 29 rfl rfl, lw_i8 30 rfl rfl⟩⟩
theorem mk_288 : am_mok TT 288 := ⟨lw_i8 39 rfl rfl, ci_10, rfl, by decide, cn_10, ⟨cm_10, cv_10, pd_6⟩, ⟨by decide, lw_i8 37 rfl rfl, lw_i8 38 rfl rfl⟩⟩
theorem mk_289 : am_mok TT 289 := ⟨lw_i8 47 rfl rfl, ci_10, rfl, by decide, cn_10, ⟨cm_10, cv_10, pd_1⟩, ⟨by decide, lw_i8 46 rfl rfl, lw_ip 93 rfl rfl⟩⟩
theorem mk_290 : am_mok TT 290 := ⟨lw_i8 43 rfl rfl, ci_10, rfl, by decide, cn_10, ⟨cm_10, cv_10, pd_1⟩, ⟨by decide, lw_i8 41 rfl rfl, lw_i8 42 rfl rfl⟩⟩
theorem mk_291 : am_mok TT 291 := ⟨lw_i8 51 rfl rfl, ci_10, rfl, by decide, cn_10, ⟨cm_10, cv_10, pd_1⟩, ⟨by decide, lw_i8 49 rfl rfl, lw_i8 50 rfl rfl⟩⟩
theorem mk_292 : am_mok TT 292 := ⟨lw_i8 55 rfl rfl, ci_10, rfl, by decide, cn_10, ⟨cm_10, cv_10, pd_1⟩, ⟨by decide, lw_i8 53 rfl rfl, lw_i8 54 rfl rfl⟩⟩
theorem mk_293 : am_mok TT 293 := ⟨lw_i8 64 rfl rfl, ci_10, rfl, by decide, cn_10, ⟨cm_10, cv_10, pd_7⟩, ⟨by decide, lw_i8 63 rfl rfl, lw_ip 94 rfl rfl⟩⟩
theorem mk_294 : am_mok TT 294 := ⟨lw_i8 72 rfl rfl, ci_10, rfl, by decide, cn_10, ⟨cm_10, cv_10, pd_7⟩, ⟨by decide, lw_i8 71 rfl rfl, lw_ip 96 rfl rfl⟩⟩
theorem mk_295 : am_mok TT 295 := ⟨lw_i8 68 rfl rfl, ci_10, rfl, by decide, cn_10, ⟨cm_10, cv_10, pd_7⟩, ⟨by decide, lw_i8 67 rfl rfl, lw_ip 95 rfl rfl⟩⟩
theorem mk_296 : am_mok TT 296 := ⟨lw_i8 59 rfl rfl, ci_10, rfl, by decide, cn_10, ⟨cm_10, cv_10, pd_6⟩, ⟨by decide, lw_i8 57 rfl rfl, lw_i8 58 rfl rfl⟩⟩
theorem mk_297 : am_mok TT 297 := ⟨lw_i8 76 rfl rfl, ci_10, rfl, by decide, cn_10, ⟨cm_10, cv_10, pd_6⟩, ⟨by decide, lw_i8 74 rfl rfl, lw_i8 75 rfl rfl⟩⟩
theorem mk_298 : am_mok TT 298 := ⟨lw_i8 80 rfl rfl, ci_10, rfl, by decide, cn_10, ⟨cm_10, cv_10, pd_9⟩, ⟨by decide, lw_i8 78 rfl rfl, lw_i8 79 rfl rfl⟩⟩
theorem mk_299 : am_mok TT 299 := ⟨lw_i8 88 rfl rfl, ci_10, rfl, by decide, cn_10, ⟨cm_10, cv_10, pd_13⟩, ⟨by decide, lw_i8 87 rfl rfl, lw_ip 97 rfl rfl⟩⟩
theorem mk_300 : am_mok TT 300 := ⟨lw_i8 97 rfl rfl, ci_10, rfl, by decide, cn_10, ⟨cm_10, cv_10, pd_17⟩, ⟨by decide, lw_i8 96 rfl rfl, lw_ip 99 rfl rfl⟩⟩
theorem mk_301 : am_mok TT 301 := ⟨lw_i8 93 rfl rfl, ci_10, rfl, by decide, cn_10, ⟨cm_10, cv_10, pd_13⟩, ⟨by decide, lw_i8 92 rfl rfl, lw_ip 98 rfl rfl⟩⟩
theorem mk_302 : am_mok TT 302 := ⟨lw_i8 84 rfl rfl, ci_10, rfl, by decide, cn_10, ⟨cm_10, cv_10, pd_13⟩, ⟨by decide, lw_i8 82 rfl rfl, lw_i8 83 rfl rfl⟩⟩
theorem mk_303 : am_mok TT 303 := ⟨lw_i8 101 rfl rfl, ci_10, rfl, by decide, cn_10, ⟨cm_10, cv_10, pd_16⟩, ⟨by decide, lw_i8 99 rfl rfl, lw_i8 100 rfl rfl⟩⟩
theorem mk_304 : am_mok TT 304 := ⟨lw_i8 105 rfl rfl, ci_10, rfl, by decide, cn_10, ⟨cm_10, cv_10, pd_13⟩, ⟨by decide, lw_i8 103 rfl rfl, lw_i8 104 rfl rfl⟩⟩
theorem mk_305 : am_mok TT 305 := ⟨lw_i8 113 rfl rfl, ci_10, rfl, by decide, cn_10, ⟨cm_10, cv_10, pd_1⟩, ⟨by decide, lw_i8 112 rfl rfl, lw_ip 100 rfl rfl⟩⟩
theorem mk_306 : am_mok TT 306 := ⟨lw_i8 109 rfl rfl, ci_10, rfl, by decide, cn_10, ⟨cm_10, cv_10, pd_1⟩, ⟨by decide, lw_i8 107 rfl rfl, lw_i8 108 rfl rfl⟩⟩
theorem mk_307 : am_mok TT 307 := ⟨lw_i8 117 rfl rfl, ci_10, rfl, by decide, cn_10, ⟨cm_10, cv_10, pd_1⟩, ⟨by decide, lw_i8 115 rfl rfl, lw_i8 116 rfl rfl⟩⟩
theorem mk_308 : am_mok TT 308 := ⟨lw_i8 121 rfl rfl, ci_10, rfl, by decide, cn_10, ⟨cm_10, cv_10, pd_1⟩, ⟨by decide, lw_i8 119 rfl rfl, lw_i8 120 rfl rfl⟩⟩
theorem mk_309 : am_mok TT 309 := ⟨lw_i8 133 rfl rfl, ci_10, rfl, by decide, cn_10, ⟨cm_10, cv_10, pd_25⟩, ⟨by decide, lw_i8 132 rfl rfl, lw_ip 102 rfl rfl⟩⟩
theorem mk_310 : am_mok TT 310 := ⟨lw_i8 129 rfl rfl, ci_10, rfl, by decide, cn_10, ⟨cm_10, cv_10, pd_6⟩, ⟨by decide, lw_i8 128 rfl rfl, lw_ip 101 rfl rfl⟩⟩
theorem mk_311 : am_mok TT 311 := ⟨lw_i8 125 rfl rfl, ci_10, rfl, by decide, cn_10, ⟨cm_10, cv_10, pd_6⟩, ⟨by decide, lw_i8 123 rfl rfl, lw_i8 124 rfl rfl⟩⟩
theorem mk_312 : am_mok TT 312 := ⟨lw_i8 137 rfl rfl, ci_10, rfl, by decide, cn_10, ⟨cm_10, cv_10, pd_6⟩, ⟨by decide, lw_i8 135 rfl rfl, lw_i8 136 rfl rfl⟩⟩
theorem mk_313 : am_mok TT 313 := ⟨lw_i8 141 rfl rfl, ci_10, rfl, by decide, cn_10, ⟨cm_10, cv_10, pd_12⟩, ⟨by decide, lw_i8 139 rfl rfl, lw_i8 140 rfl rfl⟩⟩
theorem mk_314 : am_mok TT 314 := ⟨lw_i8 150 rfl rfl, ci_10, rfl, by decide, cn_10, ⟨cm_10, cv_10, pd_8⟩, ⟨by decide, lw_i8 148 rfl rfl, lw_i8 149 rfl rfl⟩⟩
theorem mk_315 : am_mok TT 315 := ⟨lw_i8 154 rfl rfl, ci_10, rfl, by decide, cn_10, ⟨cm_10, cv_10, pd_6⟩, ⟨by decide, lw_i8 152 rfl rfl, lw_i8 153 rfl rfl⟩⟩
theorem mk_316 : am_mok TT 316 := ⟨lw_i8 175 rfl rfl, ci_10, rfl, by decide, cn_10, ⟨cm_10, cv_10, pd_6⟩, ⟨by decide, lw_i8 174 rfl rfl, lw_ip 107 rfl rfl⟩⟩
theorem mk_317 : am_mok TT 317 := ⟨lw_i8 171 rfl rfl, ci_10, rfl, by decide, cn_10, ⟨cm_10, cv_10, pd_4⟩, ⟨by decide, lw_i8 170 rfl rfl, lw_ip 106 rfl rfl⟩⟩
theorem mk_318 : am_mok TT 318 := ⟨lw_i8 167 rfl rfl, ci_10, rfl, by decide, cn_10, ⟨cm_10, cv_10, pd_8⟩, ⟨by decide, lw_i8 166 rfl rfl, lw_ip 105 rfl rfl⟩⟩
theorem mk_319 : am_mok TT 319 := ⟨lw_i8 180 rfl rfl, ci_10, rfl, by decide, cn_10, ⟨cm_10, cv_10, pd_8⟩, ⟨by decide, lw_i8 179 rfl rfl, lw_ip 108 rfl rfl⟩⟩
theorem mk_320 : am_mok TT 320 := ⟨lw_i8 184 rfl rfl, ci_10, rfl, by decide, cn_10, ⟨cm_10, cv_10, pd_6⟩, ⟨by decide, lw_i8 183 rfl rfl, lw_ip 109 rfl rfl⟩⟩
theorem mk_321 : am_mok TT 321 := ⟨lw_i8 163 rfl rfl, ci_10, rfl, by decide, cn_10, ⟨cm_10, cv_10, pd_7⟩, ⟨by decide, lw_i8 162 rfl rfl, lw_ip 104 rfl rfl⟩⟩
theorem mk_322 : am_mok TT 322 := ⟨lw_i8 158 rfl rfl, ci_10, rfl, by decide, cn_10, ⟨cm_10, cv_10, pd_6⟩, ⟨by decide, lw_i8 156 rfl rfl, lw_i8 157 rfl rfl⟩⟩
theorem mk_323 : am_mok TT 323 := ⟨lw_i8 188 rfl rfl, ci_10, rfl, by decide, cn_10, ⟨cm_10, cv_10, pd_6⟩, ⟨by decide, lw_i8 186 rfl rfl, lw_i8 187 rfl rfl⟩⟩
theorem mk_324 : am_mok TT 324 := ⟨lw_i8 192 rfl rfl, ci_10, rfl, by decide, cn_10, ⟨cm_10, cv_10, pd_12⟩, ⟨by decide, lw_i8 190 rfl rfl, lw_i8 191 rfl rfl⟩⟩
theorem mk_325 : am_mok TT 325 := ⟨lw_i8 200 rfl rfl, ci_10, rfl, by decide, cn_10, ⟨cm_10, cv_10, pd_11⟩, ⟨by decide, lw_i8 199 rfl rfl, lw_ip 110 rfl rfl⟩⟩
theorem mk_326 : am_mok TT 326 := ⟨lw_i8 196 rfl rfl, ci_10, rfl, by decide, cn_10, ⟨cm_10, cv_10, pd_1⟩, ⟨by decide, lw_i8 194 rfl rfl, lw_i8 195 rfl rfl⟩⟩
theorem mk_327 : am_mok TT 327 := ⟨lw_i8 204 rfl rfl, ci_10, rfl, by decide, cn_10, ⟨cm_10, cv_10, pd_1⟩, ⟨by decide, lw_i8 202 rfl rfl, lw_i8 203 rfl rfl⟩⟩
theorem mk_328 : am_mok TT 328 := ⟨lw_i4 77 rfl rfl, ci_12, rfl, by decide, cn_12, ⟨cm_12, cv_12, pd_6⟩, lw_i4 76 rfl rfl⟩
theorem mk_329 : am_mok TT 329 := ⟨lw_i1 216 rfl rfl, ci_14, rfl, by decide, cn_14, ⟨cm_14, cv_14, pd_1⟩, ⟨by decide, lw_i1 214 rfl rfl, lw_i1 215 rfl rfl⟩⟩
theorem mk_330 : am_mok TT 330 := ⟨lw_i1 226 rfl rfl, ci_14, rfl, by decide, cn_14, ⟨cm_14, cv_14, pd_5⟩, ⟨by decide, lw_i1 224 rfl rfl, lw_i1 225 rfl rfl⟩⟩
theorem mk_331 : am_mok TT 331 := ⟨lw_i1 220 rfl rfl, ci_14, rfl, by decide, cn_14, ⟨cm_14, cv_14, pd_0⟩, ⟨by decide, lw_i1 218 rfl rfl, lw_i1 219 rfl rfl⟩⟩
theorem mk_332 : am_mok TT 332 := ⟨lw_i1 230 rfl rfl, ci_14, rfl, by decide, cn_14, ⟨cm_14, cv_14, pd_4⟩, ⟨by decide, lw_i1 228 rfl rfl, lw_i1 229 rfl rfl⟩⟩
theorem mk_333 : am_mok TT 333 := ⟨lw_i1 236 rfl rfl, ci_14, rfl, by decide, cn_14, ⟨cm_14, cv_14, pd_11⟩, lw_i1 235 rfl rfl⟩
theorem mk_334 : am_mok TT 334 := ⟨lw_i1 233 rfl rfl, ci_15, rfl, by decide, cn_15, ⟨cm_15, cv_15, pd_49⟩, lw_i1 232 rfl rfl⟩
theorem mk_335 : am_mok TT 335 := ⟨lw_i2 14 rfl rfl, ci_16, rfl, by decide, cn_16, ⟨cm_16, cv_16, pd_49⟩, lw_i2 13 rfl rfl⟩
theorem mk_336 : am_mok TT 336 := ⟨lw_i2 10 rfl rfl, ci_16, rfl, by decide, cn_16, ⟨cm_16, cv_16, pd_48⟩, lw_i2 9 rfl rfl⟩
theorem mk_337 : am_mok TT 337 := ⟨lw_i2 4 rfl rfl, ci_16, rfl, by decide, cn_16, ⟨cm_16, cv_16, pd_49⟩, lw_i2 3 rfl rfl⟩
theorem mk_338 : am_mok TT 338 := ⟨lw_i2 7 rfl rfl, ci_16, rfl, by decide, cn_16, ⟨cm_16, cv_16, pd_27⟩, lw_i2 6 rfl rfl⟩
theorem mk_339 : am_mok TT 339 := ⟨lw_i2 1 rfl rfl, ci_18, rfl, by decide, cn_18, ⟨cm_18, cv_18, pd_23⟩, lw_i2 0 rfl rfl⟩
theorem mkc_0 : ∀ y ∈ ([4, 5, 6, 7, 8, 9, 10, 11, 12, 13, 14, 15] : List Nat), am_mok TT y := List.forall_mem_cons.mpr ⟨mk_4, List.forall_mem_cons.mpr ⟨mk_5, List.forall_mem_cons.mpr ⟨mk_6, List.forall_mem_cons.mpr ⟨mk_7, List.forall_mem_cons.mpr ⟨mk_8, List.forall_mem_cons.mpr ⟨mk_9, List.forall_mem_cons.mpr ⟨mk_10, List.forall_mem_cons.mpr ⟨mk_11, List.forall_mem_cons.mpr ⟨mk_12, List.forall_mem_cons.mpr ⟨mk_13, List.forall_mem_cons.mpr ⟨mk_14, List.forall_mem_cons.mpr ⟨mk_15, fun _ h => absurd h List.not_mem_nil⟩⟩⟩⟩⟩⟩⟩⟩⟩⟩⟩⟩
theorem mkc_1 : ∀ y ∈ ([16, 17, 18, 19, 20, 21, 22, 23, 24, 25, 26, 27, 28, 29, 30, 31] : List Nat), am_mok TT y := List.forall_mem_cons.mpr ⟨mk_16, List.forall_mem_cons.mpr ⟨mk_17, List.forall_mem_cons.mpr ⟨mk_18, List.forall_mem_cons.mpr ⟨mk_19, List.forall_mem_cons.mpr ⟨mk_20, List.forall_mem_cons.mpr ⟨mk_21, List.forall_mem_cons.mpr ⟨mk_22, List.forall_mem_cons.mpr ⟨mk_23, List.forall_mem_cons.mpr ⟨mk_24, List.forall_mem_cons.mpr ⟨mk_25, List.forall_mem_cons.mpr ⟨mk_26, List.forall_mem_cons.mpr ⟨mk_27, List.forall_mem_cons.mpr ⟨mk_28, List.forall_mem_cons.mpr ⟨mk_29, List.forall_mem_cons.mpr ⟨mk_30, List.forall_mem_cons.mpr ⟨mk_31, fun _ h => absurd h List.not_mem_nil⟩⟩⟩⟩⟩⟩⟩⟩⟩⟩⟩⟩⟩⟩⟩⟩
theorem mkc_2 : ∀ y ∈ ([32, 33, 34, 35, 36, 37, 38, 39, 40, 41, 42, 43, 44, 45, 46, 47] : List Nat), am_mok TT y := List.forall_mem_cons.mpr ⟨mk_32, List.forall_mem_cons.mpr ⟨mk_33, List.forall_mem_cons.mpr ⟨mk_34, List.forall_mem_cons.mpr ⟨mk_35, List.forall_mem_cons.mpr ⟨mk_36, List.forall_mem_cons.mpr ⟨mk_37, List.forall_mem_cons.mpr ⟨mk_38, List.forall_mem_cons.mpr ⟨mk_39, List.forall_mem_cons.mpr ⟨mk_40, List.forall_mem_cons.mpr ⟨mk_41, List.forall_mem_cons.mpr ⟨mk_42, List.forall_mem_cons.mpr ⟨mk_43, List.forall_mem_cons.mpr ⟨mk_44, List.forall_mem_cons.mpr ⟨mk_45, List.forall_mem_cons.mpr ⟨mk_46, List.forall_mem_cons.mpr ⟨mk_47, fun _ h => absurd h List.not_mem_nil⟩⟩⟩⟩⟩⟩⟩⟩⟩⟩⟩⟩⟩⟩⟩⟩
theorem mkc_3 : ∀ y ∈ ([48, 49, 50, 51, 52, 53, 54, 55, 56, 57, 58, 59, 60, 61, 62, 63] : List Nat), am_mok TT y := List.forall_mem_cons.mpr ⟨mk_48, List.forall_mem_cons.mpr ⟨mk_49, List.forall_mem_cons.mpr ⟨mk_50, List.forall_mem_cons.mpr ⟨mk_51, List.forall_mem_cons.mpr ⟨mk_52, List.forall_mem_cons.mpr ⟨mk_53, List.forall_mem_cons.mpr ⟨mk_54, List.forall_mem_cons.mpr ⟨mk_55, List.forall_mem_cons.mpr ⟨mk_56, List.forall_mem_cons.mpr ⟨mk_57, List.forall_mem_cons.mpr ⟨mk_58, List.forall_mem_cons.mpr ⟨mk_59, List.forall_mem_cons.mpr ⟨mk_60, List.forall_mem_cons.mpr ⟨mk_61, List.forall_mem_cons.mpr ⟨mk_62, List.forall_mem_cons.mpr ⟨mk_63, fun _ h => absurd h List.not_mem_nil⟩⟩⟩⟩⟩⟩⟩⟩⟩⟩⟩⟩⟩⟩⟩⟩
theorem mkc_4 : ∀ y ∈ ([64, 65, 66, 67, 68, 69, 70, 71, 72, 73, 74, 75, 76, 77, 78, 79] : List Nat), am_mok TT y := List.forall_mem_cons.mpr ⟨mk_64, List.forall_mem_cons.mpr ⟨mk_65, List.forall_mem_cons.mpr ⟨mk_66, List.forall_mem_cons.mpr ⟨mk_67, List.forall_mem_cons.mpr ⟨mk_68, List.forall_mem_cons.mpr ⟨mk_69, List.forall_mem_cons.mpr ⟨mk_70, List.forall_mem_cons.mpr ⟨mk_71, List.forall_mem_cons.mpr ⟨mk_72, List.forall_mem_cons.mpr ⟨mk_73, List.forall_mem_cons.mpr ⟨mk_74, List.forall_mem_cons.mpr ⟨mk_75, List.forall_mem_cons.mpr ⟨mk_76, List.forall_mem_cons.mpr ⟨mk_77, List.forall_mem_cons.mpr ⟨mk_78, List.forall_mem_cons.mpr ⟨mk_79, fun _ h => absurd h List.not_mem_nil⟩⟩⟩⟩⟩⟩⟩⟩⟩⟩⟩⟩⟩⟩⟩⟩
theorem mkc_5 : ∀ y ∈ ([80, 81, 82, 83, 84, 85, 86, 87, 88, 89, 90, 91, 92, 93, 94, 95] : List Nat), am_mok TT y := List.forall_mem_cons.mpr ⟨mk_80, List.forall_mem_cons.mpr ⟨mk_81, List.forall_mem_cons.mpr ⟨mk_82, List.forall_mem_cons.mpr ⟨mk_83, List.forall_mem_cons.mpr ⟨mk_84, List.forall_mem_cons.mpr ⟨mk_85, List.forall_mem_cons.mpr ⟨mk_86, List.forall_mem_cons.mpr ⟨mk_87, List.forall_mem_cons.mpr ⟨mk_88, List.forall_mem_cons.mpr ⟨mk_89, List.forall_mem_cons.mpr ⟨mk_90, List.forall_mem_cons.mpr ⟨mk_91, List.forall_mem_cons.mpr ⟨mk_92, List.forall_mem_cons.mpr ⟨mk_93, List.forall_mem_cons.mpr ⟨mk_94, List.forall_mem_cons.mpr ⟨mk_95, fun _ h => absurd h List.not_mem_nil⟩⟩⟩⟩⟩⟩⟩⟩⟩⟩⟩⟩⟩⟩⟩⟩
theorem mkc_6 : ∀ y ∈ ([96, 97, 98, 99, 100, 101, 102, 103, 104, 105, 106, 107, 108, 109, 110, 111] : List Nat), am_mok TT y := List.forall_mem_cons.mpr ⟨mk_96, List.forall_mem_cons.mpr ⟨mk_97, List.forall_mem_cons.mpr ⟨mk_98, List.forall_mem_cons.mpr ⟨mk_99, List.forall_mem_cons.mpr ⟨mk_100, List.forall_mem_cons.mpr ⟨mk_101, List.forall_mem_cons.mpr ⟨mk_102, List.forall_mem_cons.mpr ⟨mk_103, List.forall_mem_cons.mpr ⟨mk_104, List.forall_mem_cons.mpr ⟨mk_105, List.forall_mem_cons.mpr ⟨mk_106, List.forall_mem_cons.mpr ⟨mk_107, List.forall_mem_cons.mpr ⟨mk_108, List.forall_mem_cons.mpr ⟨mk_109, List.forall_mem_cons.mpr ⟨mk_110, List.forall_mem_cons.mpr ⟨mk_111, fun _ h => absurd h List.not_mem_nil⟩⟩⟩⟩⟩⟩⟩⟩⟩⟩⟩⟩⟩⟩⟩⟩
theorem mkc_7 : ∀ y ∈ ([112, 113, 114, 115, 116, 117, 118, 119, 120, 121, 122, 123, 124, 125, 126, 127] : List Nat), am_mok TT y := List.forall_mem_cons.mpr ⟨mk_112, List.forall_mem_cons.mpr ⟨mk_113, List.forall_mem_cons.mpr ⟨mk_114, List.forall_mem_cons.mpr ⟨mk_115, List.forall_mem_cons.mpr ⟨mk_116, List.forall_mem_cons.mpr ⟨mk_117, List.forall_mem_cons.mpr ⟨mk_118, List.forall_mem_cons.mpr ⟨mk_119, List.forall_mem_cons.mpr ⟨mk_120, List.forall_mem_cons.mpr ⟨mk_121, List.forall_mem_cons.mpr ⟨mk_122, List.forall_mem_cons.mpr ⟨mk_123, List.forall_mem_cons.mpr ⟨mk_124, List.forall_mem_cons.mpr ⟨mk_125, List.forall_mem_cons.mpr ⟨mk_126, List.forall_mem_cons.mpr ⟨mk_127, fun _ h => absurd h List.not_mem_nil⟩⟩⟩⟩⟩⟩⟩⟩⟩⟩⟩⟩⟩⟩⟩⟩
theorem mkc_8 : ∀ y ∈ ([128, 129, 130, 131, 132, 133, 134, 135, 136, 137, 138, 139, 140, 141, 142, 143] : List Nat), am_mok TT y := List.forall_mem_cons.mpr ⟨mk_128, List.forall_mem_cons.mpr ⟨mk_129, List.forall_mem_cons.mpr ⟨mk_130, List.forall_mem_cons.mpr ⟨mk_131, List.forall_mem_cons.mpr ⟨mk_132, List.forall_mem_cons.mpr ⟨mk_133, List.forall_mem_cons.mpr ⟨mk_134, List.forall_mem_cons.mpr ⟨mk_135, List.forall_mem_cons.mpr ⟨mk_136, List.forall_mem_cons.mpr ⟨mk_137, List.forall_mem_cons.mpr ⟨mk_138, List.forall_mem_cons.mpr ⟨mk_139, List.forall_mem_cons.mpr ⟨mk_140, List.forall_mem_cons.mpr ⟨mk_141, List.forall_mem_cons.mpr ⟨mk_142, List.forall_mem_cons.mpr ⟨mk_143, fun _ h => absurd h List.not_mem_nil⟩⟩⟩⟩⟩⟩⟩⟩⟩⟩⟩⟩⟩⟩⟩⟩
theorem mkc_9 : ∀ y ∈ ([144, 145, 146, 147, 148, 149, 150, 151, 152, 153, 154, 155, 156, 157, 158, 159] : List Nat), am_mok TT y := List.forall_mem_cons.mpr ⟨mk_144, List.forall_mem_cons.mpr ⟨mk_145, List.forall_mem_cons.mpr ⟨mk_146, List.forall_mem_cons.mpr ⟨mk_147, List.forall_mem_cons.mpr ⟨mk_148, List.forall_mem_cons.mpr ⟨mk_149, List.forall_mem_cons.mpr ⟨mk_150, List.forall_mem_cons.mpr ⟨mk_151, List.forall_mem_cons.mpr ⟨mk_152, List.forall_mem_cons.mpr ⟨mk_153, List.forall_mem_cons.mpr ⟨mk_154, List.forall_mem_cons.mpr ⟨mk_155, List.forall_mem_cons.mpr ⟨mk_156, List.forall_mem_cons.mpr ⟨mk_157, List.forall_mem_cons.mpr ⟨mk_158, List.forall_mem_cons.mpr ⟨mk_159, fun _ h => absurd h List.not_mem_nil⟩⟩⟩⟩⟩⟩⟩⟩⟩⟩⟩⟩⟩⟩⟩⟩
theorem mkc_10 : ∀ y ∈ ([160, 161, 162, 163, 164, 165, 166, 167, 168, 169, 170, 171, 172, 173, 174, 175] : List Nat), am_mok TT y := List.forall_mem_cons.mpr ⟨mk_160, List.forall_mem_cons.mpr ⟨mk_161, List.forall_mem_cons.mpr ⟨mk_162, List.forall_mem_cons.mpr ⟨mk_163, List.forall_mem_cons.mpr ⟨mk_164, List.forall_mem_cons.mpr ⟨mk_165, List.forall_mem_cons.mpr ⟨mk_166, List.forall_mem_cons.mpr ⟨mk_167, List.forall_mem_cons.mpr ⟨mk_168, List.forall_mem_cons.mpr ⟨mk_169, List.forall_mem_cons.mpr ⟨mk_170, List.forall_mem_cons.mpr ⟨mk_171, List.forall_mem_cons.mpr ⟨mk_172, List.forall_mem_cons.mpr ⟨mk_173, List.forall_mem_cons.mpr ⟨mk_174, List.forall_mem_cons.mpr ⟨mk_175, fun _ h => absurd h List.not_mem_nil⟩⟩⟩⟩⟩⟩⟩⟩⟩⟩⟩⟩⟩⟩⟩⟩
theorem mkc_11 : ∀ y ∈ ([176, 177, 178, 179, 180, 181, 182, 183, 184, 185, 186, 187, 188, 189, 190, 191] : List Nat), am_mok TT y := List.forall_mem_cons.mpr ⟨mk_176, List.forall_mem_cons.mpr ⟨mk_177, List.forall_mem_cons.mpr ⟨mk_178, List.forall_mem_cons.mpr ⟨mk_179, List.forall_mem_cons.mpr ⟨mk_180, List.forall_mem_cons.mpr ⟨mk_181, List.forall_mem_cons.mpr ⟨mk_182, List.forall_mem_cons.mpr ⟨mk_183, List.forall_mem_cons.mpr ⟨mk_184, List.forall_mem_cons.mpr ⟨mk_185, List.forall_mem_cons.mpr ⟨mk_186, List.forall_mem_cons.mpr ⟨mk_187, List.forall_mem_cons.mpr ⟨mk_188, List.forall_mem_cons.mpr ⟨mk_189, List.forall_mem_cons.mpr ⟨mk_190, List.forall_mem_cons.mpr ⟨mk_191, fun _ h => absurd h List.not_mem_nil⟩⟩⟩⟩⟩⟩⟩⟩⟩⟩⟩⟩⟩⟩⟩⟩
theorem mkc_12 : ∀ y ∈ ([192, 193, 194, 195, 196, 197, 198, 199, 200, 201, 202, 203, 204, 205, 206, 207] : List Nat), am_mok TT y := List.forall_mem_cons.mpr ⟨mk_192, List.forall_mem_cons.mpr ⟨mk_193, List.forall_mem_cons.mpr ⟨mk_194, List.forall_mem_cons.mpr ⟨mk_195, List.forall_mem_cons.mpr ⟨mk_196, List.forall_mem_cons.mpr ⟨mk_197, List.forall_mem_cons.mpr ⟨mk_198, List.forall_mem_cons.mpr ⟨mk_199, List.forall_mem_cons.mpr ⟨mk_200, List.forall_mem_cons.mpr ⟨mk_201, List.forall_mem_cons.mpr ⟨mk_202, List.forall_mem_cons.mpr ⟨mk_203, List.forall_mem_cons.mpr ⟨mk_204, List.forall_mem_cons.mpr ⟨mk_205, List.forall_mem_cons.mpr ⟨mk_206, List.forall_mem_cons.mpr ⟨mk_207, fun _ h => absurd h List.not_mem_nil⟩⟩⟩⟩⟩⟩⟩⟩⟩⟩⟩⟩⟩⟩⟩⟩
theorem mkc_13 : ∀ y ∈ ([208, 209, 210, 211, 212, 213, 214, 215, 216, 217, 218, 219, 220, 221, 222, 223] : List Nat), am_mok TT y := List.forall_mem_cons.mpr ⟨mk_208, List.forall_mem_cons.mpr ⟨mk_209, List.forall_mem_cons.mpr ⟨mk_210, List.forall_mem_cons.mpr ⟨mk_211, List.forall_mem_cons.mpr ⟨mk_212, List.forall_mem_cons.mpr ⟨mk_213, List.forall_mem_cons.mpr ⟨mk_214, List.forall_mem_cons.mpr ⟨mk_215, List.forall_mem_cons.mpr ⟨mk_216, List.forall_mem_cons.mpr ⟨mk_217, List.forall_mem_cons.mpr ⟨mk_218, List.forall_mem_cons.mpr ⟨mk_219, List.forall_mem_cons.mpr ⟨mk_220, List.forall_mem_cons.mpr ⟨mk_221, List.forall_mem_cons.mpr ⟨mk_222, List.forall_mem_cons.mpr ⟨mk_223, fun _ h => absurd h List.not_mem_nil⟩⟩⟩⟩⟩⟩⟩⟩⟩⟩⟩⟩⟩⟩⟩⟩
theorem mkc_14 : ∀ y ∈ ([224, 225, 226, 227, 228, 229, 230, 231, 232, 233, 234, 235, 236, 237, 238, 239] : List Nat), am_mok TT y := List.forall_mem_cons.mpr ⟨mk_224, List.forall_mem_cons.mpr ⟨mk_225, List.forall_mem_cons.mpr ⟨mk_226, List.forall_mem_cons.mpr ⟨mk_227, List.forall_mem_cons.mpr ⟨mk_228, List.forall_mem_cons.mpr ⟨mk_229, List.forall_mem_cons.mpr ⟨mk_230, List.forall_mem_cons.mpr ⟨mk_231, List.forall_mem_cons.mpr ⟨mk_232, List.forall_mem_cons.mpr ⟨mk_233, List.forall_mem_cons.mpr ⟨mk_234, List.forall_mem_cons.mpr ⟨mk_235, List.forall_mem_cons.mpr ⟨mk_236, List.forall_mem_cons.mpr ⟨mk_237, List.forall_mem_cons.mpr ⟨mk_238, List.forall_mem_cons.mpr ⟨mk_239, fun _ h => absurd h List.not_mem_nil⟩⟩⟩⟩⟩⟩⟩⟩⟩⟩⟩⟩⟩⟩⟩⟩
theorem mkc_15 : ∀ y ∈ ([240, 241, 242, 243, 244, 245, 246, 247, 248, 249, 250, 251, 252, 253, 254, 255] : List Nat), am_mok TT y := List.forall_mem_cons.mpr ⟨mk_240, List.forall_mem_cons.mpr ⟨mk_241, List.forall_mem_cons.mpr ⟨mk_242, List.forall_mem_cons.mpr ⟨mk_243, List.forall_mem_cons.mpr ⟨mk_244, List.forall_mem_cons.mpr ⟨mk_245, List.forall_mem_cons.mpr ⟨mk_246, List.forall_mem_cons.mpr ⟨mk_247, List.forall_mem_cons.mpr ⟨mk_248, List.forall_mem_cons.mpr ⟨mk_249, List.forall_mem_cons.mpr ⟨mk_250, List.forall_mem_cons.mpr ⟨mk_251, List.forall_mem_cons.mpr ⟨mk_252, List.forall_mem_cons.mpr ⟨mk_253, List.forall_mem_cons.mpr ⟨mk_254, List.forall_mem_cons.mpr ⟨mk_255, fun _ h => absurd h List.not_mem_nil⟩⟩⟩⟩⟩⟩⟩⟩⟩⟩⟩⟩⟩⟩⟩⟩
theorem mkc_16 : ∀ y ∈ ([256, 257, 258, 259, 260, 261, 262, 263, 264, 265, 266, 267, 268, 269, 270, 271] : List Nat), am_mok TT y := List.forall_mem_cons.mpr ⟨mk_256, List.forall_mem_cons.mpr ⟨mk_257, List.forall_mem_cons.mpr ⟨mk_258, List.forall_mem_cons.mpr ⟨mk_259, List.forall_mem_cons.mpr ⟨mk_260, List.forall_mem_cons.mpr ⟨mk_261, List.forall_mem_cons.mpr ⟨mk_262, List.forall_mem_cons.mpr ⟨mk_263, List.forall_mem_cons.mpr ⟨mk_264, List.forall_mem_cons.mpr ⟨mk_265, List.forall_mem_cons.mpr ⟨mk_266, List.forall_mem_cons.mpr ⟨mk_267, List.forall_mem_cons.mpr ⟨mk_268, List.forall_mem_cons.mpr ⟨mk_269, List.forall_mem_cons.mpr ⟨mk_270, List.forall_mem_cons.mpr ⟨mk_271, fun _ h => absurd h List.not_mem_nil⟩⟩⟩⟩⟩⟩⟩⟩⟩⟩⟩⟩⟩⟩⟩⟩
theorem mkc_17 : ∀ y ∈ ([272, 273, 274, 275, 276, 277, 278, 279, 280, 281, 282, 283, 284, 285, 286, 287] : List Nat), am_mok TT y := List.forall_mem_cons.mpr ⟨mk_272, List.forall_mem_cons.mpr ⟨mk_273, List.forall_mem_cons.mpr ⟨mk_274, List.forall_mem_cons.mpr ⟨mk_275, List.forall_mem_cons.mpr ⟨mk_276, List.forall_mem_cons.mpr ⟨mk_277, List.forall_mem_cons.mpr ⟨mk_278, List.forall_mem_cons.mpr ⟨mk_279, List.forall_mem_cons.mpr ⟨mk_280, List.forall_mem_cons.mpr ⟨mk_281, List.forall_mem_cons.mpr ⟨mk_282, List.forall_mem_cons.mpr ⟨mk_283, List.forall_mem_cons.mpr ⟨mk_284, List.forall_mem_cons.mpr ⟨mk_285, List.forall_mem_cons.mpr ⟨mk_286, List.forall_mem_cons.mpr ⟨mk_287, fun _ h => absurd h List.not_mem_nil⟩⟩⟩⟩⟩⟩⟩⟩⟩⟩⟩⟩⟩⟩⟩⟩
theorem mkc_18 : ∀ y ∈ ([288, 289, 290, 291, 292, 293, 294, 295, 296, 297, 298, 299, 300, 301, 302, 303] : List Nat), am_mok TT y := List.forall_mem_cons.mpr ⟨mk_288, List.forall_mem_cons.mpr ⟨mk_289, List.forall_mem_cons.mpr ⟨mk_290, List.forall_mem_cons.mpr ⟨mk_291, List.forall_mem_cons.mpr ⟨mk_292, List.forall_mem_cons.mpr ⟨mk_293, List.forall_mem_cons.mpr ⟨mk_294, List.forall_mem_cons.mpr ⟨mk_295, List.forall_mem_cons.mpr ⟨mk_296, List.forall_mem_cons.mpr ⟨mk_297, List.forall_mem_cons.mpr ⟨mk_298, List.forall_mem_cons.mpr ⟨mk_299, List.forall_mem_cons.mpr ⟨mk_300, List.forall_mem_cons.mpr ⟨mk_301, List.forall_mem_cons.mpr ⟨mk_302, List.forall_mem_cons.mpr ⟨mk_303, fun _ h => absurd h List.not_mem_nil⟩⟩⟩⟩⟩⟩⟩⟩⟩⟩⟩⟩⟩⟩⟩⟩
theorem mkc_19 : ∀ y ∈ ([304, 305, 306, 307, 308, 309, 310, 311, 312, 313, 314, 315, 316, 317, 318, 319] : List Nat), am_mok TT y := List.forall_mem_cons.mpr ⟨mk_304, List.forall_mem_cons.mpr ⟨mk_305, List.forall_mem_cons.mpr ⟨mk_306, List.forall_mem_cons.mpr ⟨mk_307, List.forall_mem_cons.mpr ⟨mk_308, List.forall_mem_cons.mpr ⟨mk_309, List.forall_mem_cons.mpr ⟨mk_310, List.forall_mem_cons.mpr ⟨mk_311, List.forall_mem_cons.mpr ⟨mk_312, List.forall_mem_cons.mpr ⟨mk_313, List.forall_mem_cons.mpr ⟨mk_314, List.forall_mem_cons.mpr ⟨mk_315, List.forall_mem_cons.mpr ⟨mk_316, List.forall_mem_cons.mpr ⟨mk_317, List.forall_mem_cons.mpr ⟨mk_318, List.forall_mem_cons.mpr ⟨mk_319, fun _ h => absurd h List.not_mem_nil⟩⟩⟩⟩⟩⟩⟩⟩⟩⟩⟩⟩⟩⟩⟩⟩
theorem mkc_20 : ∀ y ∈ ([320, 321, 322, 323, 324, 325, 326, 327, 328, 329, 330, 331, 332, 333, 334, 335] : List Nat), am_mok TT y := List.forall_mem_cons.mpr ⟨mk_320, List.forall_mem_cons.mpr ⟨mk_321, List.forall_mem_cons.mpr ⟨mk_322, List.forall_mem_cons.mpr ⟨mk_323, List.forall_mem_cons.mpr ⟨mk_324, List.forall_mem_cons.mpr ⟨mk_325, List.forall_mem_cons.mpr ⟨mk_326, List.forall_mem_cons.mpr ⟨mk_327, List.forall_mem_cons.mpr ⟨mk_328, List.forall_mem_cons.mpr ⟨mk_329, List.forall_mem_cons.mpr ⟨mk_330, List.forall_mem_cons.mpr ⟨mk_331, List.forall_mem_cons.mpr ⟨mk_332, List.forall_mem_cons.mpr ⟨mk_333, List.forall_mem_cons.mpr ⟨mk_334, List.forall_mem_cons.mpr ⟨mk_335, fun _ h => absurd h List.not_mem_nil⟩⟩⟩⟩⟩⟩⟩⟩⟩⟩⟩⟩⟩⟩⟩⟩
theorem mkc_21 : ∀ y ∈ ([336, 337, 338, 339] : List Nat), am_mok TT y := List.forall_mem_cons.mpr ⟨mk_336, List.forall_mem_cons.mpr ⟨mk_337, List.forall_mem_cons.mpr ⟨mk_338, List.forall_mem_cons.mpr ⟨mk_339, fun _ h => absurd h List.not_mem_nil⟩⟩⟩⟩
end
section
/-! The layout behind both constructors: printed by wip/gen/rowsgen.py. -/
def tb_sh : List am_Shp := [.inl 9, .inr (.int, 900), .inl 6, .inr (.array .long, 4), .inr (.long, 60), .inr (.long, 60), .inr (.long, 60), .inr (.long, 60), .inr (.int, 4), .inr (.int, 4), .inr (.boolean, 4), .inl 2, .inl 0, .inr (.int, 6), .inr (.long, 6), .inr (.int, 8), .inr (.int, 8), .inr (.int, 8), .inr (.int, 8), .inr (.long, 8), .inr (.int, 8), .inl 7, .inr (.int, 60), .inr (.int, 60), .inr (.int, 60), .inr (.int, 60), .inr (.int, 60), .inr (.int, 60), .inl 0, .inr (.int, 6), .inr (.long, 6), .inr (.int, 8), .inr (.int, 8), .inr (.int, 8), .inr (.int, 8), .inr (.long, 8), .inr (.int, 8), .inl 7, .inr (.int, 60), .inr (.int, 60), .inr (.int, 60), .inr (.int, 60), .inr (.int, 60), .inr (.int, 60), .inr (.object "IslandCall$Boat", 3), .inr (.object "IslandCall$Years", 3), .inl 5, .inr (.long, 22), .inl 1, .inl 8, .inr (.int, 3), .inl 3, .inr (.int, 60), .inl 3, .inr (.int, 60), .inl 4, .inr (.int, 64), .inr (.int, 64), .inl 0, .inr (.int, 6), .inr (.long, 6), .inr (.int, 8), .inr (.int, 8), .inr (.int, 8), .inr (.int, 8), .inr (.long, 8), .inr (.int, 8), .inl 7, .inr (.int, 60), .inr (.int, 60), .inr (.int, 60), .inr (.int, 60), .inr (.int, 60), .inr (.int, 60), .inl 0, .inr (.int, 6), .inr (.long, 6), .inr (.int, 8), .inr (.int, 8), .inr (.int, 8), .inr (.int, 8), .inr (.long, 8), .inr (.int, 8), .inl 7, .inr (.int, 60), .inr (.int, 60), .inr (.int, 60), .inr (.int, 60), .inr (.int, 60), .inr (.int, 60), .inl 0, .inr (.int, 6), .inr (.long, 6), .inr (.int, 8), .inr (.int, 8), .inr (.int, 8), .inr (.int, 8), .inr (.long, 8), .inr (.int, 8), .inl 7, .inr (.int, 60), .inr (.int, 60), .inr (.int, 60), .inr (.int, 60), .inr (.int, 60), .inr (.int, 60), .inl 10, .inr (.int, 2592), .inr (.long, 84), .inr (.int, 4), .inr (.int, 4), .inr (.long, 240), .inr (.byte, 900), .inr (.byte, 900), .inr (.int, 3), .inr (.int, 8), .inr (.int, 64), .inr (.int, 64), .inr (.long, 13), .inr (.int, 80), .inr (.int, 5), .inr (.int, 5)]
def tb_rf : List (Nat × List (Nat × Nat)) := [(0, [(3, 1), (4, 2), (5, 11), (6, 12), (7, 21), (8, 28), (9, 37), (10, 44), (11, 45), (12, 46), (13, 48), (14, 49), (15, 51), (16, 53), (17, 55)]), (2, [(0, 3), (1, 8), (2, 9), (3, 10)]), (3, [(0, 4), (1, 5), (2, 6), (3, 7)]), (12, [(8, 13), (9, 14), (10, 15), (11, 16), (12, 17), (13, 18), (14, 19), (15, 20)]), (21, [(3, 22), (4, 23), (5, 24), (6, 25), (7, 26), (8, 27)]), (28, [(8, 29), (9, 30), (10, 31), (11, 32), (12, 33), (13, 34), (14, 35), (15, 36)]), (37, [(3, 38), (4, 39), (5, 40), (6, 41), (7, 42), (8, 43)]), (44, [(0, 58), (1, 74), (2, 90)]), (45, [(0, 67), (1, 83), (2, 99)]), (46, [(0, 1), (1, 47)]), (48, [(0, 46), (1, 28)]), (49, [(0, 46), (1, 37), (2, 12), (3, 50)]), (51, [(8, 52)]), (53, [(8, 54)]), (55, [(0, 12), (1, 56), (2, 57)]), (58, [(8, 59), (9, 60), (10, 61), (11, 62), (12, 63), (13, 64), (14, 65), (15, 66)]), (67, [(3, 68), (4, 69), (5, 70), (6, 71), (7, 72), (8, 73)]), (74, [(8, 75), (9, 76), (10, 77), (11, 78), (12, 79), (13, 80), (14, 81), (15, 82)]), (83, [(3, 84), (4, 85), (5, 86), (6, 87), (7, 88), (8, 89)]), (90, [(8, 91), (9, 92), (10, 93), (11, 94), (12, 95), (13, 96), (14, 97), (15, 98)]), (99, [(3, 100), (4, 101), (5, 102), (6, 103), (7, 104), (8, 105)]), (106, [(0, 107), (1, 108), (5, 109), (6, 110), (7, 111), (8, 112), (9, 113), (21, 114), (24, 115), (26, 116), (27, 117), (29, 118), (32, 119), (33, 120), (34, 121)])]
def tb_ref (a j : Nat) : Option Nat := match am_look tb_rf a with
  | some l => am_look l j
  | none => none
def S0 : List am_Shp × (Nat → Nat → Option Nat) := (tb_sh, tb_ref)
theorem sh_0 : S0.1[0]? = some (.inl 9) := rfl
theorem sh_1 : S0.1[1]? = some (.inr (.int, 900)) := rfl
theorem sh_2 : S0.1[2]? = some (.inl 6) := rfl
theorem sh_3 : S0.1[3]? = some (.inr (.array .long, 4)) := rfl
theorem sh_4 : S0.1[4]? = some (.inr (.long, 60)) := rfl
theorem sh_5 : S0.1[5]? = some (.inr (.long, 60)) := rfl
theorem sh_6 : S0.1[6]? = some (.inr (.long, 60)) := rfl
theorem sh_7 : S0.1[7]? = some (.inr (.long, 60)) := rfl
theorem sh_8 : S0.1[8]? = some (.inr (.int, 4)) := rfl
theorem sh_9 : S0.1[9]? = some (.inr (.int, 4)) := rfl
theorem sh_10 : S0.1[10]? = some (.inr (.boolean, 4)) := rfl
theorem sh_11 : S0.1[11]? = some (.inl 2) := rfl
theorem sh_12 : S0.1[12]? = some (.inl 0) := rfl
theorem sh_13 : S0.1[13]? = some (.inr (.int, 6)) := rfl
theorem sh_14 : S0.1[14]? = some (.inr (.long, 6)) := rfl
theorem sh_15 : S0.1[15]? = some (.inr (.int, 8)) := rfl
theorem sh_16 : S0.1[16]? = some (.inr (.int, 8)) := rfl
theorem sh_17 : S0.1[17]? = some (.inr (.int, 8)) := rfl
theorem sh_18 : S0.1[18]? = some (.inr (.int, 8)) := rfl
theorem sh_19 : S0.1[19]? = some (.inr (.long, 8)) := rfl
theorem sh_20 : S0.1[20]? = some (.inr (.int, 8)) := rfl
theorem sh_21 : S0.1[21]? = some (.inl 7) := rfl
theorem sh_22 : S0.1[22]? = some (.inr (.int, 60)) := rfl
theorem sh_23 : S0.1[23]? = some (.inr (.int, 60)) := rfl
theorem sh_24 : S0.1[24]? = some (.inr (.int, 60)) := rfl
theorem sh_25 : S0.1[25]? = some (.inr (.int, 60)) := rfl
theorem sh_26 : S0.1[26]? = some (.inr (.int, 60)) := rfl
theorem sh_27 : S0.1[27]? = some (.inr (.int, 60)) := rfl
theorem sh_28 : S0.1[28]? = some (.inl 0) := rfl
theorem sh_29 : S0.1[29]? = some (.inr (.int, 6)) := rfl
theorem sh_30 : S0.1[30]? = some (.inr (.long, 6)) := rfl
theorem sh_31 : S0.1[31]? = some (.inr (.int, 8)) := rfl
theorem sh_32 : S0.1[32]? = some (.inr (.int, 8)) := rfl
theorem sh_33 : S0.1[33]? = some (.inr (.int, 8)) := rfl
theorem sh_34 : S0.1[34]? = some (.inr (.int, 8)) := rfl
theorem sh_35 : S0.1[35]? = some (.inr (.long, 8)) := rfl
theorem sh_36 : S0.1[36]? = some (.inr (.int, 8)) := rfl
theorem sh_37 : S0.1[37]? = some (.inl 7) := rfl
theorem sh_38 : S0.1[38]? = some (.inr (.int, 60)) := rfl
theorem sh_39 : S0.1[39]? = some (.inr (.int, 60)) := rfl
theorem sh_40 : S0.1[40]? = some (.inr (.int, 60)) := rfl
theorem sh_41 : S0.1[41]? = some (.inr (.int, 60)) := rfl
theorem sh_42 : S0.1[42]? = some (.inr (.int, 60)) := rfl
theorem sh_43 : S0.1[43]? = some (.inr (.int, 60)) := rfl
theorem sh_44 : S0.1[44]? = some (.inr (.object "IslandCall$Boat", 3)) := rfl
theorem sh_45 : S0.1[45]? = some (.inr (.object "IslandCall$Years", 3)) := rfl
theorem sh_46 : S0.1[46]? = some (.inl 5) := rfl
theorem sh_47 : S0.1[47]? = some (.inr (.long, 22)) := rfl
theorem sh_48 : S0.1[48]? = some (.inl 1) := rfl
theorem sh_49 : S0.1[49]? = some (.inl 8) := rfl
theorem sh_50 : S0.1[50]? = some (.inr (.int, 3)) := rfl
theorem sh_51 : S0.1[51]? = some (.inl 3) := rfl
theorem sh_52 : S0.1[52]? = some (.inr (.int, 60)) := rfl
theorem sh_53 : S0.1[53]? = some (.inl 3) := rfl
theorem sh_54 : S0.1[54]? = some (.inr (.int, 60)) := rfl
theorem sh_55 : S0.1[55]? = some (.inl 4) := rfl
theorem sh_56 : S0.1[56]? = some (.inr (.int, 64)) := rfl
theorem sh_57 : S0.1[57]? = some (.inr (.int, 64)) := rfl
theorem sh_58 : S0.1[58]? = some (.inl 0) := rfl
theorem sh_59 : S0.1[59]? = some (.inr (.int, 6)) := rfl
theorem sh_60 : S0.1[60]? = some (.inr (.long, 6)) := rfl
theorem sh_61 : S0.1[61]? = some (.inr (.int, 8)) := rfl
theorem sh_62 : S0.1[62]? = some (.inr (.int, 8)) := rfl
theorem sh_63 : S0.1[63]? = some (.inr (.int, 8)) := rfl
theorem sh_64 : S0.1[64]? = some (.inr (.int, 8)) := rfl
theorem sh_65 : S0.1[65]? = some (.inr (.long, 8)) := rfl
theorem sh_66 : S0.1[66]? = some (.inr (.int, 8)) := rfl
theorem sh_67 : S0.1[67]? = some (.inl 7) := rfl
theorem sh_68 : S0.1[68]? = some (.inr (.int, 60)) := rfl
theorem sh_69 : S0.1[69]? = some (.inr (.int, 60)) := rfl
theorem sh_70 : S0.1[70]? = some (.inr (.int, 60)) := rfl
theorem sh_71 : S0.1[71]? = some (.inr (.int, 60)) := rfl
theorem sh_72 : S0.1[72]? = some (.inr (.int, 60)) := rfl
theorem sh_73 : S0.1[73]? = some (.inr (.int, 60)) := rfl
theorem sh_74 : S0.1[74]? = some (.inl 0) := rfl
theorem sh_75 : S0.1[75]? = some (.inr (.int, 6)) := rfl
theorem sh_76 : S0.1[76]? = some (.inr (.long, 6)) := rfl
theorem sh_77 : S0.1[77]? = some (.inr (.int, 8)) := rfl
theorem sh_78 : S0.1[78]? = some (.inr (.int, 8)) := rfl
theorem sh_79 : S0.1[79]? = some (.inr (.int, 8)) := rfl
theorem sh_80 : S0.1[80]? = some (.inr (.int, 8)) := rfl
theorem sh_81 : S0.1[81]? = some (.inr (.long, 8)) := rfl
theorem sh_82 : S0.1[82]? = some (.inr (.int, 8)) := rfl
theorem sh_83 : S0.1[83]? = some (.inl 7) := rfl
theorem sh_84 : S0.1[84]? = some (.inr (.int, 60)) := rfl
theorem sh_85 : S0.1[85]? = some (.inr (.int, 60)) := rfl
theorem sh_86 : S0.1[86]? = some (.inr (.int, 60)) := rfl
theorem sh_87 : S0.1[87]? = some (.inr (.int, 60)) := rfl
theorem sh_88 : S0.1[88]? = some (.inr (.int, 60)) := rfl
theorem sh_89 : S0.1[89]? = some (.inr (.int, 60)) := rfl
theorem sh_90 : S0.1[90]? = some (.inl 0) := rfl
theorem sh_91 : S0.1[91]? = some (.inr (.int, 6)) := rfl
theorem sh_92 : S0.1[92]? = some (.inr (.long, 6)) := rfl
theorem sh_93 : S0.1[93]? = some (.inr (.int, 8)) := rfl
theorem sh_94 : S0.1[94]? = some (.inr (.int, 8)) := rfl
theorem sh_95 : S0.1[95]? = some (.inr (.int, 8)) := rfl
theorem sh_96 : S0.1[96]? = some (.inr (.int, 8)) := rfl
theorem sh_97 : S0.1[97]? = some (.inr (.long, 8)) := rfl
theorem sh_98 : S0.1[98]? = some (.inr (.int, 8)) := rfl
theorem sh_99 : S0.1[99]? = some (.inl 7) := rfl
theorem sh_100 : S0.1[100]? = some (.inr (.int, 60)) := rfl
theorem sh_101 : S0.1[101]? = some (.inr (.int, 60)) := rfl
theorem sh_102 : S0.1[102]? = some (.inr (.int, 60)) := rfl
theorem sh_103 : S0.1[103]? = some (.inr (.int, 60)) := rfl
theorem sh_104 : S0.1[104]? = some (.inr (.int, 60)) := rfl
theorem sh_105 : S0.1[105]? = some (.inr (.int, 60)) := rfl
theorem sh_106 : S0.1[106]? = some (.inl 10) := rfl
theorem sh_107 : S0.1[107]? = some (.inr (.int, 2592)) := rfl
theorem sh_108 : S0.1[108]? = some (.inr (.long, 84)) := rfl
theorem sh_109 : S0.1[109]? = some (.inr (.int, 4)) := rfl
theorem sh_110 : S0.1[110]? = some (.inr (.int, 4)) := rfl
theorem sh_111 : S0.1[111]? = some (.inr (.long, 240)) := rfl
theorem sh_112 : S0.1[112]? = some (.inr (.byte, 900)) := rfl
theorem sh_113 : S0.1[113]? = some (.inr (.byte, 900)) := rfl
theorem sh_114 : S0.1[114]? = some (.inr (.int, 3)) := rfl
theorem sh_115 : S0.1[115]? = some (.inr (.int, 8)) := rfl
theorem sh_116 : S0.1[116]? = some (.inr (.int, 64)) := rfl
theorem sh_117 : S0.1[117]? = some (.inr (.int, 64)) := rfl
theorem sh_118 : S0.1[118]? = some (.inr (.long, 13)) := rfl
theorem sh_119 : S0.1[119]? = some (.inr (.int, 80)) := rfl
theorem sh_120 : S0.1[120]? = some (.inr (.int, 5)) := rfl
theorem sh_121 : S0.1[121]? = some (.inr (.int, 5)) := rfl
theorem rf_0_3 : S0.2 0 3 = some 1 := rfl
theorem rf_0_4 : S0.2 0 4 = some 2 := rfl
theorem rf_0_5 : S0.2 0 5 = some 11 := rfl
theorem rf_0_6 : S0.2 0 6 = some 12 := rfl
theorem rf_0_7 : S0.2 0 7 = some 21 := rfl
theorem rf_0_8 : S0.2 0 8 = some 28 := rfl
theorem rf_0_9 : S0.2 0 9 = some 37 := rfl
theorem rf_0_10 : S0.2 0 10 = some 44 := rfl
theorem rf_0_11 : S0.2 0 11 = some 45 := rfl
theorem rf_0_12 : S0.2 0 12 = some 46 := rfl
theorem rf_0_13 : S0.2 0 13 = some 48 := rfl
theorem rf_0_14 : S0.2 0 14 = some 49 := rfl
theorem rf_0_15 : S0.2 0 15 = some 51 := rfl
theorem rf_0_16 : S0.2 0 16 = some 53 := rfl
theorem rf_0_17 : S0.2 0 17 = some 55 := rfl
theorem rf_2_0 : S0.2 2 0 = some 3 := rfl
theorem rf_2_1 : S0.2 2 1 = some 8 := rfl
theorem rf_2_2 : S0.2 2 2 = some 9 := rfl
theorem rf_2_3 : S0.2 2 3 = some 10 := rfl
theorem rf_3_0 : S0.2 3 0 = some 4 := rfl
theorem rf_3_1 : S0.2 3 1 = some 5 := rfl
theorem rf_3_2 : S0.2 3 2 = some 6 := rfl
theorem rf_3_3 : S0.2 3 3 = some 7 := rfl
theorem rf_12_8 : S0.2 12 8 = some 13 := rfl
theorem rf_12_9 : S0.2 12 9 = some 14 := rfl
theorem rf_12_10 : S0.2 12 10 = some 15 := rfl
theorem rf_12_11 : S0.2 12 11 = some 16 := rfl
theorem rf_12_12 : S0.2 12 12 = some 17 := rfl
theorem rf_12_13 : S0.2 12 13 = some 18 := rfl
theorem rf_12_14 : S0.2 12 14 = some 19 := rfl
theorem rf_12_15 : S0.2 12 15 = some 20 := rfl
theorem rf_21_3 : S0.2 21 3 = some 22 := rfl
theorem rf_21_4 : S0.2 21 4 = some 23 := rfl
theorem rf_21_5 : S0.2 21 5 = some 24 := rfl
theorem rf_21_6 : S0.2 21 6 = some 25 := rfl
theorem rf_21_7 : S0.2 21 7 = some 26 := rfl
theorem rf_21_8 : S0.2 21 8 = some 27 := rfl
theorem rf_28_8 : S0.2 28 8 = some 29 := rfl
theorem rf_28_9 : S0.2 28 9 = some 30 := rfl
theorem rf_28_10 : S0.2 28 10 = some 31 := rfl
theorem rf_28_11 : S0.2 28 11 = some 32 := rfl
theorem rf_28_12 : S0.2 28 12 = some 33 := rfl
theorem rf_28_13 : S0.2 28 13 = some 34 := rfl
theorem rf_28_14 : S0.2 28 14 = some 35 := rfl
theorem rf_28_15 : S0.2 28 15 = some 36 := rfl
theorem rf_37_3 : S0.2 37 3 = some 38 := rfl
theorem rf_37_4 : S0.2 37 4 = some 39 := rfl
theorem rf_37_5 : S0.2 37 5 = some 40 := rfl
theorem rf_37_6 : S0.2 37 6 = some 41 := rfl
theorem rf_37_7 : S0.2 37 7 = some 42 := rfl
theorem rf_37_8 : S0.2 37 8 = some 43 := rfl
theorem rf_44_0 : S0.2 44 0 = some 58 := rfl
theorem rf_44_1 : S0.2 44 1 = some 74 := rfl
theorem rf_44_2 : S0.2 44 2 = some 90 := rfl
theorem rf_45_0 : S0.2 45 0 = some 67 := rfl
theorem rf_45_1 : S0.2 45 1 = some 83 := rfl
theorem rf_45_2 : S0.2 45 2 = some 99 := rfl
theorem rf_46_0 : S0.2 46 0 = some 1 := rfl
theorem rf_46_1 : S0.2 46 1 = some 47 := rfl
theorem rf_48_0 : S0.2 48 0 = some 46 := rfl
theorem rf_48_1 : S0.2 48 1 = some 28 := rfl
theorem rf_49_0 : S0.2 49 0 = some 46 := rfl
theorem rf_49_1 : S0.2 49 1 = some 37 := rfl
theorem rf_49_2 : S0.2 49 2 = some 12 := rfl
theorem rf_49_3 : S0.2 49 3 = some 50 := rfl
theorem rf_51_8 : S0.2 51 8 = some 52 := rfl
theorem rf_53_8 : S0.2 53 8 = some 54 := rfl
theorem rf_55_0 : S0.2 55 0 = some 12 := rfl
theorem rf_55_1 : S0.2 55 1 = some 56 := rfl
theorem rf_55_2 : S0.2 55 2 = some 57 := rfl
theorem rf_58_8 : S0.2 58 8 = some 59 := rfl
theorem rf_58_9 : S0.2 58 9 = some 60 := rfl
theorem rf_58_10 : S0.2 58 10 = some 61 := rfl
theorem rf_58_11 : S0.2 58 11 = some 62 := rfl
theorem rf_58_12 : S0.2 58 12 = some 63 := rfl
theorem rf_58_13 : S0.2 58 13 = some 64 := rfl
theorem rf_58_14 : S0.2 58 14 = some 65 := rfl
theorem rf_58_15 : S0.2 58 15 = some 66 := rfl
theorem rf_67_3 : S0.2 67 3 = some 68 := rfl
theorem rf_67_4 : S0.2 67 4 = some 69 := rfl
theorem rf_67_5 : S0.2 67 5 = some 70 := rfl
theorem rf_67_6 : S0.2 67 6 = some 71 := rfl
theorem rf_67_7 : S0.2 67 7 = some 72 := rfl
theorem rf_67_8 : S0.2 67 8 = some 73 := rfl
theorem rf_74_8 : S0.2 74 8 = some 75 := rfl
theorem rf_74_9 : S0.2 74 9 = some 76 := rfl
theorem rf_74_10 : S0.2 74 10 = some 77 := rfl
theorem rf_74_11 : S0.2 74 11 = some 78 := rfl
theorem rf_74_12 : S0.2 74 12 = some 79 := rfl
theorem rf_74_13 : S0.2 74 13 = some 80 := rfl
theorem rf_74_14 : S0.2 74 14 = some 81 := rfl
theorem rf_74_15 : S0.2 74 15 = some 82 := rfl
theorem rf_83_3 : S0.2 83 3 = some 84 := rfl
theorem rf_83_4 : S0.2 83 4 = some 85 := rfl
theorem rf_83_5 : S0.2 83 5 = some 86 := rfl
theorem rf_83_6 : S0.2 83 6 = some 87 := rfl
theorem rf_83_7 : S0.2 83 7 = some 88 := rfl
theorem rf_83_8 : S0.2 83 8 = some 89 := rfl
theorem rf_90_8 : S0.2 90 8 = some 91 := rfl
theorem rf_90_9 : S0.2 90 9 = some 92 := rfl
theorem rf_90_10 : S0.2 90 10 = some 93 := rfl
theorem rf_90_11 : S0.2 90 11 = some 94 := rfl
theorem rf_90_12 : S0.2 90 12 = some 95 := rfl
theorem rf_90_13 : S0.2 90 13 = some 96 := rfl
theorem rf_90_14 : S0.2 90 14 = some 97 := rfl
theorem rf_90_15 : S0.2 90 15 = some 98 := rfl
theorem rf_99_3 : S0.2 99 3 = some 100 := rfl
theorem rf_99_4 : S0.2 99 4 = some 101 := rfl
theorem rf_99_5 : S0.2 99 5 = some 102 := rfl
theorem rf_99_6 : S0.2 99 6 = some 103 := rfl
theorem rf_99_7 : S0.2 99 7 = some 104 := rfl
theorem rf_99_8 : S0.2 99 8 = some 105 := rfl
theorem rf_106_0 : S0.2 106 0 = some 107 := rfl
theorem rf_106_1 : S0.2 106 1 = some 108 := rfl
theorem rf_106_5 : S0.2 106 5 = some 109 := rfl
theorem rf_106_6 : S0.2 106 6 = some 110 := rfl
theorem rf_106_7 : S0.2 106 7 = some 111 := rfl
theorem rf_106_8 : S0.2 106 8 = some 112 := rfl
theorem rf_106_9 : S0.2 106 9 = some 113 := rfl
theorem rf_106_21 : S0.2 106 21 = some 114 := rfl
theorem rf_106_24 : S0.2 106 24 = some 115 := rfl
theorem rf_106_26 : S0.2 106 26 = some 116 := rfl
theorem rf_106_27 : S0.2 106 27 = some 117 := rfl
theorem rf_106_29 : S0.2 106 29 = some 118 := rfl
theorem rf_106_32 : S0.2 106 32 = some 119 := rfl
theorem rf_106_33 : S0.2 106 33 = some 120 := rfl
theorem rf_106_34 : S0.2 106 34 = some 121 := rfl
def bt (b : Nat) : Prop := b = 12 ∨ b = 28 ∨ b = 58 ∨ b = 74 ∨ b = 90
theorem bt_12 : bt 12 := by unfold bt; omega
theorem bt_28 : bt 28 := by unfold bt; omega
theorem bt_58 : bt 58 := by unfold bt; omega
theorem bt_74 : bt 74 := by unfold bt; omega
theorem bt_90 : bt 90 := by unfold bt; omega
theorem bt_sh {b : Nat} (h : bt b) : S0.1[b]? = some (.inl 0) := by rcases h with rfl | rfl | rfl | rfl | rfl <;> rfl
theorem bt_r8 {b : Nat} (h : bt b) : S0.2 b 8 = some (b + 1) := by rcases h with rfl | rfl | rfl | rfl | rfl <;> rfl
theorem bt_a1 {b : Nat} (h : bt b) : S0.1[b + 1]? = some (.inr (.int, 6)) := by rcases h with rfl | rfl | rfl | rfl | rfl <;> rfl
theorem bt_r9 {b : Nat} (h : bt b) : S0.2 b 9 = some (b + 2) := by rcases h with rfl | rfl | rfl | rfl | rfl <;> rfl
theorem bt_a2 {b : Nat} (h : bt b) : S0.1[b + 2]? = some (.inr (.long, 6)) := by rcases h with rfl | rfl | rfl | rfl | rfl <;> rfl
theorem bt_r10 {b : Nat} (h : bt b) : S0.2 b 10 = some (b + 3) := by rcases h with rfl | rfl | rfl | rfl | rfl <;> rfl
theorem bt_a3 {b : Nat} (h : bt b) : S0.1[b + 3]? = some (.inr (.int, 8)) := by rcases h with rfl | rfl | rfl | rfl | rfl <;> rfl
theorem bt_r11 {b : Nat} (h : bt b) : S0.2 b 11 = some (b + 4) := by rcases h with rfl | rfl | rfl | rfl | rfl <;> rfl
theorem bt_a4 {b : Nat} (h : bt b) : S0.1[b + 4]? = some (.inr (.int, 8)) := by rcases h with rfl | rfl | rfl | rfl | rfl <;> rfl
theorem bt_r12 {b : Nat} (h : bt b) : S0.2 b 12 = some (b + 5) := by rcases h with rfl | rfl | rfl | rfl | rfl <;> rfl
theorem bt_a5 {b : Nat} (h : bt b) : S0.1[b + 5]? = some (.inr (.int, 8)) := by rcases h with rfl | rfl | rfl | rfl | rfl <;> rfl
theorem bt_r13 {b : Nat} (h : bt b) : S0.2 b 13 = some (b + 6) := by rcases h with rfl | rfl | rfl | rfl | rfl <;> rfl
theorem bt_a6 {b : Nat} (h : bt b) : S0.1[b + 6]? = some (.inr (.int, 8)) := by rcases h with rfl | rfl | rfl | rfl | rfl <;> rfl
theorem bt_r14 {b : Nat} (h : bt b) : S0.2 b 14 = some (b + 7) := by rcases h with rfl | rfl | rfl | rfl | rfl <;> rfl
theorem bt_a7 {b : Nat} (h : bt b) : S0.1[b + 7]? = some (.inr (.long, 8)) := by rcases h with rfl | rfl | rfl | rfl | rfl <;> rfl
theorem bt_r15 {b : Nat} (h : bt b) : S0.2 b 15 = some (b + 8) := by rcases h with rfl | rfl | rfl | rfl | rfl <;> rfl
theorem bt_a8 {b : Nat} (h : bt b) : S0.1[b + 8]? = some (.inr (.int, 8)) := by rcases h with rfl | rfl | rfl | rfl | rfl <;> rfl
def yr (b : Nat) : Prop := b = 21 ∨ b = 37 ∨ b = 67 ∨ b = 83 ∨ b = 99
theorem yr_21 : yr 21 := by unfold yr; omega
theorem yr_37 : yr 37 := by unfold yr; omega
theorem yr_67 : yr 67 := by unfold yr; omega
theorem yr_83 : yr 83 := by unfold yr; omega
theorem yr_99 : yr 99 := by unfold yr; omega
theorem yr_sh {b : Nat} (h : yr b) : S0.1[b]? = some (.inl 7) := by rcases h with rfl | rfl | rfl | rfl | rfl <;> rfl
theorem yr_r3 {b : Nat} (h : yr b) : S0.2 b 3 = some (b + 1) := by rcases h with rfl | rfl | rfl | rfl | rfl <;> rfl
theorem yr_a1 {b : Nat} (h : yr b) : S0.1[b + 1]? = some (.inr (.int, 60)) := by rcases h with rfl | rfl | rfl | rfl | rfl <;> rfl
theorem yr_r4 {b : Nat} (h : yr b) : S0.2 b 4 = some (b + 2) := by rcases h with rfl | rfl | rfl | rfl | rfl <;> rfl
theorem yr_a2 {b : Nat} (h : yr b) : S0.1[b + 2]? = some (.inr (.int, 60)) := by rcases h with rfl | rfl | rfl | rfl | rfl <;> rfl
theorem yr_r5 {b : Nat} (h : yr b) : S0.2 b 5 = some (b + 3) := by rcases h with rfl | rfl | rfl | rfl | rfl <;> rfl
theorem yr_a3 {b : Nat} (h : yr b) : S0.1[b + 3]? = some (.inr (.int, 60)) := by rcases h with rfl | rfl | rfl | rfl | rfl <;> rfl
theorem yr_r6 {b : Nat} (h : yr b) : S0.2 b 6 = some (b + 4) := by rcases h with rfl | rfl | rfl | rfl | rfl <;> rfl
theorem yr_a4 {b : Nat} (h : yr b) : S0.1[b + 4]? = some (.inr (.int, 60)) := by rcases h with rfl | rfl | rfl | rfl | rfl <;> rfl
theorem yr_r7 {b : Nat} (h : yr b) : S0.2 b 7 = some (b + 5) := by rcases h with rfl | rfl | rfl | rfl | rfl <;> rfl
theorem yr_a5 {b : Nat} (h : yr b) : S0.1[b + 5]? = some (.inr (.int, 60)) := by rcases h with rfl | rfl | rfl | rfl | rfl <;> rfl
theorem yr_r8 {b : Nat} (h : yr b) : S0.2 b 8 = some (b + 6) := by rcases h with rfl | rfl | rfl | rfl | rfl <;> rfl
theorem yr_a6 {b : Nat} (h : yr b) : S0.1[b + 6]? = some (.inr (.int, 60)) := by rcases h with rfl | rfl | rfl | rfl | rfl <;> rfl
def lf (b : Nat) : Prop := b = 51 ∨ b = 53
theorem lf_51 : lf 51 := by unfold lf; omega
theorem lf_53 : lf 53 := by unfold lf; omega
theorem lf_sh {b : Nat} (h : lf b) : S0.1[b]? = some (.inl 3) := by rcases h with rfl | rfl <;> rfl
theorem lf_r8 {b : Nat} (h : lf b) : S0.2 b 8 = some (b + 1) := by rcases h with rfl | rfl <;> rfl
theorem lf_a1 {b : Nat} (h : lf b) : S0.1[b + 1]? = some (.inr (.int, 60)) := by rcases h with rfl | rfl <;> rfl
def tr (b : Nat) : Prop := b = 4 ∨ b = 5 ∨ b = 6 ∨ b = 7
theorem tr_sh {b : Nat} (h : tr b) : S0.1[b]? = some (.inr (.long, 60)) := by rcases h with rfl | rfl | rfl | rfl <;> rfl
end
section
/-! Rows of the small machine over S0: printed by wip/gen/rowsgen.py. -/
def am_si (f : Nat → Nat → Int32) (k j : Nat) (x : Int32) : Nat → Nat → Int32 := fun a i => if a = k then (if i = j then x else f a i) else f a i
def am_sj (f : Nat → Nat → Int64) (k j : Nat) (x : Int64) : Nat → Nat → Int64 := fun a i => if a = k then (if i = j then x else f a i) else f a i
def am_sc {α : Type} (f : Nat → Nat → α) (k : Nat) (g : Nat → α) : Nat → Nat → α := fun a i => if a = k then g i else f a i
def am_l0 (y : Nat) : Nat × Nat := (S0.1.length + iCel (pInf PP y), (S0.1.map (am_szq PP)).sum + iSlt (pInf PP y))
def am_k0 (y : Nat) (K : am_K) : am_K := fun r M' => M'.1.1.length = S0.1.length + iCel (pInf PP y) ∧ am_sz PP M' = (S0.1.map (am_szq PP)).sum + iSlt (pInf PP y) ∧ K r M'
def rn (E : am_E) (d y : Nat) (K : am_K) (pc : Nat) (L st : List Value) (mi : Nat → Nat → Int32) (ml : Nat → Nat → Int64) : Prop := am_wp PP E y (am_l0 y) (am_call PP E d) (am_k0 y K) pc L st (S0, mi, ml)
def cq (E : am_E) (d y : Nat) (as : List Value) (K : am_K) (mi : Nat → Nat → Int32) (ml : Nat → Nat → Int64) : Prop := am_call PP E d y as (S0, mi, ml) K
def kc (E : am_E) (d y : Nat) (K : am_K) (pc : Nat) (L rest : List Value) : am_K := fun r M' => am_wp PP E y (am_l0 y) (am_call PP E d) (am_k0 y K) pc L (r.toList ++ rest) M'
section
variable {E : am_E} {d y : Nat} {K : am_K} {pc : Nat} {L st : List Value} {mi : Nat → Nat → Int32} {ml : Nat → Nat → Int64} {n t : Nat}
theorem r_weak {L' : List Value} (hl : am_le L L') (h : rn E d y K pc L st mi ml) : rn E d y K pc L' st mi ml := am_wp_weak (am_call_mono d) hl h
theorem cq_mono {as : List Value} {K' : am_K} (hk : ∀ r M', K r M' → K' r M') (h : cq E d y as K mi ml) : cq E d y as K' mi ml := am_call_mono d _ _ _ _ _ hk h
theorem r_iconst {z : Int} {v : Int32} (hc : tb_code y pc = some (.iconst z, n, t)) (hv : Int32.ofInt z = v) (h : rn E d y K (pc + 1) L (.int v :: st) mi ml) : rn E d y K pc L st mi ml := by subst hv; exact am_wp_step (am_call_mono d) hc h
theorem r_bipush {z : Int} {v : Int32} (hc : tb_code y pc = some (.bipush z, n, t)) (hv : (Int8.ofInt z).toInt32 = v) (h : rn E d y K (pc + 2) L (.int v :: st) mi ml) : rn E d y K pc L st mi ml := by subst hv; exact am_wp_step (am_call_mono d) hc h
theorem r_sipush {z : Int} {v : Int32} (hc : tb_code y pc = some (.sipush z, n, t)) (hv : (Int16.ofInt z).toInt32 = v) (h : rn E d y K (pc + 3) L (.int v :: st) mi ml) : rn E d y K pc L st mi ml := by subst hv; exact am_wp_step (am_call_mono d) hc h
theorem r_lconst {z : Fin 2} {v : Int64} (hc : tb_code y pc = some (.lconst z, n, t)) (hv : Int64.ofNat (z : Nat) = v) (h : rn E d y K (pc + 1) L (.long v :: st) mi ml) : rn E d y K pc L st mi ml := by subst hv; exact am_wp_step (am_call_mono d) hc h
theorem r_iload_n {k : Fin 4} {x : Int32} (hc : tb_code y pc = some (.iload_n k, n, t)) (hl : L[(k : Nat)]? = some (.int x)) (h : rn E d y K (pc + 1) L (.int x :: st) mi ml) : rn E d y K pc L st mi ml := am_wp_step (am_call_mono d) hc (by unfold am_step; dsimp only; unfold am_ldI; rw [hl]; exact h)
theorem r_iload {k : Nat} {x : Int32} (hc : tb_code y pc = some (.iload k, n, t)) (hl : L[(k : Nat)]? = some (.int x)) (h : rn E d y K (pc + 2) L (.int x :: st) mi ml) : rn E d y K pc L st mi ml := am_wp_step (am_call_mono d) hc (by unfold am_step; dsimp only; unfold am_ldI; rw [hl]; exact h)
theorem r_lload_n {k : Fin 4} {x : Int64} (hc : tb_code y pc = some (.lload_n k, n, t)) (hl : L[(k : Nat)]? = some (.long x)) (h : rn E d y K (pc + 1) L (.long x :: st) mi ml) : rn E d y K pc L st mi ml := am_wp_step (am_call_mono d) hc (by unfold am_step; dsimp only; unfold am_ldL; rw [hl]; exact h)
theorem r_lload {k : Nat} {x : Int64} (hc : tb_code y pc = some (.lload k, n, t)) (hl : L[(k : Nat)]? = some (.long x)) (h : rn E d y K (pc + 2) L (.long x :: st) mi ml) : rn E d y K pc L st mi ml := am_wp_step (am_call_mono d) hc (by unfold am_step; dsimp only; unfold am_ldL; rw [hl]; exact h)
theorem r_aload_n {k : Fin 4} {x : Nat} (hc : tb_code y pc = some (.aload_n k, n, t)) (hl : L[(k : Nat)]? = some (.ref x)) (h : rn E d y K (pc + 1) L (.ref x :: st) mi ml) : rn E d y K pc L st mi ml := am_wp_step (am_call_mono d) hc (by unfold am_step; dsimp only; unfold am_ldA; rw [hl]; exact h)
theorem r_aload {k : Nat} {x : Nat} (hc : tb_code y pc = some (.aload k, n, t)) (hl : L[(k : Nat)]? = some (.ref x)) (h : rn E d y K (pc + 2) L (.ref x :: st) mi ml) : rn E d y K pc L st mi ml := am_wp_step (am_call_mono d) hc (by unfold am_step; dsimp only; unfold am_ldA; rw [hl]; exact h)
theorem r_aload_nT {k : Fin 4} {x : Nat} (hc : tb_code y pc = some (.aload_n k, n, t)) (hl : L[(k : Nat)]? = some (.retAddr x)) (h : rn E d y K (pc + 1) L (.retAddr x :: st) mi ml) : rn E d y K pc L st mi ml := am_wp_step (am_call_mono d) hc (by unfold am_step; dsimp only; unfold am_ldA; rw [hl]; exact h)
theorem r_aloadT {k : Nat} {x : Nat} (hc : tb_code y pc = some (.aload k, n, t)) (hl : L[(k : Nat)]? = some (.retAddr x)) (h : rn E d y K (pc + 2) L (.retAddr x :: st) mi ml) : rn E d y K pc L st mi ml := am_wp_step (am_call_mono d) hc (by unfold am_step; dsimp only; unfold am_ldA; rw [hl]; exact h)
theorem r_istore_n {k : Fin 4} {x : Int32} {L' : List Value} (hc : tb_code y pc = some (.istore_n k, n, t)) (hb : Nat.blt (k : Nat) L.length = true) (hl : am_set L k (.int x) = L') (h : rn E d y K (pc + 1) L' st mi ml) : rn E d y K pc L (.int x :: st) mi ml := am_wp_step (am_call_mono d) hc (by unfold am_step; dsimp only; unfold am_stI; rw [hb]; subst hl; exact h)
theorem r_istore {k : Nat} {x : Int32} {L' : List Value} (hc : tb_code y pc = some (.istore k, n, t)) (hb : Nat.blt (k : Nat) L.length = true) (hl : am_set L k (.int x) = L') (h : rn E d y K (pc + 2) L' st mi ml) : rn E d y K pc L (.int x :: st) mi ml := am_wp_step (am_call_mono d) hc (by unfold am_step; dsimp only; unfold am_stI; rw [hb]; subst hl; exact h)
theorem r_lstore_n {k : Fin 4} {x : Int64} {L' : List Value} (hc : tb_code y pc = some (.lstore_n k, n, t)) (hb : Nat.blt ((k : Nat) + 1) L.length = true) (hl : am_set2 L k (.long x) = L') (h : rn E d y K (pc + 1) L' st mi ml) : rn E d y K pc L (.long x :: st) mi ml := am_wp_step (am_call_mono d) hc (by unfold am_step; dsimp only; unfold am_stL; rw [hb]; subst hl; exact h)
theorem r_lstore {k : Nat} {x : Int64} {L' : List Value} (hc : tb_code y pc = some (.lstore k, n, t)) (hb : Nat.blt ((k : Nat) + 1) L.length = true) (hl : am_set2 L k (.long x) = L') (h : rn E d y K (pc + 2) L' st mi ml) : rn E d y K pc L (.long x :: st) mi ml := am_wp_step (am_call_mono d) hc (by unfold am_step; dsimp only; unfold am_stL; rw [hb]; subst hl; exact h)
theorem r_astore_n {k : Fin 4} {x : Nat} {L' : List Value} (hc : tb_code y pc = some (.astore_n k, n, t)) (hb : Nat.blt (k : Nat) L.length = true) (hl : am_set L k (.ref x) = L') (h : rn E d y K (pc + 1) L' st mi ml) : rn E d y K pc L (.ref x :: st) mi ml := am_wp_step (am_call_mono d) hc (by unfold am_step; dsimp only; unfold am_stA; rw [hb]; subst hl; exact h)
theorem r_astore {k : Nat} {x : Nat} {L' : List Value} (hc : tb_code y pc = some (.astore k, n, t)) (hb : Nat.blt (k : Nat) L.length = true) (hl : am_set L k (.ref x) = L') (h : rn E d y K (pc + 2) L' st mi ml) : rn E d y K pc L (.ref x :: st) mi ml := am_wp_step (am_call_mono d) hc (by unfold am_step; dsimp only; unfold am_stA; rw [hb]; subst hl; exact h)
theorem r_iinc {k : Nat} {z : Int} {x v : Int32} {L' : List Value} (hc : tb_code y pc = some (.iinc k z, n, t)) (hb : Nat.blt k L.length = true) (hx : L[k]? = some (.int x)) (hv : Int32.ofInt z = v) (hl : am_set L k (.int (x + v)) = L') (h : rn E d y K (pc + 3) L' st mi ml) : rn E d y K pc L st mi ml := am_wp_step (am_call_mono d) hc (by unfold am_step; dsimp only; rw [hb, hx]; subst hv; subst hl; exact h)
theorem r_iadd {x z : Int32} (hc : tb_code y pc = some (.iadd, n, t)) (h : rn E d y K (pc + 1) L (.int (x + z) :: st) mi ml) : rn E d y K pc L (.int z :: .int x :: st) mi ml := am_wp_step (am_call_mono d) hc h
theorem r_isub {x z : Int32} (hc : tb_code y pc = some (.isub, n, t)) (h : rn E d y K (pc + 1) L (.int (x - z) :: st) mi ml) : rn E d y K pc L (.int z :: .int x :: st) mi ml := am_wp_step (am_call_mono d) hc h
theorem r_imul {x z : Int32} (hc : tb_code y pc = some (.imul, n, t)) (h : rn E d y K (pc + 1) L (.int (x * z) :: st) mi ml) : rn E d y K pc L (.int z :: .int x :: st) mi ml := am_wp_step (am_call_mono d) hc h
theorem r_iand {x z : Int32} (hc : tb_code y pc = some (.iand, n, t)) (h : rn E d y K (pc + 1) L (.int (x &&& z) :: st) mi ml) : rn E d y K pc L (.int z :: .int x :: st) mi ml := am_wp_step (am_call_mono d) hc h
theorem r_ior {x z : Int32} (hc : tb_code y pc = some (.ior, n, t)) (h : rn E d y K (pc + 1) L (.int (x ||| z) :: st) mi ml) : rn E d y K pc L (.int z :: .int x :: st) mi ml := am_wp_step (am_call_mono d) hc h
theorem r_ixor {x z : Int32} (hc : tb_code y pc = some (.ixor, n, t)) (h : rn E d y K (pc + 1) L (.int (x ^^^ z) :: st) mi ml) : rn E d y K pc L (.int z :: .int x :: st) mi ml := am_wp_step (am_call_mono d) hc h
theorem r_ishl {x z : Int32} (hc : tb_code y pc = some (.ishl, n, t)) (h : rn E d y K (pc + 1) L (.int (x <<< (z &&& 31)) :: st) mi ml) : rn E d y K pc L (.int z :: .int x :: st) mi ml := am_wp_step (am_call_mono d) hc h
theorem r_ishr {x z : Int32} (hc : tb_code y pc = some (.ishr, n, t)) (h : rn E d y K (pc + 1) L (.int (x >>> (z &&& 31)) :: st) mi ml) : rn E d y K pc L (.int z :: .int x :: st) mi ml := am_wp_step (am_call_mono d) hc h
theorem r_iushr {x z : Int32} (hc : tb_code y pc = some (.iushr, n, t)) (h : rn E d y K (pc + 1) L (.int ((x.toUInt32 >>> (z.toUInt32 &&& Int32.toUInt32 31)).toInt32) :: st) mi ml) : rn E d y K pc L (.int z :: .int x :: st) mi ml := am_wp_step (am_call_mono d) hc h
theorem r_idiv {x z : Int32} (hc : tb_code y pc = some (.idiv, n, t)) (ho : ¬ z = 0) (h : rn E d y K (pc + 1) L (.int (x / z) :: st) mi ml) : rn E d y K pc L (.int z :: .int x :: st) mi ml := am_wp_step (am_call_mono d) hc ⟨ho, h⟩
theorem r_irem {x z : Int32} (hc : tb_code y pc = some (.irem, n, t)) (ho : ¬ z = 0) (h : rn E d y K (pc + 1) L (.int (x - x / z * z) :: st) mi ml) : rn E d y K pc L (.int z :: .int x :: st) mi ml := am_wp_step (am_call_mono d) hc ⟨ho, h⟩
theorem r_ladd {x z : Int64} (hc : tb_code y pc = some (.ladd, n, t)) (h : rn E d y K (pc + 1) L (.long (x + z) :: st) mi ml) : rn E d y K pc L (.long z :: .long x :: st) mi ml := am_wp_step (am_call_mono d) hc h
theorem r_lsub {x z : Int64} (hc : tb_code y pc = some (.lsub, n, t)) (h : rn E d y K (pc + 1) L (.long (x - z) :: st) mi ml) : rn E d y K pc L (.long z :: .long x :: st) mi ml := am_wp_step (am_call_mono d) hc h
theorem r_lmul {x z : Int64} (hc : tb_code y pc = some (.lmul, n, t)) (h : rn E d y K (pc + 1) L (.long (x * z) :: st) mi ml) : rn E d y K pc L (.long z :: .long x :: st) mi ml := am_wp_step (am_call_mono d) hc h
theorem r_land {x z : Int64} (hc : tb_code y pc = some (.land, n, t)) (h : rn E d y K (pc + 1) L (.long (x &&& z) :: st) mi ml) : rn E d y K pc L (.long z :: .long x :: st) mi ml := am_wp_step (am_call_mono d) hc h
theorem r_lor {x z : Int64} (hc : tb_code y pc = some (.lor, n, t)) (h : rn E d y K (pc + 1) L (.long (x ||| z) :: st) mi ml) : rn E d y K pc L (.long z :: .long x :: st) mi ml := am_wp_step (am_call_mono d) hc h
theorem r_ldiv {x z : Int64} (hc : tb_code y pc = some (.ldiv, n, t)) (ho : ¬ z = 0) (h : rn E d y K (pc + 1) L (.long (x / z) :: st) mi ml) : rn E d y K pc L (.long z :: .long x :: st) mi ml := am_wp_step (am_call_mono d) hc ⟨ho, h⟩
theorem r_lrem {x z : Int64} (hc : tb_code y pc = some (.lrem, n, t)) (ho : ¬ z = 0) (h : rn E d y K (pc + 1) L (.long (x - x / z * z) :: st) mi ml) : rn E d y K pc L (.long z :: .long x :: st) mi ml := am_wp_step (am_call_mono d) hc ⟨ho, h⟩
theorem r_lcmp {x z : Int64} (hc : tb_code y pc = some (.lcmp, n, t)) (h : rn E d y K (pc + 1) L (.int (lg_cmp x z) :: st) mi ml) : rn E d y K pc L (.long z :: .long x :: st) mi ml := am_wp_step (am_call_mono d) hc h
theorem r_lshl {x : Int64} {z : Int32} (hc : tb_code y pc = some (.lshl, n, t)) (h : rn E d y K (pc + 1) L (.long (x <<< (z.toInt64 &&& 63)) :: st) mi ml) : rn E d y K pc L (.int z :: .long x :: st) mi ml := am_wp_step (am_call_mono d) hc h
theorem r_i2l {x : Int32} (hc : tb_code y pc = some (.i2l, n, t)) (h : rn E d y K (pc + 1) L (.long (x.toInt64) :: st) mi ml) : rn E d y K pc L (.int x :: st) mi ml := am_wp_step (am_call_mono d) hc h
theorem r_i2b {x : Int32} (hc : tb_code y pc = some (.i2b, n, t)) (h : rn E d y K (pc + 1) L (.int (x.toInt8.toInt32) :: st) mi ml) : rn E d y K pc L (.int x :: st) mi ml := am_wp_step (am_call_mono d) hc h
theorem r_i2s {x : Int32} (hc : tb_code y pc = some (.i2s, n, t)) (h : rn E d y K (pc + 1) L (.int (x.toInt16.toInt32) :: st) mi ml) : rn E d y K pc L (.int x :: st) mi ml := am_wp_step (am_call_mono d) hc h
theorem r_i2c {x : Int32} (hc : tb_code y pc = some (.i2c, n, t)) (h : rn E d y K (pc + 1) L (.int ((x.toUInt32 % 65536).toInt32) :: st) mi ml) : rn E d y K pc L (.int x :: st) mi ml := am_wp_step (am_call_mono d) hc h
theorem r_l2i {x : Int64} (hc : tb_code y pc = some (.l2i, n, t)) (h : rn E d y K (pc + 1) L (.int (x.toInt32) :: st) mi ml) : rn E d y K pc L (.long x :: st) mi ml := am_wp_step (am_call_mono d) hc h
theorem r_dupI {x : Int32} (hc : tb_code y pc = some (.dup, n, t)) (h : rn E d y K (pc + 1) L (.int x :: .int x :: st) mi ml) : rn E d y K pc L (.int x :: st) mi ml := am_wp_step (am_call_mono d) hc h
theorem r_dupR {x : Nat} (hc : tb_code y pc = some (.dup, n, t)) (h : rn E d y K (pc + 1) L (.ref x :: .ref x :: st) mi ml) : rn E d y K pc L (.ref x :: st) mi ml := am_wp_step (am_call_mono d) hc h
theorem r_dup2R {x : Int32} {k : Nat} (hc : tb_code y pc = some (.dup2, n, t)) (h : rn E d y K (pc + 1) L (.int x :: .ref k :: .int x :: .ref k :: st) mi ml) : rn E d y K pc L (.int x :: .ref k :: st) mi ml := am_wp_step (am_call_mono d) hc h
theorem r_popI {x : Int32} (hc : tb_code y pc = some (.pop, n, t)) (h : rn E d y K (pc + 1) L st mi ml) : rn E d y K pc L (.int x :: st) mi ml := am_wp_step (am_call_mono d) hc h
theorem r_goto {o : Int} (hc : tb_code y pc = some (.goto o, n, t)) (h : rn E d y K t L st mi ml) : rn E d y K pc L st mi ml := am_wp_step (am_call_mono d) hc h
theorem r_if_eq {x : Int32} {o : Int} (hc : tb_code y pc = some (.ifCond .eq o, n, t)) (h : x = 0 → rn E d y K t L st mi ml) (g : ¬ (x = 0) → rn E d y K (pc + 3) L st mi ml) : rn E d y K pc L (.int x :: st) mi ml := am_wp_step (am_call_mono d) hc ⟨h, g⟩
theorem r_ic_eq {x z : Int32} {o : Int} (hc : tb_code y pc = some (.if_icmp .eq o, n, t)) (h : x = z → rn E d y K t L st mi ml) (g : ¬ (x = z) → rn E d y K (pc + 3) L st mi ml) : rn E d y K pc L (.int z :: .int x :: st) mi ml := am_wp_step (am_call_mono d) hc ⟨h, g⟩
theorem r_if_ne {x : Int32} {o : Int} (hc : tb_code y pc = some (.ifCond .ne o, n, t)) (h : ¬ x = 0 → rn E d y K t L st mi ml) (g : ¬ (¬ x = 0) → rn E d y K (pc + 3) L st mi ml) : rn E d y K pc L (.int x :: st) mi ml := am_wp_step (am_call_mono d) hc ⟨h, g⟩
theorem r_ic_ne {x z : Int32} {o : Int} (hc : tb_code y pc = some (.if_icmp .ne o, n, t)) (h : ¬ x = z → rn E d y K t L st mi ml) (g : ¬ (¬ x = z) → rn E d y K (pc + 3) L st mi ml) : rn E d y K pc L (.int z :: .int x :: st) mi ml := am_wp_step (am_call_mono d) hc ⟨h, g⟩
theorem r_if_lt {x : Int32} {o : Int} (hc : tb_code y pc = some (.ifCond .lt o, n, t)) (h : x < 0 → rn E d y K t L st mi ml) (g : ¬ (x < 0) → rn E d y K (pc + 3) L st mi ml) : rn E d y K pc L (.int x :: st) mi ml := am_wp_step (am_call_mono d) hc ⟨h, g⟩
theorem r_ic_lt {x z : Int32} {o : Int} (hc : tb_code y pc = some (.if_icmp .lt o, n, t)) (h : x < z → rn E d y K t L st mi ml) (g : ¬ (x < z) → rn E d y K (pc + 3) L st mi ml) : rn E d y K pc L (.int z :: .int x :: st) mi ml := am_wp_step (am_call_mono d) hc ⟨h, g⟩
theorem r_if_ge {x : Int32} {o : Int} (hc : tb_code y pc = some (.ifCond .ge o, n, t)) (h : 0 ≤ x → rn E d y K t L st mi ml) (g : ¬ (0 ≤ x) → rn E d y K (pc + 3) L st mi ml) : rn E d y K pc L (.int x :: st) mi ml := am_wp_step (am_call_mono d) hc ⟨h, g⟩
theorem r_ic_ge {x z : Int32} {o : Int} (hc : tb_code y pc = some (.if_icmp .ge o, n, t)) (h : z ≤ x → rn E d y K t L st mi ml) (g : ¬ (z ≤ x) → rn E d y K (pc + 3) L st mi ml) : rn E d y K pc L (.int z :: .int x :: st) mi ml := am_wp_step (am_call_mono d) hc ⟨h, g⟩
theorem r_if_gt {x : Int32} {o : Int} (hc : tb_code y pc = some (.ifCond .gt o, n, t)) (h : 0 < x → rn E d y K t L st mi ml) (g : ¬ (0 < x) → rn E d y K (pc + 3) L st mi ml) : rn E d y K pc L (.int x :: st) mi ml := am_wp_step (am_call_mono d) hc ⟨h, g⟩
theorem r_ic_gt {x z : Int32} {o : Int} (hc : tb_code y pc = some (.if_icmp .gt o, n, t)) (h : z < x → rn E d y K t L st mi ml) (g : ¬ (z < x) → rn E d y K (pc + 3) L st mi ml) : rn E d y K pc L (.int z :: .int x :: st) mi ml := am_wp_step (am_call_mono d) hc ⟨h, g⟩
theorem r_if_le {x : Int32} {o : Int} (hc : tb_code y pc = some (.ifCond .le o, n, t)) (h : x ≤ 0 → rn E d y K t L st mi ml) (g : ¬ (x ≤ 0) → rn E d y K (pc + 3) L st mi ml) : rn E d y K pc L (.int x :: st) mi ml := am_wp_step (am_call_mono d) hc ⟨h, g⟩
theorem r_ic_le {x z : Int32} {o : Int} (hc : tb_code y pc = some (.if_icmp .le o, n, t)) (h : x ≤ z → rn E d y K t L st mi ml) (g : ¬ (x ≤ z) → rn E d y K (pc + 3) L st mi ml) : rn E d y K pc L (.int z :: .int x :: st) mi ml := am_wp_step (am_call_mono d) hc ⟨h, g⟩
theorem r_tsw {x : Int32} {dd lo hi : Int} {o : Array Int} (hc : tb_code y pc = some (.tableswitch dd lo hi o, n, t)) (h : ∃ t' : Nat, am_tsw pc dd lo hi o x t' ∧ rn E d y K t' L st mi ml) : rn E d y K pc L (.int x :: st) mi ml := am_wp_step (am_call_mono d) hc h
theorem r_lsw {x : Int32} {dd : Int} {ps : Array (Int × Int)} (hc : tb_code y pc = some (.lookupswitch dd ps, n, t)) (h : ∃ t' : Nat, ((ps.toList.zip (ps.toList.drop 1)).all (fun (a, next) => a.1 < next.1) = true) ∧ (pc : Int) + Op.lookupswitch.offset ps.toList dd x.toInt = (t' : Int) ∧ rn E d y K t' L st mi ml) : rn E d y K pc L (.int x :: st) mi ml := am_wp_step (am_call_mono d) hc h
theorem r_ldcI {k : Nat} {v : Int32} (hc : tb_code y pc = some (.ldc k, n, t)) (hk : pCst PP (iOwn (pInf PP y)) k = some (.int v)) (h : rn E d y K (pc + 2) L (.int v :: st) mi ml) : rn E d y K pc L st mi ml := am_wp_step (am_call_mono d) hc (by unfold am_step; dsimp only; rw [hk]; exact h)
theorem r_ldcT {k v : Nat} (hc : tb_code y pc = some (.ldc k, n, t)) (hk : pCst PP (iOwn (pInf PP y)) k = some (.retAddr v)) (h : rn E d y K (pc + 2) L (.retAddr v :: st) mi ml) : rn E d y K pc L st mi ml := am_wp_step (am_call_mono d) hc (by unfold am_step; dsimp only; rw [hk]; exact h)
theorem r_ldcw {k : Nat} {v : Int32} (hc : tb_code y pc = some (.ldc_w k, n, t)) (hk : pCst PP (iOwn (pInf PP y)) k = some (.int v)) (h : rn E d y K (pc + 3) L (.int v :: st) mi ml) : rn E d y K pc L st mi ml := am_wp_step (am_call_mono d) hc (by unfold am_step; dsimp only; rw [hk]; exact h)
theorem r_ldc2 {k : Nat} {v : Int64} (hc : tb_code y pc = some (.ldc2_w k, n, t)) (hk : pCst PP (iOwn (pInf PP y)) k = some (.long v)) (h : rn E d y K (pc + 3) L (.long v :: st) mi ml) : rn E d y K pc L st mi ml := am_wp_step (am_call_mono d) hc (by unfold am_step; dsimp only; rw [hk]; exact h)
theorem r_gs1 {k : Nat} (hc : tb_code y pc = some (.getstatic k, n, t)) (hk : pCst PP (iOwn (pInf PP y)) k = some (.double 1)) (h : rn E d y K (pc + 3) L (.int 1 :: st) mi ml) : rn E d y K pc L st mi ml := am_wp_step (am_call_mono d) hc (by unfold am_step; dsimp only; rw [hk]; exact h)
theorem r_gs2 {k : Nat} (hc : tb_code y pc = some (.getstatic k, n, t)) (hk : pCst PP (iOwn (pInf PP y)) k = some (.double 2)) (h : rn E d y K (pc + 3) L (.retAddr 1 :: st) mi ml) : rn E d y K pc L st mi ml := am_wp_step (am_call_mono d) hc (by unfold am_step; dsimp only; rw [hk]; exact h)
theorem r_getI {k a ci j : Nat} (hc : tb_code y pc = some (.getfield k, n, t)) (hf : pFld PP (iOwn (pInf PP y)) k = some (ci, j)) (hk : am_kd (pTy PP ci j) = 0) (hs : S0.1[a]? = some (.inl ci)) (h : rn E d y K (pc + 3) L (.int (mi a j) :: st) mi ml) : rn E d y K pc L (.ref a :: st) mi ml := am_wp_step (am_call_mono d) hc (by unfold am_step; dsimp only; rw [hf]; refine ⟨hs, ?_⟩; dsimp only; rw [hk]; exact h)
theorem r_getL {k a ci j : Nat} (hc : tb_code y pc = some (.getfield k, n, t)) (hf : pFld PP (iOwn (pInf PP y)) k = some (ci, j)) (hk : am_kd (pTy PP ci j) = 1) (hs : S0.1[a]? = some (.inl ci)) (h : rn E d y K (pc + 3) L (.long (ml a j) :: st) mi ml) : rn E d y K pc L (.ref a :: st) mi ml := am_wp_step (am_call_mono d) hc (by unfold am_step; dsimp only; rw [hf]; refine ⟨hs, ?_⟩; dsimp only; rw [hk]; exact h)
theorem r_getR {k a ci j b : Nat} (hc : tb_code y pc = some (.getfield k, n, t)) (hf : pFld PP (iOwn (pInf PP y)) k = some (ci, j)) (hk : am_kd (pTy PP ci j) = 2) (hs : S0.1[a]? = some (.inl ci)) (hr : S0.2 a j = some b) (h : rn E d y K (pc + 3) L (.ref b :: st) mi ml) : rn E d y K pc L (.ref a :: st) mi ml := am_wp_step (am_call_mono d) hc (by unfold am_step; dsimp only; rw [hf]; refine ⟨hs, ?_⟩; dsimp only; rw [hk]; exact ⟨b, hr, h⟩)
theorem r_putI {k a ci j : Nat} {x : Int32} (hc : tb_code y pc = some (.putfield k, n, t)) (hf : pFld PP (iOwn (pInf PP y)) k = some (ci, j)) (hk : am_kd (pTy PP ci j) = 0) (hn : ((!(pFin PP ci j)) || (Nat.beq (iKnd (pInf PP y)) 2 && Nat.beq (iOwn (pInf PP y)) ci)) = true) (hs : S0.1[a]? = some (.inl ci)) (ho : am_fit (pTy PP ci j) x) (h : rn E d y K (pc + 3) L st (am_si mi a j x) ml) : rn E d y K pc L (.int x :: .ref a :: st) mi ml := am_wp_step (am_call_mono d) hc (by unfold am_step; dsimp only; rw [hf]; dsimp only; unfold am_put; dsimp only; rw [hn, hk]; exact ⟨hs, ho, h⟩)
theorem r_putL {k a ci j : Nat} {x : Int64} (hc : tb_code y pc = some (.putfield k, n, t)) (hf : pFld PP (iOwn (pInf PP y)) k = some (ci, j)) (hk : am_kd (pTy PP ci j) = 1) (hn : ((!(pFin PP ci j)) || (Nat.beq (iKnd (pInf PP y)) 2 && Nat.beq (iOwn (pInf PP y)) ci)) = true) (hs : S0.1[a]? = some (.inl ci)) (h : rn E d y K (pc + 3) L st mi (am_sj ml a j x)) : rn E d y K pc L (.long x :: .ref a :: st) mi ml := am_wp_step (am_call_mono d) hc (by unfold am_step; dsimp only; rw [hf]; dsimp only; unfold am_put; dsimp only; rw [hn, hk]; exact ⟨hs, h⟩)
theorem r_iald {i : Int32} {k N : Nat} (hc : tb_code y pc = some (.iaload, n, t)) (hs : S0.1[k]? = some (.inr (.int, N))) (hi : vp_in i N) (h : rn E d y K (pc + 1) L (.int (mi k i.toNatClampNeg) :: st) mi ml) : rn E d y K pc L (.int i :: .ref k :: st) mi ml := am_wp_step (am_call_mono d) hc ⟨N, hs, hi, h⟩
theorem r_ialdK {i : Int32} {k N j : Nat} (hc : tb_code y pc = some (.iaload, n, t)) (hs : S0.1[k]? = some (.inr (.int, N))) (hi : vp_in i N) (hj : i.toNatClampNeg = j) (h : rn E d y K (pc + 1) L (.int (mi k j) :: st) mi ml) : rn E d y K pc L (.int i :: .ref k :: st) mi ml := by subst hj; exact am_wp_step (am_call_mono d) hc ⟨N, hs, hi, h⟩
theorem r_laldK {i : Int32} {k N j : Nat} (hc : tb_code y pc = some (.laload, n, t)) (hs : S0.1[k]? = some (.inr (.long, N))) (hi : vp_in i N) (hj : i.toNatClampNeg = j) (h : rn E d y K (pc + 1) L (.long (ml k j) :: st) mi ml) : rn E d y K pc L (.int i :: .ref k :: st) mi ml := by subst hj; exact am_wp_step (am_call_mono d) hc ⟨N, hs, hi, h⟩
theorem r_iastK {x i : Int32} {k N j : Nat} (hc : tb_code y pc = some (.iastore, n, t)) (hs : S0.1[k]? = some (.inr (.int, N))) (hi : vp_in i N) (hj : i.toNatClampNeg = j) (h : rn E d y K (pc + 1) L st (am_si mi k j x) ml) : rn E d y K pc L (.int x :: .int i :: .ref k :: st) mi ml := by subst hj; exact am_wp_step (am_call_mono d) hc ⟨N, hs, hi, h⟩
theorem r_ialdS {i : Int32} (hc : tb_code y pc = some (.iaload, n, t)) (hi : vp_in i E.1.1) (h : rn E d y K (pc + 1) L (.int (E.1.2 i.toNatClampNeg) :: st) mi ml) : rn E d y K pc L (.int i :: .retAddr 0 :: st) mi ml := am_wp_step (am_call_mono d) hc ⟨hi, h⟩
theorem r_lald {i : Int32} {k N : Nat} (hc : tb_code y pc = some (.laload, n, t)) (hs : S0.1[k]? = some (.inr (.long, N))) (hi : vp_in i N) (h : rn E d y K (pc + 1) L (.long (ml k i.toNatClampNeg) :: st) mi ml) : rn E d y K pc L (.int i :: .ref k :: st) mi ml := am_wp_step (am_call_mono d) hc ⟨N, hs, hi, h⟩
theorem r_bald {i : Int32} {k N : Nat} {ty : FieldType} (hc : tb_code y pc = some (.baload, n, t)) (hs : S0.1[k]? = some (.inr (ty, N))) (hy : ty = .byte ∨ ty = .boolean) (hi : vp_in i N) (h : rn E d y K (pc + 1) L (.int (mi k i.toNatClampNeg) :: st) mi ml) : rn E d y K pc L (.int i :: .ref k :: st) mi ml := am_wp_step (am_call_mono d) hc ⟨N, ty, hy, hs, hi, h⟩
theorem r_baldT {i : Int32} {j : Nat} (hc : tb_code y pc = some (.baload, n, t)) (hj : j < E.2.1) (hi : vp_in i (E.2.2.1 j)) (h : rn E d y K (pc + 1) L (.int (E.2.2.2 j i.toNatClampNeg) :: st) mi ml) : rn E d y K pc L (.int i :: .retAddr (2 * j + 3) :: st) mi ml := am_wp_step (am_call_mono d) hc ⟨j, rfl, hj, hi, h⟩
theorem r_aald {i : Int32} {k N a : Nat} {ty : FieldType} (hc : tb_code y pc = some (.aaload, n, t)) (hs : S0.1[k]? = some (.inr (ty, N))) (hy : am_kd ty = 2) (hi : vp_in i N) (ha : S0.2 k i.toNatClampNeg = some a) (h : rn E d y K (pc + 1) L (.ref a :: st) mi ml) : rn E d y K pc L (.int i :: .ref k :: st) mi ml := am_wp_step (am_call_mono d) hc ⟨N, ty, a, hy, hs, hi, ha, h⟩
theorem r_iast {x i : Int32} {k N : Nat} (hc : tb_code y pc = some (.iastore, n, t)) (hs : S0.1[k]? = some (.inr (.int, N))) (hi : vp_in i N) (h : rn E d y K (pc + 1) L st (am_si mi k i.toNatClampNeg x) ml) : rn E d y K pc L (.int x :: .int i :: .ref k :: st) mi ml := am_wp_step (am_call_mono d) hc ⟨N, hs, hi, h⟩
theorem r_last {x : Int64} {i : Int32} {k N : Nat} (hc : tb_code y pc = some (.lastore, n, t)) (hs : S0.1[k]? = some (.inr (.long, N))) (hi : vp_in i N) (h : rn E d y K (pc + 1) L st mi (am_sj ml k i.toNatClampNeg x)) : rn E d y K pc L (.long x :: .int i :: .ref k :: st) mi ml := am_wp_step (am_call_mono d) hc ⟨N, hs, hi, h⟩
theorem r_bast {x i : Int32} {k N : Nat} {ty : FieldType} (hc : tb_code y pc = some (.bastore, n, t)) (hs : S0.1[k]? = some (.inr (ty, N))) (hy : ty = .byte ∨ ty = .boolean) (hi : vp_in i N) (h : rn E d y K (pc + 1) L st (am_si mi k i.toNatClampNeg (vp_nar ty x)) ml) : rn E d y K pc L (.int x :: .int i :: .ref k :: st) mi ml := am_wp_step (am_call_mono d) hc ⟨N, ty, hy, hs, hi, h⟩
theorem r_alenS (hc : tb_code y pc = some (.arraylength, n, t)) (h : rn E d y K (pc + 1) L (.int (Int32.ofNat E.1.1) :: st) mi ml) : rn E d y K pc L (.retAddr 0 :: st) mi ml := am_wp_step (am_call_mono d) hc (Or.inl ⟨rfl, h⟩)
theorem r_alenT {j : Nat} (hc : tb_code y pc = some (.arraylength, n, t)) (hj : j < E.2.1) (h : rn E d y K (pc + 1) L (.int (Int32.ofNat (E.2.2.1 j)) :: st) mi ml) : rn E d y K pc L (.retAddr (2 * j + 3) :: st) mi ml := am_wp_step (am_call_mono d) hc (Or.inr ⟨j, rfl, hj, h⟩)
theorem r_sco {k j : Nat} (hc : tb_code y pc = some (.getfield k, n, t)) (hf : pFld PP (iOwn (pInf PP y)) k = none) (hk : pCst PP (iOwn (pInf PP y)) k = some (.float 1)) (hj : j < E.2.1) (h : rn E d y K (pc + 3) L (.int 0 :: st) mi ml) : rn E d y K pc L (.retAddr (2 * j + 2) :: st) mi ml := am_wp_step (am_call_mono d) hc (by unfold am_step; dsimp only; rw [hf, hk]; exact ⟨j, rfl, hj, h⟩)
theorem r_sva {k j : Nat} (hc : tb_code y pc = some (.getfield k, n, t)) (hf : pFld PP (iOwn (pInf PP y)) k = none) (hk : pCst PP (iOwn (pInf PP y)) k = some (.float 2)) (hj : j < E.2.1) (h : rn E d y K (pc + 3) L (.retAddr (2 * j + 3) :: st) mi ml) : rn E d y K pc L (.retAddr (2 * j + 2) :: st) mi ml := am_wp_step (am_call_mono d) hc (by unfold am_step; dsimp only; rw [hf, hk]; exact ⟨j, rfl, hj, h⟩)
theorem r_cpyI {v dp sp : Int32} {dd ss k n0 n1 : Nat} (hc : tb_code y pc = some (.invokestatic k, n, t)) (hm : pMth PP (iOwn (pInf PP y)) k = some 1) (hb : Nat.ble (st.map (fun v => v.category)).sum 8 = true) (h0 : S0.1[ss]? = some (.inr (.int, n0))) (h1 : S0.1[dd]? = some (.inr (.int, n1))) (ho : (¬ sp < 0 ∧ ¬ dp < 0 ∧ ¬ v < 0) ∧ sp.toNatClampNeg + v.toNatClampNeg ≤ n0 ∧ dp.toNatClampNeg + v.toNatClampNeg ≤ n1) (h : rn E d y K (pc + 3) L st (am_sc mi dd (va_cpy (mi ss) (mi dd) sp.toNatClampNeg dp.toNatClampNeg v.toNatClampNeg)) ml) : rn E d y K pc L (.int v :: .int dp :: .ref dd :: .int sp :: .ref ss :: st) mi ml := am_wp_step (am_call_mono d) hc (by unfold am_step; dsimp only; rw [hm]; show am_cpy _ _ _ _ _; unfold am_cpy; dsimp only; rw [hb]; exact ⟨ho.1.1, ho.1.2.1, ho.1.2.2, Or.inl ⟨n0, n1, h0, h1, ho.2.1, ho.2.2, h⟩⟩)
theorem r_cpyL {v dp sp : Int32} {dd ss k n0 n1 : Nat} (hc : tb_code y pc = some (.invokestatic k, n, t)) (hm : pMth PP (iOwn (pInf PP y)) k = some 1) (hb : Nat.ble (st.map (fun v => v.category)).sum 8 = true) (h0 : S0.1[ss]? = some (.inr (.long, n0))) (h1 : S0.1[dd]? = some (.inr (.long, n1))) (ho : (¬ sp < 0 ∧ ¬ dp < 0 ∧ ¬ v < 0) ∧ sp.toNatClampNeg + v.toNatClampNeg ≤ n0 ∧ dp.toNatClampNeg + v.toNatClampNeg ≤ n1) (h : rn E d y K (pc + 3) L st mi (am_sc ml dd (va_cpy (ml ss) (ml dd) sp.toNatClampNeg dp.toNatClampNeg v.toNatClampNeg))) : rn E d y K pc L (.int v :: .int dp :: .ref dd :: .int sp :: .ref ss :: st) mi ml := am_wp_step (am_call_mono d) hc (by unfold am_step; dsimp only; rw [hm]; show am_cpy _ _ _ _ _; unfold am_cpy; dsimp only; rw [hb]; exact ⟨ho.1.1, ho.1.2.1, ho.1.2.2, Or.inr ⟨n0, n1, h0, h1, ho.2.1, ho.2.2, h⟩⟩)
theorem r_max {x z : Int32} {k : Nat} (hc : tb_code y pc = some (.invokestatic k, n, t)) (hm : pMth PP (iOwn (pInf PP y)) k = some 2) (hb : Nat.ble (st.map (fun v => v.category)).sum 8 = true) (h : rn E d y K (pc + 3) L (.int (if x < z then z else x) :: st) mi ml) : rn E d y K pc L (.int z :: .int x :: st) mi ml := am_wp_step (am_call_mono d) hc (by unfold am_step; dsimp only; rw [hm]; show am_mm _ _ _ _ _ _; unfold am_mm; dsimp only; rw [hb]; exact h)
theorem r_min {x z : Int32} {k : Nat} (hc : tb_code y pc = some (.invokestatic k, n, t)) (hm : pMth PP (iOwn (pInf PP y)) k = some 3) (hb : Nat.ble (st.map (fun v => v.category)).sum 8 = true) (h : rn E d y K (pc + 3) L (.int (if z < x then z else x) :: st) mi ml) : rn E d y K pc L (.int z :: .int x :: st) mi ml := am_wp_step (am_call_mono d) hc (by unfold am_step; dsimp only; rw [hm]; show am_mm _ _ _ _ _ _; unfold am_mm; dsimp only; rw [hb]; exact h)
/-- a call: y' by number, its arguments in order, what is left of the stack -/
theorem r_inv {y' kn : Nat} {as rest : List Value} (ha : st = as.reverse ++ rest) (hl : as.length = iArg (pInf PP y')) (hb : Nat.ble (rest.map (fun v => v.category)).sum 8 = true) (hk : kn = iKnd (pInf PP y')) (hz : iCel (pInf PP y') = 0 ∧ iSlt (pInf PP y') = 0) (hr : am_rcv PP E y' as (S0, mi, ml)) (h : cq E d y' as (kc E d y K (pc + 3) L rest) mi ml) : am_inv PP E (am_l0 y) (am_call PP E d) (am_wp PP E y (am_l0 y) (am_call PP E d) (am_k0 y K)) y' kn pc L st (S0, mi, ml) := by
  subst ha
  have e1 : (as.reverse ++ rest).take (iArg (pInf PP y')) = as.reverse := by rw [← hl, ← List.length_reverse, List.take_left']; rfl
  have e2 : (as.reverse ++ rest).drop (iArg (pInf PP y')) = rest := by rw [← hl, ← List.length_reverse, List.drop_left']; rfl
  unfold am_inv
  rw [e1, e2, hb, List.reverse_reverse, show Nat.ble (iArg (pInf PP y')) (as.reverse ++ rest).length = true from Nat.ble_eq_true_of_le (by rw [← hl]; simp), show Nat.beq kn (iKnd (pInf PP y')) = true from by rw [hk]; exact Nat.beq_refl _]
  refine ⟨hr, ?_, h⟩
  rw [hz.1, hz.2]
  trivial
theorem r_callV {y' k : Nat} {as rest : List Value} (hc : tb_code y pc = some (.invokevirtual k, n, t)) (hm : pMth PP (iOwn (pInf PP y)) k = some y') (ha : st = as.reverse ++ rest) (hl : as.length = iArg (pInf PP y')) (hb : Nat.ble (rest.map (fun v => v.category)).sum 8 = true) (hk : 1 = iKnd (pInf PP y')) (hz : iCel (pInf PP y') = 0 ∧ iSlt (pInf PP y') = 0) (hr : am_rcv PP E y' as (S0, mi, ml)) (h : cq E d y' as (kc E d y K (pc + 3) L rest) mi ml) : rn E d y K pc L st mi ml :=
  am_wp_step (am_call_mono d) hc (by unfold am_step; dsimp only; rw [hm]; exact r_inv ha hl hb hk hz hr h)
theorem r_callS {y' k : Nat} {as rest : List Value} (hc : tb_code y pc = some (.invokestatic k, n, t)) (hm : pMth PP (iOwn (pInf PP y)) k = some (y' + 4)) (ha : st = as.reverse ++ rest) (hl : as.length = iArg (pInf PP (y' + 4))) (hb : Nat.ble (rest.map (fun v => v.category)).sum 8 = true) (hk : 0 = iKnd (pInf PP (y' + 4))) (hz : iCel (pInf PP (y' + 4)) = 0 ∧ iSlt (pInf PP (y' + 4)) = 0) (hr : am_rcv PP E (y' + 4) as (S0, mi, ml)) (h : cq E d (y' + 4) as (kc E d y K (pc + 3) L rest) mi ml) : rn E d y K pc L st mi ml :=
  am_wp_step (am_call_mono d) hc (by unfold am_step; dsimp only; rw [hm]; exact r_inv ha hl hb hk hz hr h)
/-- into a method -/
theorem r_ent {as L' : List Value} (h1 : Nat.ble (am_sl as).length (iMax (pInf PP y)) = true) (h2 : as.length = iArg (pInf PP y)) (h3 : as.all am_isv = true) (hl : am_ent (iMax (pInf PP y)) as = L') (h : rn E d y K 0 L' [] mi ml) : cq E (d + 1) y as K mi ml := by
  subst hl
  exact ⟨Nat.le_of_ble_eq_true h1, h2, h3, h⟩
theorem r_k0 {r : Option Value} (hz : iCel (pInf PP y) = 0 ∧ iSlt (pInf PP y) = 0) (h : K r (S0, mi, ml)) : am_k0 y K r (S0, mi, ml) := by
  refine ⟨?_, ?_, h⟩
  · show S0.1.length = S0.1.length + _
    rw [hz.1, Nat.add_zero]
  · show (S0.1.map (am_szq PP)).sum = (S0.1.map (am_szq PP)).sum + _
    rw [hz.2, Nat.add_zero]
theorem r_ret {x : Int32} {ty : FieldType} (hc : tb_code y pc = some (.ireturn, n, t)) (hr : iRet (pInf PP y) = some ty) (hz : iCel (pInf PP y) = 0 ∧ iSlt (pInf PP y) = 0) (ho : am_fit ty x) (h : K (some (.int x)) (S0, mi, ml)) : rn E d y K pc L [.int x] mi ml := am_wp_step (am_call_mono d) hc (by unfold am_step; dsimp only; rw [hr]; exact ⟨ho, r_k0 hz h⟩)
theorem r_lret {x : Int64} (hc : tb_code y pc = some (.lreturn, n, t)) (hr : iRet (pInf PP y) = some .long) (hz : iCel (pInf PP y) = 0 ∧ iSlt (pInf PP y) = 0) (h : K (some (.long x)) (S0, mi, ml)) : rn E d y K pc L [.long x] mi ml := am_wp_step (am_call_mono d) hc (by unfold am_step; dsimp only; rw [hr]; exact r_k0 hz h)
theorem r_vret (hc : tb_code y pc = some (.return_, n, t)) (hr : iRet (pInf PP y) = none) (hz : iCel (pInf PP y) = 0 ∧ iSlt (pInf PP y) = 0) (h : K none (S0, mi, ml)) : rn E d y K pc L [] mi ml := am_wp_step (am_call_mono d) hc (by unfold am_step; dsimp only; rw [hr]; exact r_k0 hz h)
end
theorem tsd {x : Int32} (lo n : Nat) (h : ∀ k, k < n → ¬ x = nI (lo + k)) (hn : lo + n < 2 ^ 31) : x.toInt < (lo : Int) ∨ ((lo + n : Nat) : Int) - 1 < x.toInt := by
  by_cases h1 : x.toInt < (lo : Int)
  · exact Or.inl h1
  · refine Or.inr ?_
    by_cases h2 : ((lo + n : Nat) : Int) - 1 < x.toInt
    · exact h2
    · exfalso
      have h3 : ¬ x < 0 := fun q => by
        have := Int32.lt_iff_toInt_lt.mp q
        simp at this
        omega
      obtain ⟨j, hj, rfl⟩ := nI_of h3
      rw [nI_toInt hj] at h1 h2
      exact h (j - lo) (by omega) (by rw [show lo + (j - lo) = j by omega])
theorem tswI {pc t : Nat} {dd lo hi off : Int} {o : Array Int} {x : Int32} (c : Int32) (hx : x = c) (h1 : ¬ c.toInt < lo) (h2 : ¬ hi < c.toInt) (ho : o[(c.toInt - lo).toNat]? = some off) (ht : (pc : Int) + off = (t : Int)) : am_tsw pc dd lo hi o x t := by
  subst hx
  exact Or.inr ⟨h1, h2, off, ho, ht⟩
theorem kc_m8 : Int32.ofInt (-8) = (-8) := by decide
theorem kc_m1 : Int32.ofInt (-1) = (-1) := by decide
theorem kc_0 : Int32.ofInt 0 = 0 := by decide
theorem kc_1 : Int32.ofInt 1 = 1 := by decide
theorem kc_2 : Int32.ofInt 2 = 2 := by decide
theorem kc_3 : Int32.ofInt 3 = 3 := by decide
theorem kc_4 : Int32.ofInt 4 = 4 := by decide
theorem kc_5 : Int32.ofInt 5 = 5 := by decide
theorem kc_6 : Int32.ofInt 6 = 6 := by decide
theorem kb_6 : (Int8.ofInt 6).toInt32 = 6 := by decide
theorem kb_7 : (Int8.ofInt 7).toInt32 = 7 := by decide
theorem kb_8 : (Int8.ofInt 8).toInt32 = 8 := by decide
theorem kb_9 : (Int8.ofInt 9).toInt32 = 9 := by decide
theorem kb_10 : (Int8.ofInt 10).toInt32 = 10 := by decide
theorem kb_11 : (Int8.ofInt 11).toInt32 = 11 := by decide
theorem kb_12 : (Int8.ofInt 12).toInt32 = 12 := by decide
theorem kb_13 : (Int8.ofInt 13).toInt32 = 13 := by decide
theorem kb_14 : (Int8.ofInt 14).toInt32 = 14 := by decide
theorem kb_16 : (Int8.ofInt 16).toInt32 = 16 := by decide
theorem kb_17 : (Int8.ofInt 17).toInt32 = 17 := by decide
theorem kb_18 : (Int8.ofInt 18).toInt32 = 18 := by decide
theorem kb_19 : (Int8.ofInt 19).toInt32 = 19 := by decide
theorem kb_20 : (Int8.ofInt 20).toInt32 = 20 := by decide
theorem kb_21 : (Int8.ofInt 21).toInt32 = 21 := by decide
theorem kb_22 : (Int8.ofInt 22).toInt32 = 22 := by decide
theorem kb_24 : (Int8.ofInt 24).toInt32 = 24 := by decide
theorem kb_30 : (Int8.ofInt 30).toInt32 = 30 := by decide
theorem kb_32 : (Int8.ofInt 32).toInt32 = 32 := by decide
theorem kb_48 : (Int8.ofInt 48).toInt32 = 48 := by decide
theorem kb_56 : (Int8.ofInt 56).toInt32 = 56 := by decide
theorem kb_57 : (Int8.ofInt 57).toInt32 = 57 := by decide
theorem kb_59 : (Int8.ofInt 59).toInt32 = 59 := by decide
theorem kb_60 : (Int8.ofInt 60).toInt32 = 60 := by decide
theorem kb_61 : (Int8.ofInt 61).toInt32 = 61 := by decide
theorem kb_62 : (Int8.ofInt 62).toInt32 = 62 := by decide
theorem kb_63 : (Int8.ofInt 63).toInt32 = 63 := by decide
theorem kb_64 : (Int8.ofInt 64).toInt32 = 64 := by decide
theorem kb_80 : (Int8.ofInt 80).toInt32 = 80 := by decide
theorem kb_84 : (Int8.ofInt 84).toInt32 = 84 := by decide
theorem kb_97 : (Int8.ofInt 97).toInt32 = 97 := by decide
theorem kb_99 : (Int8.ofInt 99).toInt32 = 99 := by decide
theorem kb_122 : (Int8.ofInt 122).toInt32 = 122 := by decide
theorem ks_200 : (Int16.ofInt 200).toInt32 = 200 := by decide
theorem ks_240 : (Int16.ofInt 240).toInt32 = 240 := by decide
theorem ks_255 : (Int16.ofInt 255).toInt32 = 255 := by decide
theorem ks_300 : (Int16.ofInt 300).toInt32 = 300 := by decide
theorem ks_408 : (Int16.ofInt 408).toInt32 = 408 := by decide
theorem ks_416 : (Int16.ofInt 416).toInt32 = 416 := by decide
theorem ks_900 : (Int16.ofInt 900).toInt32 = 900 := by decide
theorem ks_1664 : (Int16.ofInt 1664).toInt32 = 1664 := by decide
theorem ks_1665 : (Int16.ofInt 1665).toInt32 = 1665 := by decide
theorem ks_1666 : (Int16.ofInt 1666).toInt32 = 1666 := by decide
theorem ks_1667 : (Int16.ofInt 1667).toInt32 = 1667 := by decide
theorem ks_1668 : (Int16.ofInt 1668).toInt32 = 1668 := by decide
theorem ks_1670 : (Int16.ofInt 1670).toInt32 = 1670 := by decide
theorem ks_1671 : (Int16.ofInt 1671).toInt32 = 1671 := by decide
theorem ks_1672 : (Int16.ofInt 1672).toInt32 = 1672 := by decide
theorem ks_1674 : (Int16.ofInt 1674).toInt32 = 1674 := by decide
theorem ks_1700 : (Int16.ofInt 1700).toInt32 = 1700 := by decide
theorem ks_1712 : (Int16.ofInt 1712).toInt32 = 1712 := by decide
theorem ks_2072 : (Int16.ofInt 2072).toInt32 = 2072 := by decide
theorem ks_2080 : (Int16.ofInt 2080).toInt32 = 2080 := by decide
theorem ks_2496 : (Int16.ofInt 2496).toInt32 = 2496 := by decide
theorem ks_2592 : (Int16.ofInt 2592).toInt32 = 2592 := by decide
theorem ks_3167 : (Int16.ofInt 3167).toInt32 = 3167 := by decide
theorem ks_9999 : (Int16.ofInt 9999).toInt32 = 9999 := by decide
theorem ks_11383 : (Int16.ofInt 11383).toInt32 = 11383 := by decide
theorem kl_0 : Int64.ofNat ((0 : Fin 2) : Nat) = 0 := rfl
theorem kl_1 : Int64.ofNat ((1 : Fin 2) : Nat) = 1 := rfl
theorem kn_0 : (0 : Int32).toNatClampNeg = 0 := by decide
theorem kn_1 : (1 : Int32).toNatClampNeg = 1 := by decide
theorem kn_2 : (2 : Int32).toNatClampNeg = 2 := by decide
theorem kn_3 : (3 : Int32).toNatClampNeg = 3 := by decide
theorem kn_4 : (4 : Int32).toNatClampNeg = 4 := by decide
theorem kn_5 : (5 : Int32).toNatClampNeg = 5 := by decide
theorem kn_6 : (6 : Int32).toNatClampNeg = 6 := by decide
theorem kn_7 : (7 : Int32).toNatClampNeg = 7 := by decide
theorem kn_8 : (8 : Int32).toNatClampNeg = 8 := by decide
theorem kn_9 : (9 : Int32).toNatClampNeg = 9 := by decide
theorem kn_10 : (10 : Int32).toNatClampNeg = 10 := by decide
theorem kn_11 : (11 : Int32).toNatClampNeg = 11 := by decide
theorem kn_12 : (12 : Int32).toNatClampNeg = 12 := by decide
theorem kn_13 : (13 : Int32).toNatClampNeg = 13 := by decide
theorem kn_14 : (14 : Int32).toNatClampNeg = 14 := by decide
theorem kn_16 : (16 : Int32).toNatClampNeg = 16 := by decide
theorem kn_17 : (17 : Int32).toNatClampNeg = 17 := by decide
theorem kn_18 : (18 : Int32).toNatClampNeg = 18 := by decide
theorem kn_19 : (19 : Int32).toNatClampNeg = 19 := by decide
theorem kn_20 : (20 : Int32).toNatClampNeg = 20 := by decide
theorem kn_21 : (21 : Int32).toNatClampNeg = 21 := by decide
theorem kn_22 : (22 : Int32).toNatClampNeg = 22 := by decide
theorem kn_24 : (24 : Int32).toNatClampNeg = 24 := by decide
theorem kn_30 : (30 : Int32).toNatClampNeg = 30 := by decide
theorem kn_32 : (32 : Int32).toNatClampNeg = 32 := by decide
theorem kn_48 : (48 : Int32).toNatClampNeg = 48 := by decide
theorem kn_56 : (56 : Int32).toNatClampNeg = 56 := by decide
theorem kn_57 : (57 : Int32).toNatClampNeg = 57 := by decide
theorem kn_59 : (59 : Int32).toNatClampNeg = 59 := by decide
theorem kn_60 : (60 : Int32).toNatClampNeg = 60 := by decide
theorem kn_61 : (61 : Int32).toNatClampNeg = 61 := by decide
theorem kn_62 : (62 : Int32).toNatClampNeg = 62 := by decide
theorem kn_63 : (63 : Int32).toNatClampNeg = 63 := by decide
theorem kn_64 : (64 : Int32).toNatClampNeg = 64 := by decide
theorem kn_80 : (80 : Int32).toNatClampNeg = 80 := by decide
theorem kn_84 : (84 : Int32).toNatClampNeg = 84 := by decide
theorem kn_97 : (97 : Int32).toNatClampNeg = 97 := by decide
theorem kn_99 : (99 : Int32).toNatClampNeg = 99 := by decide
theorem kn_122 : (122 : Int32).toNatClampNeg = 122 := by decide
theorem kn_200 : (200 : Int32).toNatClampNeg = 200 := by decide
theorem kn_240 : (240 : Int32).toNatClampNeg = 240 := by decide
theorem kn_255 : (255 : Int32).toNatClampNeg = 255 := by decide
theorem kn_300 : (300 : Int32).toNatClampNeg = 300 := by decide
theorem kn_408 : (408 : Int32).toNatClampNeg = 408 := by decide
theorem kn_416 : (416 : Int32).toNatClampNeg = 416 := by decide
theorem kn_900 : (900 : Int32).toNatClampNeg = 900 := by decide
theorem kn_1664 : (1664 : Int32).toNatClampNeg = 1664 := by decide
theorem kn_1665 : (1665 : Int32).toNatClampNeg = 1665 := by decide
theorem kn_1666 : (1666 : Int32).toNatClampNeg = 1666 := by decide
theorem kn_1667 : (1667 : Int32).toNatClampNeg = 1667 := by decide
theorem kn_1668 : (1668 : Int32).toNatClampNeg = 1668 := by decide
theorem kn_1670 : (1670 : Int32).toNatClampNeg = 1670 := by decide
theorem kn_1671 : (1671 : Int32).toNatClampNeg = 1671 := by decide
theorem kn_1672 : (1672 : Int32).toNatClampNeg = 1672 := by decide
theorem kn_1674 : (1674 : Int32).toNatClampNeg = 1674 := by decide
theorem kn_1700 : (1700 : Int32).toNatClampNeg = 1700 := by decide
theorem kn_1712 : (1712 : Int32).toNatClampNeg = 1712 := by decide
theorem kn_2072 : (2072 : Int32).toNatClampNeg = 2072 := by decide
theorem kn_2080 : (2080 : Int32).toNatClampNeg = 2080 := by decide
theorem kn_2496 : (2496 : Int32).toNatClampNeg = 2496 := by decide
theorem kn_2592 : (2592 : Int32).toNatClampNeg = 2592 := by decide
theorem kn_3167 : (3167 : Int32).toNatClampNeg = 3167 := by decide
theorem kn_9999 : (9999 : Int32).toNatClampNeg = 9999 := by decide
theorem kn_11383 : (11383 : Int32).toNatClampNeg = 11383 := by decide
theorem f_4 {pc : Nat} {e : Instr × Nat × Nat} (h : am_fetch cd_4 pc = some e) : tb_code 4 pc = some e := h
theorem f_5 {pc : Nat} {e : Instr × Nat × Nat} (h : am_fetch cd_5 pc = some e) : tb_code 5 pc = some e := h
theorem f_6 {pc : Nat} {e : Instr × Nat × Nat} (h : am_fetch cd_6 pc = some e) : tb_code 6 pc = some e := h
theorem f_7 {pc : Nat} {e : Instr × Nat × Nat} (h : am_fetch cd_7 pc = some e) : tb_code 7 pc = some e := h
theorem f_8 {pc : Nat} {e : Instr × Nat × Nat} (h : am_fetch cd_8 pc = some e) : tb_code 8 pc = some e := h
theorem f_9 {pc : Nat} {e : Instr × Nat × Nat} (h : am_fetch cd_9 pc = some e) : tb_code 9 pc = some e := h
theorem f_10 {pc : Nat} {e : Instr × Nat × Nat} (h : am_fetch cd_10 pc = some e) : tb_code 10 pc = some e := h
theorem f_11 {pc : Nat} {e : Instr × Nat × Nat} (h : am_fetch cd_11 pc = some e) : tb_code 11 pc = some e := h
theorem f_12 {pc : Nat} {e : Instr × Nat × Nat} (h : am_fetch cd_12 pc = some e) : tb_code 12 pc = some e := h
theorem f_13 {pc : Nat} {e : Instr × Nat × Nat} (h : am_fetch cd_13 pc = some e) : tb_code 13 pc = some e := h
theorem f_14 {pc : Nat} {e : Instr × Nat × Nat} (h : am_fetch cd_14 pc = some e) : tb_code 14 pc = some e := h
theorem f_15 {pc : Nat} {e : Instr × Nat × Nat} (h : am_fetch cd_15 pc = some e) : tb_code 15 pc = some e := h
theorem f_16 {pc : Nat} {e : Instr × Nat × Nat} (h : am_fetch cd_16 pc = some e) : tb_code 16 pc = some e := h
theorem f_17 {pc : Nat} {e : Instr × Nat × Nat} (h : am_fetch cd_17 pc = some e) : tb_code 17 pc = some e := h
theorem f_18 {pc : Nat} {e : Instr × Nat × Nat} (h : am_fetch cd_18 pc = some e) : tb_code 18 pc = some e := h
theorem f_19 {pc : Nat} {e : Instr × Nat × Nat} (h : am_fetch cd_19 pc = some e) : tb_code 19 pc = some e := h
theorem f_20 {pc : Nat} {e : Instr × Nat × Nat} (h : am_fetch cd_20 pc = some e) : tb_code 20 pc = some e := h
theorem f_21 {pc : Nat} {e : Instr × Nat × Nat} (h : am_fetch cd_21 pc = some e) : tb_code 21 pc = some e := h
theorem f_22 {pc : Nat} {e : Instr × Nat × Nat} (h : am_fetch cd_22 pc = some e) : tb_code 22 pc = some e := h
theorem f_23 {pc : Nat} {e : Instr × Nat × Nat} (h : am_fetch cd_23 pc = some e) : tb_code 23 pc = some e := h
theorem f_24 {pc : Nat} {e : Instr × Nat × Nat} (h : am_fetch cd_24 pc = some e) : tb_code 24 pc = some e := h
theorem f_25 {pc : Nat} {e : Instr × Nat × Nat} (h : am_fetch cd_25 pc = some e) : tb_code 25 pc = some e := h
theorem f_26 {pc : Nat} {e : Instr × Nat × Nat} (h : am_fetch cd_26 pc = some e) : tb_code 26 pc = some e := h
theorem f_27 {pc : Nat} {e : Instr × Nat × Nat} (h : am_fetch cd_27 pc = some e) : tb_code 27 pc = some e := h
theorem f_28 {pc : Nat} {e : Instr × Nat × Nat} (h : am_fetch cd_28 pc = some e) : tb_code 28 pc = some e := h
theorem f_29 {pc : Nat} {e : Instr × Nat × Nat} (h : am_fetch cd_29 pc = some e) : tb_code 29 pc = some e := h
theorem f_30 {pc : Nat} {e : Instr × Nat × Nat} (h : am_fetch cd_30 pc = some e) : tb_code 30 pc = some e := h
theorem f_31 {pc : Nat} {e : Instr × Nat × Nat} (h : am_fetch cd_31 pc = some e) : tb_code 31 pc = some e := h
theorem f_32 {pc : Nat} {e : Instr × Nat × Nat} (h : am_fetch cd_32 pc = some e) : tb_code 32 pc = some e := h
theorem f_33 {pc : Nat} {e : Instr × Nat × Nat} (h : am_fetch cd_33 pc = some e) : tb_code 33 pc = some e := h
theorem f_34 {pc : Nat} {e : Instr × Nat × Nat} (h : am_fetch cd_34 pc = some e) : tb_code 34 pc = some e := h
theorem f_35 {pc : Nat} {e : Instr × Nat × Nat} (h : am_fetch cd_35 pc = some e) : tb_code 35 pc = some e := h
theorem f_36 {pc : Nat} {e : Instr × Nat × Nat} (h : am_fetch cd_36 pc = some e) : tb_code 36 pc = some e := h
theorem f_37 {pc : Nat} {e : Instr × Nat × Nat} (h : am_fetch cd_37 pc = some e) : tb_code 37 pc = some e := h
theorem f_38 {pc : Nat} {e : Instr × Nat × Nat} (h : am_fetch cd_38 pc = some e) : tb_code 38 pc = some e := h
theorem f_39 {pc : Nat} {e : Instr × Nat × Nat} (h : am_fetch cd_39 pc = some e) : tb_code 39 pc = some e := h
theorem f_40 {pc : Nat} {e : Instr × Nat × Nat} (h : am_fetch cd_40 pc = some e) : tb_code 40 pc = some e := h
theorem f_41 {pc : Nat} {e : Instr × Nat × Nat} (h : am_fetch cd_41 pc = some e) : tb_code 41 pc = some e := h
theorem f_42 {pc : Nat} {e : Instr × Nat × Nat} (h : am_fetch cd_42 pc = some e) : tb_code 42 pc = some e := h
theorem f_43 {pc : Nat} {e : Instr × Nat × Nat} (h : am_fetch cd_43 pc = some e) : tb_code 43 pc = some e := h
theorem f_44 {pc : Nat} {e : Instr × Nat × Nat} (h : am_fetch cd_44 pc = some e) : tb_code 44 pc = some e := h
theorem f_45 {pc : Nat} {e : Instr × Nat × Nat} (h : am_fetch cd_45 pc = some e) : tb_code 45 pc = some e := h
theorem f_46 {pc : Nat} {e : Instr × Nat × Nat} (h : am_fetch cd_46 pc = some e) : tb_code 46 pc = some e := h
theorem f_47 {pc : Nat} {e : Instr × Nat × Nat} (h : am_fetch cd_47 pc = some e) : tb_code 47 pc = some e := h
theorem f_48 {pc : Nat} {e : Instr × Nat × Nat} (h : am_fetch cd_48 pc = some e) : tb_code 48 pc = some e := h
theorem f_49 {pc : Nat} {e : Instr × Nat × Nat} (h : am_fetch cd_49 pc = some e) : tb_code 49 pc = some e := h
theorem f_50 {pc : Nat} {e : Instr × Nat × Nat} (h : am_fetch cd_50 pc = some e) : tb_code 50 pc = some e := h
theorem f_51 {pc : Nat} {e : Instr × Nat × Nat} (h : am_fetch cd_51 pc = some e) : tb_code 51 pc = some e := h
theorem f_52 {pc : Nat} {e : Instr × Nat × Nat} (h : am_fetch cd_52 pc = some e) : tb_code 52 pc = some e := h
theorem f_53 {pc : Nat} {e : Instr × Nat × Nat} (h : am_fetch cd_53 pc = some e) : tb_code 53 pc = some e := h
theorem f_54 {pc : Nat} {e : Instr × Nat × Nat} (h : am_fetch cd_54 pc = some e) : tb_code 54 pc = some e := h
theorem f_55 {pc : Nat} {e : Instr × Nat × Nat} (h : am_fetch cd_55 pc = some e) : tb_code 55 pc = some e := h
theorem f_56 {pc : Nat} {e : Instr × Nat × Nat} (h : am_fetch cd_56 pc = some e) : tb_code 56 pc = some e := h
theorem f_57 {pc : Nat} {e : Instr × Nat × Nat} (h : am_fetch cd_57 pc = some e) : tb_code 57 pc = some e := h
theorem f_58 {pc : Nat} {e : Instr × Nat × Nat} (h : am_fetch cd_58 pc = some e) : tb_code 58 pc = some e := h
theorem f_59 {pc : Nat} {e : Instr × Nat × Nat} (h : am_fetch cd_59 pc = some e) : tb_code 59 pc = some e := h
theorem f_60 {pc : Nat} {e : Instr × Nat × Nat} (h : am_fetch cd_60 pc = some e) : tb_code 60 pc = some e := h
theorem f_61 {pc : Nat} {e : Instr × Nat × Nat} (h : am_fetch cd_61 pc = some e) : tb_code 61 pc = some e := h
theorem f_62 {pc : Nat} {e : Instr × Nat × Nat} (h : am_fetch cd_62 pc = some e) : tb_code 62 pc = some e := h
theorem f_63 {pc : Nat} {e : Instr × Nat × Nat} (h : am_fetch cd_63 pc = some e) : tb_code 63 pc = some e := h
theorem f_64 {pc : Nat} {e : Instr × Nat × Nat} (h : am_fetch cd_64 pc = some e) : tb_code 64 pc = some e := h
theorem f_65 {pc : Nat} {e : Instr × Nat × Nat} (h : am_fetch cd_65 pc = some e) : tb_code 65 pc = some e := h
theorem f_66 {pc : Nat} {e : Instr × Nat × Nat} (h : am_fetch cd_66 pc = some e) : tb_code 66 pc = some e := h
theorem f_67 {pc : Nat} {e : Instr × Nat × Nat} (h : am_fetch cd_67 pc = some e) : tb_code 67 pc = some e := h
theorem f_68 {pc : Nat} {e : Instr × Nat × Nat} (h : am_fetch cd_68 pc = some e) : tb_code 68 pc = some e := h
theorem f_69 {pc : Nat} {e : Instr × Nat × Nat} (h : am_fetch cd_69 pc = some e) : tb_code 69 pc = some e := h
theorem f_70 {pc : Nat} {e : Instr × Nat × Nat} (h : am_fetch cd_70 pc = some e) : tb_code 70 pc = some e := h
theorem f_71 {pc : Nat} {e : Instr × Nat × Nat} (h : am_fetch cd_71 pc = some e) : tb_code 71 pc = some e := h
theorem f_72 {pc : Nat} {e : Instr × Nat × Nat} (h : am_fetch cd_72 pc = some e) : tb_code 72 pc = some e := h
theorem f_73 {pc : Nat} {e : Instr × Nat × Nat} (h : am_fetch cd_73 pc = some e) : tb_code 73 pc = some e := h
theorem f_74 {pc : Nat} {e : Instr × Nat × Nat} (h : am_fetch cd_74 pc = some e) : tb_code 74 pc = some e := h
theorem f_75 {pc : Nat} {e : Instr × Nat × Nat} (h : am_fetch cd_75 pc = some e) : tb_code 75 pc = some e := h
theorem f_76 {pc : Nat} {e : Instr × Nat × Nat} (h : am_fetch cd_76 pc = some e) : tb_code 76 pc = some e := h
theorem f_77 {pc : Nat} {e : Instr × Nat × Nat} (h : am_fetch cd_77 pc = some e) : tb_code 77 pc = some e := h
theorem f_78 {pc : Nat} {e : Instr × Nat × Nat} (h : am_fetch cd_78 pc = some e) : tb_code 78 pc = some e := h
theorem f_79 {pc : Nat} {e : Instr × Nat × Nat} (h : am_fetch cd_79 pc = some e) : tb_code 79 pc = some e := h
theorem f_80 {pc : Nat} {e : Instr × Nat × Nat} (h : am_fetch cd_80 pc = some e) : tb_code 80 pc = some e := h
theorem f_81 {pc : Nat} {e : Instr × Nat × Nat} (h : am_fetch cd_81 pc = some e) : tb_code 81 pc = some e := h
theorem f_82 {pc : Nat} {e : Instr × Nat × Nat} (h : am_fetch cd_82 pc = some e) : tb_code 82 pc = some e := h
theorem f_83 {pc : Nat} {e : Instr × Nat × Nat} (h : am_fetch cd_83 pc = some e) : tb_code 83 pc = some e := h
theorem f_84 {pc : Nat} {e : Instr × Nat × Nat} (h : am_fetch cd_84 pc = some e) : tb_code 84 pc = some e := h
theorem f_85 {pc : Nat} {e : Instr × Nat × Nat} (h : am_fetch cd_85 pc = some e) : tb_code 85 pc = some e := h
theorem f_86 {pc : Nat} {e : Instr × Nat × Nat} (h : am_fetch cd_86 pc = some e) : tb_code 86 pc = some e := h
theorem f_87 {pc : Nat} {e : Instr × Nat × Nat} (h : am_fetch cd_87 pc = some e) : tb_code 87 pc = some e := h
theorem f_88 {pc : Nat} {e : Instr × Nat × Nat} (h : am_fetch cd_88 pc = some e) : tb_code 88 pc = some e := h
theorem f_89 {pc : Nat} {e : Instr × Nat × Nat} (h : am_fetch cd_89 pc = some e) : tb_code 89 pc = some e := h
theorem f_90 {pc : Nat} {e : Instr × Nat × Nat} (h : am_fetch cd_90 pc = some e) : tb_code 90 pc = some e := h
theorem f_91 {pc : Nat} {e : Instr × Nat × Nat} (h : am_fetch cd_91 pc = some e) : tb_code 91 pc = some e := h
theorem f_92 {pc : Nat} {e : Instr × Nat × Nat} (h : am_fetch cd_92 pc = some e) : tb_code 92 pc = some e := h
theorem f_93 {pc : Nat} {e : Instr × Nat × Nat} (h : am_fetch cd_93 pc = some e) : tb_code 93 pc = some e := h
theorem f_94 {pc : Nat} {e : Instr × Nat × Nat} (h : am_fetch cd_94 pc = some e) : tb_code 94 pc = some e := h
theorem f_95 {pc : Nat} {e : Instr × Nat × Nat} (h : am_fetch cd_95 pc = some e) : tb_code 95 pc = some e := h
theorem f_96 {pc : Nat} {e : Instr × Nat × Nat} (h : am_fetch cd_96 pc = some e) : tb_code 96 pc = some e := h
theorem f_97 {pc : Nat} {e : Instr × Nat × Nat} (h : am_fetch cd_97 pc = some e) : tb_code 97 pc = some e := h
theorem f_98 {pc : Nat} {e : Instr × Nat × Nat} (h : am_fetch cd_98 pc = some e) : tb_code 98 pc = some e := h
theorem f_99 {pc : Nat} {e : Instr × Nat × Nat} (h : am_fetch cd_99 pc = some e) : tb_code 99 pc = some e := h
theorem f_100 {pc : Nat} {e : Instr × Nat × Nat} (h : am_fetch cd_100 pc = some e) : tb_code 100 pc = some e := h
theorem f_101 {pc : Nat} {e : Instr × Nat × Nat} (h : am_fetch cd_101 pc = some e) : tb_code 101 pc = some e := h
theorem f_102 {pc : Nat} {e : Instr × Nat × Nat} (h : am_fetch cd_102 pc = some e) : tb_code 102 pc = some e := h
theorem f_103 {pc : Nat} {e : Instr × Nat × Nat} (h : am_fetch cd_103 pc = some e) : tb_code 103 pc = some e := h
theorem f_104 {pc : Nat} {e : Instr × Nat × Nat} (h : am_fetch cd_104 pc = some e) : tb_code 104 pc = some e := h
theorem f_105 {pc : Nat} {e : Instr × Nat × Nat} (h : am_fetch cd_105 pc = some e) : tb_code 105 pc = some e := h
theorem f_106 {pc : Nat} {e : Instr × Nat × Nat} (h : am_fetch cd_106 pc = some e) : tb_code 106 pc = some e := h
theorem f_107 {pc : Nat} {e : Instr × Nat × Nat} (h : am_fetch cd_107 pc = some e) : tb_code 107 pc = some e := h
theorem f_108 {pc : Nat} {e : Instr × Nat × Nat} (h : am_fetch cd_108 pc = some e) : tb_code 108 pc = some e := h
theorem f_109 {pc : Nat} {e : Instr × Nat × Nat} (h : am_fetch cd_109 pc = some e) : tb_code 109 pc = some e := h
theorem f_110 {pc : Nat} {e : Instr × Nat × Nat} (h : am_fetch cd_110 pc = some e) : tb_code 110 pc = some e := h
theorem f_111 {pc : Nat} {e : Instr × Nat × Nat} (h : am_fetch cd_111 pc = some e) : tb_code 111 pc = some e := h
theorem f_112 {pc : Nat} {e : Instr × Nat × Nat} (h : am_fetch cd_112 pc = some e) : tb_code 112 pc = some e := h
theorem f_113 {pc : Nat} {e : Instr × Nat × Nat} (h : am_fetch cd_113 pc = some e) : tb_code 113 pc = some e := h
theorem f_114 {pc : Nat} {e : Instr × Nat × Nat} (h : am_fetch cd_114 pc = some e) : tb_code 114 pc = some e := h
theorem f_115 {pc : Nat} {e : Instr × Nat × Nat} (h : am_fetch cd_115 pc = some e) : tb_code 115 pc = some e := h
theorem f_116 {pc : Nat} {e : Instr × Nat × Nat} (h : am_fetch cd_116 pc = some e) : tb_code 116 pc = some e := h
theorem f_117 {pc : Nat} {e : Instr × Nat × Nat} (h : am_fetch cd_117 pc = some e) : tb_code 117 pc = some e := h
theorem f_118 {pc : Nat} {e : Instr × Nat × Nat} (h : am_fetch cd_118 pc = some e) : tb_code 118 pc = some e := h
theorem f_119 {pc : Nat} {e : Instr × Nat × Nat} (h : am_fetch cd_119 pc = some e) : tb_code 119 pc = some e := h
theorem f_120 {pc : Nat} {e : Instr × Nat × Nat} (h : am_fetch cd_120 pc = some e) : tb_code 120 pc = some e := h
theorem f_121 {pc : Nat} {e : Instr × Nat × Nat} (h : am_fetch cd_121 pc = some e) : tb_code 121 pc = some e := h
theorem f_122 {pc : Nat} {e : Instr × Nat × Nat} (h : am_fetch cd_122 pc = some e) : tb_code 122 pc = some e := h
theorem f_123 {pc : Nat} {e : Instr × Nat × Nat} (h : am_fetch cd_123 pc = some e) : tb_code 123 pc = some e := h
theorem f_124 {pc : Nat} {e : Instr × Nat × Nat} (h : am_fetch cd_124 pc = some e) : tb_code 124 pc = some e := h
theorem f_125 {pc : Nat} {e : Instr × Nat × Nat} (h : am_fetch cd_125 pc = some e) : tb_code 125 pc = some e := h
theorem f_126 {pc : Nat} {e : Instr × Nat × Nat} (h : am_fetch cd_126 pc = some e) : tb_code 126 pc = some e := h
theorem f_127 {pc : Nat} {e : Instr × Nat × Nat} (h : am_fetch cd_127 pc = some e) : tb_code 127 pc = some e := h
theorem f_128 {pc : Nat} {e : Instr × Nat × Nat} (h : am_fetch cd_128 pc = some e) : tb_code 128 pc = some e := h
theorem f_129 {pc : Nat} {e : Instr × Nat × Nat} (h : am_fetch cd_129 pc = some e) : tb_code 129 pc = some e := h
theorem f_130 {pc : Nat} {e : Instr × Nat × Nat} (h : am_fetch cd_130 pc = some e) : tb_code 130 pc = some e := h
theorem f_131 {pc : Nat} {e : Instr × Nat × Nat} (h : am_fetch cd_131 pc = some e) : tb_code 131 pc = some e := h
theorem f_132 {pc : Nat} {e : Instr × Nat × Nat} (h : am_fetch cd_132 pc = some e) : tb_code 132 pc = some e := h
theorem f_133 {pc : Nat} {e : Instr × Nat × Nat} (h : am_fetch cd_133 pc = some e) : tb_code 133 pc = some e := h
theorem f_134 {pc : Nat} {e : Instr × Nat × Nat} (h : am_fetch cd_134 pc = some e) : tb_code 134 pc = some e := h
theorem f_135 {pc : Nat} {e : Instr × Nat × Nat} (h : am_fetch cd_135 pc = some e) : tb_code 135 pc = some e := h
theorem f_136 {pc : Nat} {e : Instr × Nat × Nat} (h : am_fetch cd_136 pc = some e) : tb_code 136 pc = some e := h
theorem f_137 {pc : Nat} {e : Instr × Nat × Nat} (h : am_fetch cd_137 pc = some e) : tb_code 137 pc = some e := h
theorem f_138 {pc : Nat} {e : Instr × Nat × Nat} (h : am_fetch cd_138 pc = some e) : tb_code 138 pc = some e := h
theorem f_139 {pc : Nat} {e : Instr × Nat × Nat} (h : am_fetch cd_139 pc = some e) : tb_code 139 pc = some e := h
theorem f_140 {pc : Nat} {e : Instr × Nat × Nat} (h : am_fetch cd_140 pc = some e) : tb_code 140 pc = some e := h
theorem f_141 {pc : Nat} {e : Instr × Nat × Nat} (h : am_fetch cd_141 pc = some e) : tb_code 141 pc = some e := h
theorem f_142 {pc : Nat} {e : Instr × Nat × Nat} (h : am_fetch cd_142 pc = some e) : tb_code 142 pc = some e := h
theorem f_143 {pc : Nat} {e : Instr × Nat × Nat} (h : am_fetch cd_143 pc = some e) : tb_code 143 pc = some e := h
theorem f_144 {pc : Nat} {e : Instr × Nat × Nat} (h : am_fetch cd_144 pc = some e) : tb_code 144 pc = some e := h
theorem f_145 {pc : Nat} {e : Instr × Nat × Nat} (h : am_fetch cd_145 pc = some e) : tb_code 145 pc = some e := h
theorem f_146 {pc : Nat} {e : Instr × Nat × Nat} (h : am_fetch cd_146 pc = some e) : tb_code 146 pc = some e := h
theorem f_147 {pc : Nat} {e : Instr × Nat × Nat} (h : am_fetch cd_147 pc = some e) : tb_code 147 pc = some e := h
theorem f_148 {pc : Nat} {e : Instr × Nat × Nat} (h : am_fetch cd_148 pc = some e) : tb_code 148 pc = some e := h
theorem f_149 {pc : Nat} {e : Instr × Nat × Nat} (h : am_fetch cd_149 pc = some e) : tb_code 149 pc = some e := h
theorem f_150 {pc : Nat} {e : Instr × Nat × Nat} (h : am_fetch cd_150 pc = some e) : tb_code 150 pc = some e := h
theorem f_151 {pc : Nat} {e : Instr × Nat × Nat} (h : am_fetch cd_151 pc = some e) : tb_code 151 pc = some e := h
theorem f_152 {pc : Nat} {e : Instr × Nat × Nat} (h : am_fetch cd_152 pc = some e) : tb_code 152 pc = some e := h
theorem f_153 {pc : Nat} {e : Instr × Nat × Nat} (h : am_fetch cd_153 pc = some e) : tb_code 153 pc = some e := h
theorem f_154 {pc : Nat} {e : Instr × Nat × Nat} (h : am_fetch cd_154 pc = some e) : tb_code 154 pc = some e := h
theorem f_155 {pc : Nat} {e : Instr × Nat × Nat} (h : am_fetch cd_155 pc = some e) : tb_code 155 pc = some e := h
theorem f_156 {pc : Nat} {e : Instr × Nat × Nat} (h : am_fetch cd_156 pc = some e) : tb_code 156 pc = some e := h
theorem f_157 {pc : Nat} {e : Instr × Nat × Nat} (h : am_fetch cd_157 pc = some e) : tb_code 157 pc = some e := h
theorem f_158 {pc : Nat} {e : Instr × Nat × Nat} (h : am_fetch cd_158 pc = some e) : tb_code 158 pc = some e := h
theorem f_159 {pc : Nat} {e : Instr × Nat × Nat} (h : am_fetch cd_159 pc = some e) : tb_code 159 pc = some e := h
theorem f_160 {pc : Nat} {e : Instr × Nat × Nat} (h : am_fetch cd_160 pc = some e) : tb_code 160 pc = some e := h
theorem f_161 {pc : Nat} {e : Instr × Nat × Nat} (h : am_fetch cd_161 pc = some e) : tb_code 161 pc = some e := h
theorem f_162 {pc : Nat} {e : Instr × Nat × Nat} (h : am_fetch cd_162 pc = some e) : tb_code 162 pc = some e := h
theorem f_163 {pc : Nat} {e : Instr × Nat × Nat} (h : am_fetch cd_163 pc = some e) : tb_code 163 pc = some e := h
theorem f_164 {pc : Nat} {e : Instr × Nat × Nat} (h : am_fetch cd_164 pc = some e) : tb_code 164 pc = some e := h
theorem f_165 {pc : Nat} {e : Instr × Nat × Nat} (h : am_fetch cd_165 pc = some e) : tb_code 165 pc = some e := h
theorem f_166 {pc : Nat} {e : Instr × Nat × Nat} (h : am_fetch cd_166 pc = some e) : tb_code 166 pc = some e := h
theorem f_167 {pc : Nat} {e : Instr × Nat × Nat} (h : am_fetch cd_167 pc = some e) : tb_code 167 pc = some e := h
theorem f_168 {pc : Nat} {e : Instr × Nat × Nat} (h : am_fetch cd_168 pc = some e) : tb_code 168 pc = some e := h
theorem f_169 {pc : Nat} {e : Instr × Nat × Nat} (h : am_fetch cd_169 pc = some e) : tb_code 169 pc = some e := h
theorem f_170 {pc : Nat} {e : Instr × Nat × Nat} (h : am_fetch cd_170 pc = some e) : tb_code 170 pc = some e := h
theorem f_171 {pc : Nat} {e : Instr × Nat × Nat} (h : am_fetch cd_171 pc = some e) : tb_code 171 pc = some e := h
theorem f_172 {pc : Nat} {e : Instr × Nat × Nat} (h : am_fetch cd_172 pc = some e) : tb_code 172 pc = some e := h
theorem f_173 {pc : Nat} {e : Instr × Nat × Nat} (h : am_fetch cd_173 pc = some e) : tb_code 173 pc = some e := h
theorem f_174 {pc : Nat} {e : Instr × Nat × Nat} (h : am_fetch cd_174 pc = some e) : tb_code 174 pc = some e := h
theorem f_175 {pc : Nat} {e : Instr × Nat × Nat} (h : am_fetch cd_175 pc = some e) : tb_code 175 pc = some e := h
theorem f_176 {pc : Nat} {e : Instr × Nat × Nat} (h : am_fetch cd_176 pc = some e) : tb_code 176 pc = some e := h
theorem f_177 {pc : Nat} {e : Instr × Nat × Nat} (h : am_fetch cd_177 pc = some e) : tb_code 177 pc = some e := h
theorem f_178 {pc : Nat} {e : Instr × Nat × Nat} (h : am_fetch cd_178 pc = some e) : tb_code 178 pc = some e := h
theorem f_179 {pc : Nat} {e : Instr × Nat × Nat} (h : am_fetch cd_179 pc = some e) : tb_code 179 pc = some e := h
theorem f_180 {pc : Nat} {e : Instr × Nat × Nat} (h : am_fetch cd_180 pc = some e) : tb_code 180 pc = some e := h
theorem f_181 {pc : Nat} {e : Instr × Nat × Nat} (h : am_fetch cd_181 pc = some e) : tb_code 181 pc = some e := h
theorem f_182 {pc : Nat} {e : Instr × Nat × Nat} (h : am_fetch cd_182 pc = some e) : tb_code 182 pc = some e := h
theorem f_183 {pc : Nat} {e : Instr × Nat × Nat} (h : am_fetch cd_183 pc = some e) : tb_code 183 pc = some e := h
theorem f_184 {pc : Nat} {e : Instr × Nat × Nat} (h : am_fetch cd_184 pc = some e) : tb_code 184 pc = some e := h
theorem f_185 {pc : Nat} {e : Instr × Nat × Nat} (h : am_fetch cd_185 pc = some e) : tb_code 185 pc = some e := h
theorem f_186 {pc : Nat} {e : Instr × Nat × Nat} (h : am_fetch cd_186 pc = some e) : tb_code 186 pc = some e := h
theorem f_187 {pc : Nat} {e : Instr × Nat × Nat} (h : am_fetch cd_187 pc = some e) : tb_code 187 pc = some e := h
theorem f_188 {pc : Nat} {e : Instr × Nat × Nat} (h : am_fetch cd_188 pc = some e) : tb_code 188 pc = some e := h
theorem f_189 {pc : Nat} {e : Instr × Nat × Nat} (h : am_fetch cd_189 pc = some e) : tb_code 189 pc = some e := h
theorem f_190 {pc : Nat} {e : Instr × Nat × Nat} (h : am_fetch cd_190 pc = some e) : tb_code 190 pc = some e := h
theorem f_191 {pc : Nat} {e : Instr × Nat × Nat} (h : am_fetch cd_191 pc = some e) : tb_code 191 pc = some e := h
theorem f_192 {pc : Nat} {e : Instr × Nat × Nat} (h : am_fetch cd_192 pc = some e) : tb_code 192 pc = some e := h
theorem f_193 {pc : Nat} {e : Instr × Nat × Nat} (h : am_fetch cd_193 pc = some e) : tb_code 193 pc = some e := h
theorem f_194 {pc : Nat} {e : Instr × Nat × Nat} (h : am_fetch cd_194 pc = some e) : tb_code 194 pc = some e := h
theorem f_195 {pc : Nat} {e : Instr × Nat × Nat} (h : am_fetch cd_195 pc = some e) : tb_code 195 pc = some e := h
theorem f_196 {pc : Nat} {e : Instr × Nat × Nat} (h : am_fetch cd_196 pc = some e) : tb_code 196 pc = some e := h
theorem f_197 {pc : Nat} {e : Instr × Nat × Nat} (h : am_fetch cd_197 pc = some e) : tb_code 197 pc = some e := h
theorem f_198 {pc : Nat} {e : Instr × Nat × Nat} (h : am_fetch cd_198 pc = some e) : tb_code 198 pc = some e := h
theorem f_199 {pc : Nat} {e : Instr × Nat × Nat} (h : am_fetch cd_199 pc = some e) : tb_code 199 pc = some e := h
theorem f_200 {pc : Nat} {e : Instr × Nat × Nat} (h : am_fetch cd_200 pc = some e) : tb_code 200 pc = some e := h
theorem f_201 {pc : Nat} {e : Instr × Nat × Nat} (h : am_fetch cd_201 pc = some e) : tb_code 201 pc = some e := h
theorem f_202 {pc : Nat} {e : Instr × Nat × Nat} (h : am_fetch cd_202 pc = some e) : tb_code 202 pc = some e := h
theorem f_203 {pc : Nat} {e : Instr × Nat × Nat} (h : am_fetch cd_203 pc = some e) : tb_code 203 pc = some e := h
theorem f_204 {pc : Nat} {e : Instr × Nat × Nat} (h : am_fetch cd_204 pc = some e) : tb_code 204 pc = some e := h
theorem f_205 {pc : Nat} {e : Instr × Nat × Nat} (h : am_fetch cd_205 pc = some e) : tb_code 205 pc = some e := h
theorem f_206 {pc : Nat} {e : Instr × Nat × Nat} (h : am_fetch cd_206 pc = some e) : tb_code 206 pc = some e := h
theorem f_207 {pc : Nat} {e : Instr × Nat × Nat} (h : am_fetch cd_207 pc = some e) : tb_code 207 pc = some e := h
theorem f_208 {pc : Nat} {e : Instr × Nat × Nat} (h : am_fetch cd_208 pc = some e) : tb_code 208 pc = some e := h
theorem f_209 {pc : Nat} {e : Instr × Nat × Nat} (h : am_fetch cd_209 pc = some e) : tb_code 209 pc = some e := h
theorem f_210 {pc : Nat} {e : Instr × Nat × Nat} (h : am_fetch cd_210 pc = some e) : tb_code 210 pc = some e := h
theorem f_211 {pc : Nat} {e : Instr × Nat × Nat} (h : am_fetch cd_211 pc = some e) : tb_code 211 pc = some e := h
theorem f_212 {pc : Nat} {e : Instr × Nat × Nat} (h : am_fetch cd_212 pc = some e) : tb_code 212 pc = some e := h
theorem f_213 {pc : Nat} {e : Instr × Nat × Nat} (h : am_fetch cd_213 pc = some e) : tb_code 213 pc = some e := h
theorem f_214 {pc : Nat} {e : Instr × Nat × Nat} (h : am_fetch cd_214 pc = some e) : tb_code 214 pc = some e := h
theorem f_215 {pc : Nat} {e : Instr × Nat × Nat} (h : am_fetch cd_215 pc = some e) : tb_code 215 pc = some e := h
theorem f_216 {pc : Nat} {e : Instr × Nat × Nat} (h : am_fetch cd_216 pc = some e) : tb_code 216 pc = some e := h
theorem f_217 {pc : Nat} {e : Instr × Nat × Nat} (h : am_fetch cd_217 pc = some e) : tb_code 217 pc = some e := h
theorem f_218 {pc : Nat} {e : Instr × Nat × Nat} (h : am_fetch cd_218 pc = some e) : tb_code 218 pc = some e := h
theorem f_219 {pc : Nat} {e : Instr × Nat × Nat} (h : am_fetch cd_219 pc = some e) : tb_code 219 pc = some e := h
theorem f_220 {pc : Nat} {e : Instr × Nat × Nat} (h : am_fetch cd_220 pc = some e) : tb_code 220 pc = some e := h
theorem f_221 {pc : Nat} {e : Instr × Nat × Nat} (h : am_fetch cd_221 pc = some e) : tb_code 221 pc = some e := h
theorem f_222 {pc : Nat} {e : Instr × Nat × Nat} (h : am_fetch cd_222 pc = some e) : tb_code 222 pc = some e := h
theorem f_223 {pc : Nat} {e : Instr × Nat × Nat} (h : am_fetch cd_223 pc = some e) : tb_code 223 pc = some e := h
theorem f_224 {pc : Nat} {e : Instr × Nat × Nat} (h : am_fetch cd_224 pc = some e) : tb_code 224 pc = some e := h
theorem f_225 {pc : Nat} {e : Instr × Nat × Nat} (h : am_fetch cd_225 pc = some e) : tb_code 225 pc = some e := h
theorem f_226 {pc : Nat} {e : Instr × Nat × Nat} (h : am_fetch cd_226 pc = some e) : tb_code 226 pc = some e := h
theorem f_227 {pc : Nat} {e : Instr × Nat × Nat} (h : am_fetch cd_227 pc = some e) : tb_code 227 pc = some e := h
theorem f_228 {pc : Nat} {e : Instr × Nat × Nat} (h : am_fetch cd_228 pc = some e) : tb_code 228 pc = some e := h
theorem f_229 {pc : Nat} {e : Instr × Nat × Nat} (h : am_fetch cd_229 pc = some e) : tb_code 229 pc = some e := h
theorem f_230 {pc : Nat} {e : Instr × Nat × Nat} (h : am_fetch cd_230 pc = some e) : tb_code 230 pc = some e := h
theorem f_231 {pc : Nat} {e : Instr × Nat × Nat} (h : am_fetch cd_231 pc = some e) : tb_code 231 pc = some e := h
theorem f_232 {pc : Nat} {e : Instr × Nat × Nat} (h : am_fetch cd_232 pc = some e) : tb_code 232 pc = some e := h
theorem f_233 {pc : Nat} {e : Instr × Nat × Nat} (h : am_fetch cd_233 pc = some e) : tb_code 233 pc = some e := h
theorem f_234 {pc : Nat} {e : Instr × Nat × Nat} (h : am_fetch cd_234 pc = some e) : tb_code 234 pc = some e := h
theorem f_235 {pc : Nat} {e : Instr × Nat × Nat} (h : am_fetch cd_235 pc = some e) : tb_code 235 pc = some e := h
theorem f_236 {pc : Nat} {e : Instr × Nat × Nat} (h : am_fetch cd_236 pc = some e) : tb_code 236 pc = some e := h
theorem f_237 {pc : Nat} {e : Instr × Nat × Nat} (h : am_fetch cd_237 pc = some e) : tb_code 237 pc = some e := h
theorem f_238 {pc : Nat} {e : Instr × Nat × Nat} (h : am_fetch cd_238 pc = some e) : tb_code 238 pc = some e := h
theorem f_239 {pc : Nat} {e : Instr × Nat × Nat} (h : am_fetch cd_239 pc = some e) : tb_code 239 pc = some e := h
theorem f_240 {pc : Nat} {e : Instr × Nat × Nat} (h : am_fetch cd_240 pc = some e) : tb_code 240 pc = some e := h
theorem f_241 {pc : Nat} {e : Instr × Nat × Nat} (h : am_fetch cd_241 pc = some e) : tb_code 241 pc = some e := h
theorem f_242 {pc : Nat} {e : Instr × Nat × Nat} (h : am_fetch cd_242 pc = some e) : tb_code 242 pc = some e := h
theorem f_243 {pc : Nat} {e : Instr × Nat × Nat} (h : am_fetch cd_243 pc = some e) : tb_code 243 pc = some e := h
theorem f_244 {pc : Nat} {e : Instr × Nat × Nat} (h : am_fetch cd_244 pc = some e) : tb_code 244 pc = some e := h
theorem f_245 {pc : Nat} {e : Instr × Nat × Nat} (h : am_fetch cd_245 pc = some e) : tb_code 245 pc = some e := h
theorem f_246 {pc : Nat} {e : Instr × Nat × Nat} (h : am_fetch cd_246 pc = some e) : tb_code 246 pc = some e := h
theorem f_247 {pc : Nat} {e : Instr × Nat × Nat} (h : am_fetch cd_247 pc = some e) : tb_code 247 pc = some e := h
theorem f_248 {pc : Nat} {e : Instr × Nat × Nat} (h : am_fetch cd_248 pc = some e) : tb_code 248 pc = some e := h
theorem f_249 {pc : Nat} {e : Instr × Nat × Nat} (h : am_fetch cd_249 pc = some e) : tb_code 249 pc = some e := h
theorem f_250 {pc : Nat} {e : Instr × Nat × Nat} (h : am_fetch cd_250 pc = some e) : tb_code 250 pc = some e := h
theorem f_251 {pc : Nat} {e : Instr × Nat × Nat} (h : am_fetch cd_251 pc = some e) : tb_code 251 pc = some e := h
theorem f_252 {pc : Nat} {e : Instr × Nat × Nat} (h : am_fetch cd_252 pc = some e) : tb_code 252 pc = some e := h
theorem f_253 {pc : Nat} {e : Instr × Nat × Nat} (h : am_fetch cd_253 pc = some e) : tb_code 253 pc = some e := h
theorem f_254 {pc : Nat} {e : Instr × Nat × Nat} (h : am_fetch cd_254 pc = some e) : tb_code 254 pc = some e := h
theorem f_255 {pc : Nat} {e : Instr × Nat × Nat} (h : am_fetch cd_255 pc = some e) : tb_code 255 pc = some e := h
theorem f_256 {pc : Nat} {e : Instr × Nat × Nat} (h : am_fetch cd_256 pc = some e) : tb_code 256 pc = some e := h
theorem f_257 {pc : Nat} {e : Instr × Nat × Nat} (h : am_fetch cd_257 pc = some e) : tb_code 257 pc = some e := h
theorem f_258 {pc : Nat} {e : Instr × Nat × Nat} (h : am_fetch cd_258 pc = some e) : tb_code 258 pc = some e := h
theorem f_259 {pc : Nat} {e : Instr × Nat × Nat} (h : am_fetch cd_259 pc = some e) : tb_code 259 pc = some e := h
theorem f_260 {pc : Nat} {e : Instr × Nat × Nat} (h : am_fetch cd_260 pc = some e) : tb_code 260 pc = some e := h
theorem f_261 {pc : Nat} {e : Instr × Nat × Nat} (h : am_fetch cd_261 pc = some e) : tb_code 261 pc = some e := h
theorem f_262 {pc : Nat} {e : Instr × Nat × Nat} (h : am_fetch cd_262 pc = some e) : tb_code 262 pc = some e := h
theorem f_263 {pc : Nat} {e : Instr × Nat × Nat} (h : am_fetch cd_263 pc = some e) : tb_code 263 pc = some e := h
theorem f_264 {pc : Nat} {e : Instr × Nat × Nat} (h : am_fetch cd_264 pc = some e) : tb_code 264 pc = some e := h
theorem f_265 {pc : Nat} {e : Instr × Nat × Nat} (h : am_fetch cd_265 pc = some e) : tb_code 265 pc = some e := h
theorem f_266 {pc : Nat} {e : Instr × Nat × Nat} (h : am_fetch cd_266 pc = some e) : tb_code 266 pc = some e := h
theorem f_267 {pc : Nat} {e : Instr × Nat × Nat} (h : am_fetch cd_267 pc = some e) : tb_code 267 pc = some e := h
theorem f_268 {pc : Nat} {e : Instr × Nat × Nat} (h : am_fetch cd_268 pc = some e) : tb_code 268 pc = some e := h
theorem f_269 {pc : Nat} {e : Instr × Nat × Nat} (h : am_fetch cd_269 pc = some e) : tb_code 269 pc = some e := h
theorem f_270 {pc : Nat} {e : Instr × Nat × Nat} (h : am_fetch cd_270 pc = some e) : tb_code 270 pc = some e := h
theorem f_271 {pc : Nat} {e : Instr × Nat × Nat} (h : am_fetch cd_271 pc = some e) : tb_code 271 pc = some e := h
theorem f_272 {pc : Nat} {e : Instr × Nat × Nat} (h : am_fetch cd_272 pc = some e) : tb_code 272 pc = some e := h
theorem f_273 {pc : Nat} {e : Instr × Nat × Nat} (h : am_fetch cd_273 pc = some e) : tb_code 273 pc = some e := h
theorem f_274 {pc : Nat} {e : Instr × Nat × Nat} (h : am_fetch cd_274 pc = some e) : tb_code 274 pc = some e := h
theorem f_275 {pc : Nat} {e : Instr × Nat × Nat} (h : am_fetch cd_275 pc = some e) : tb_code 275 pc = some e := h
theorem f_276 {pc : Nat} {e : Instr × Nat × Nat} (h : am_fetch cd_276 pc = some e) : tb_code 276 pc = some e := h
theorem f_277 {pc : Nat} {e : Instr × Nat × Nat} (h : am_fetch cd_277 pc = some e) : tb_code 277 pc = some e := h
theorem f_278 {pc : Nat} {e : Instr × Nat × Nat} (h : am_fetch cd_278 pc = some e) : tb_code 278 pc = some e := h
theorem f_279 {pc : Nat} {e : Instr × Nat × Nat} (h : am_fetch cd_279 pc = some e) : tb_code 279 pc = some e := h
theorem f_280 {pc : Nat} {e : Instr × Nat × Nat} (h : am_fetch cd_280 pc = some e) : tb_code 280 pc = some e := h
theorem f_281 {pc : Nat} {e : Instr × Nat × Nat} (h : am_fetch cd_281 pc = some e) : tb_code 281 pc = some e := h
theorem f_282 {pc : Nat} {e : Instr × Nat × Nat} (h : am_fetch cd_282 pc = some e) : tb_code 282 pc = some e := h
theorem f_283 {pc : Nat} {e : Instr × Nat × Nat} (h : am_fetch cd_283 pc = some e) : tb_code 283 pc = some e := h
theorem f_284 {pc : Nat} {e : Instr × Nat × Nat} (h : am_fetch cd_284 pc = some e) : tb_code 284 pc = some e := h
theorem f_285 {pc : Nat} {e : Instr × Nat × Nat} (h : am_fetch cd_285 pc = some e) : tb_code 285 pc = some e := h
theorem f_286 {pc : Nat} {e : Instr × Nat × Nat} (h : am_fetch cd_286 pc = some e) : tb_code 286 pc = some e := h
theorem f_287 {pc : Nat} {e : Instr × Nat × Nat} (h : am_fetch cd_287 pc = some e) : tb_code 287 pc = some e := h
theorem f_288 {pc : Nat} {e : Instr × Nat × Nat} (h : am_fetch cd_288 pc = some e) : tb_code 288 pc = some e := h
theorem f_289 {pc : Nat} {e : Instr × Nat × Nat} (h : am_fetch cd_289 pc = some e) : tb_code 289 pc = some e := h
theorem f_290 {pc : Nat} {e : Instr × Nat × Nat} (h : am_fetch cd_290 pc = some e) : tb_code 290 pc = some e := h
theorem f_291 {pc : Nat} {e : Instr × Nat × Nat} (h : am_fetch cd_291 pc = some e) : tb_code 291 pc = some e := h
theorem f_292 {pc : Nat} {e : Instr × Nat × Nat} (h : am_fetch cd_292 pc = some e) : tb_code 292 pc = some e := h
theorem f_293 {pc : Nat} {e : Instr × Nat × Nat} (h : am_fetch cd_293 pc = some e) : tb_code 293 pc = some e := h
theorem f_294 {pc : Nat} {e : Instr × Nat × Nat} (h : am_fetch cd_294 pc = some e) : tb_code 294 pc = some e := h
theorem f_295 {pc : Nat} {e : Instr × Nat × Nat} (h : am_fetch cd_295 pc = some e) : tb_code 295 pc = some e := h
theorem f_296 {pc : Nat} {e : Instr × Nat × Nat} (h : am_fetch cd_296 pc = some e) : tb_code 296 pc = some e := h
theorem f_297 {pc : Nat} {e : Instr × Nat × Nat} (h : am_fetch cd_297 pc = some e) : tb_code 297 pc = some e := h
theorem f_298 {pc : Nat} {e : Instr × Nat × Nat} (h : am_fetch cd_298 pc = some e) : tb_code 298 pc = some e := h
theorem f_299 {pc : Nat} {e : Instr × Nat × Nat} (h : am_fetch cd_299 pc = some e) : tb_code 299 pc = some e := h
theorem f_300 {pc : Nat} {e : Instr × Nat × Nat} (h : am_fetch cd_300 pc = some e) : tb_code 300 pc = some e := h
theorem f_301 {pc : Nat} {e : Instr × Nat × Nat} (h : am_fetch cd_301 pc = some e) : tb_code 301 pc = some e := h
theorem f_302 {pc : Nat} {e : Instr × Nat × Nat} (h : am_fetch cd_302 pc = some e) : tb_code 302 pc = some e := h
theorem f_303 {pc : Nat} {e : Instr × Nat × Nat} (h : am_fetch cd_303 pc = some e) : tb_code 303 pc = some e := h
theorem f_304 {pc : Nat} {e : Instr × Nat × Nat} (h : am_fetch cd_304 pc = some e) : tb_code 304 pc = some e := h
theorem f_305 {pc : Nat} {e : Instr × Nat × Nat} (h : am_fetch cd_305 pc = some e) : tb_code 305 pc = some e := h
theorem f_306 {pc : Nat} {e : Instr × Nat × Nat} (h : am_fetch cd_306 pc = some e) : tb_code 306 pc = some e := h
theorem f_307 {pc : Nat} {e : Instr × Nat × Nat} (h : am_fetch cd_307 pc = some e) : tb_code 307 pc = some e := h
theorem f_308 {pc : Nat} {e : Instr × Nat × Nat} (h : am_fetch cd_308 pc = some e) : tb_code 308 pc = some e := h
theorem f_309 {pc : Nat} {e : Instr × Nat × Nat} (h : am_fetch cd_309 pc = some e) : tb_code 309 pc = some e := h
theorem f_310 {pc : Nat} {e : Instr × Nat × Nat} (h : am_fetch cd_310 pc = some e) : tb_code 310 pc = some e := h
theorem f_311 {pc : Nat} {e : Instr × Nat × Nat} (h : am_fetch cd_311 pc = some e) : tb_code 311 pc = some e := h
theorem f_312 {pc : Nat} {e : Instr × Nat × Nat} (h : am_fetch cd_312 pc = some e) : tb_code 312 pc = some e := h
theorem f_313 {pc : Nat} {e : Instr × Nat × Nat} (h : am_fetch cd_313 pc = some e) : tb_code 313 pc = some e := h
theorem f_314 {pc : Nat} {e : Instr × Nat × Nat} (h : am_fetch cd_314 pc = some e) : tb_code 314 pc = some e := h
theorem f_315 {pc : Nat} {e : Instr × Nat × Nat} (h : am_fetch cd_315 pc = some e) : tb_code 315 pc = some e := h
theorem f_316 {pc : Nat} {e : Instr × Nat × Nat} (h : am_fetch cd_316 pc = some e) : tb_code 316 pc = some e := h
theorem f_317 {pc : Nat} {e : Instr × Nat × Nat} (h : am_fetch cd_317 pc = some e) : tb_code 317 pc = some e := h
theorem f_318 {pc : Nat} {e : Instr × Nat × Nat} (h : am_fetch cd_318 pc = some e) : tb_code 318 pc = some e := h
theorem f_319 {pc : Nat} {e : Instr × Nat × Nat} (h : am_fetch cd_319 pc = some e) : tb_code 319 pc = some e := h
theorem f_320 {pc : Nat} {e : Instr × Nat × Nat} (h : am_fetch cd_320 pc = some e) : tb_code 320 pc = some e := h
theorem f_321 {pc : Nat} {e : Instr × Nat × Nat} (h : am_fetch cd_321 pc = some e) : tb_code 321 pc = some e := h
theorem f_322 {pc : Nat} {e : Instr × Nat × Nat} (h : am_fetch cd_322 pc = some e) : tb_code 322 pc = some e := h
theorem f_323 {pc : Nat} {e : Instr × Nat × Nat} (h : am_fetch cd_323 pc = some e) : tb_code 323 pc = some e := h
theorem f_324 {pc : Nat} {e : Instr × Nat × Nat} (h : am_fetch cd_324 pc = some e) : tb_code 324 pc = some e := h
theorem f_325 {pc : Nat} {e : Instr × Nat × Nat} (h : am_fetch cd_325 pc = some e) : tb_code 325 pc = some e := h
theorem f_326 {pc : Nat} {e : Instr × Nat × Nat} (h : am_fetch cd_326 pc = some e) : tb_code 326 pc = some e := h
theorem f_327 {pc : Nat} {e : Instr × Nat × Nat} (h : am_fetch cd_327 pc = some e) : tb_code 327 pc = some e := h
theorem f_328 {pc : Nat} {e : Instr × Nat × Nat} (h : am_fetch cd_328 pc = some e) : tb_code 328 pc = some e := h
theorem f_329 {pc : Nat} {e : Instr × Nat × Nat} (h : am_fetch cd_329 pc = some e) : tb_code 329 pc = some e := h
theorem f_330 {pc : Nat} {e : Instr × Nat × Nat} (h : am_fetch cd_330 pc = some e) : tb_code 330 pc = some e := h
theorem f_331 {pc : Nat} {e : Instr × Nat × Nat} (h : am_fetch cd_331 pc = some e) : tb_code 331 pc = some e := h
theorem f_332 {pc : Nat} {e : Instr × Nat × Nat} (h : am_fetch cd_332 pc = some e) : tb_code 332 pc = some e := h
theorem f_333 {pc : Nat} {e : Instr × Nat × Nat} (h : am_fetch cd_333 pc = some e) : tb_code 333 pc = some e := h
theorem f_334 {pc : Nat} {e : Instr × Nat × Nat} (h : am_fetch cd_334 pc = some e) : tb_code 334 pc = some e := h
theorem f_335 {pc : Nat} {e : Instr × Nat × Nat} (h : am_fetch cd_335 pc = some e) : tb_code 335 pc = some e := h
theorem f_336 {pc : Nat} {e : Instr × Nat × Nat} (h : am_fetch cd_336 pc = some e) : tb_code 336 pc = some e := h
theorem f_337 {pc : Nat} {e : Instr × Nat × Nat} (h : am_fetch cd_337 pc = some e) : tb_code 337 pc = some e := h
theorem f_338 {pc : Nat} {e : Instr × Nat × Nat} (h : am_fetch cd_338 pc = some e) : tb_code 338 pc = some e := h
theorem f_339 {pc : Nat} {e : Instr × Nat × Nat} (h : am_fetch cd_339 pc = some e) : tb_code 339 pc = some e := h
theorem f_340 {pc : Nat} {e : Instr × Nat × Nat} (h : am_fetch cd_340 pc = some e) : tb_code 340 pc = some e := h
end
section
/-! am_G TT: printed by wip/gen/gall.py. -/
def tb_ids : List Nat := [4, 5, 6, 7, 8, 9, 10, 11, 12, 13, 14, 15] ++ ([16, 17, 18, 19, 20, 21, 22, 23, 24, 25, 26, 27, 28, 29, 30, 31] ++ ([32, 33, 34, 35, 36, 37, 38, 39, 40, 41, 42, 43, 44, 45, 46, 47] ++ ([48, 49, 50, 51, 52, 53, 54, 55, 56, 57, 58, 59, 60, 61, 62, 63] ++ ([64, 65, 66, 67, 68, 69, 70, 71, 72, 73, 74, 75, 76, 77, 78, 79] ++ ([80, 81, 82, 83, 84, 85, 86, 87, 88, 89, 90, 91, 92, 93, 94, 95] ++ ([96, 97, 98, 99, 100, 101, 102, 103, 104, 105, 106, 107, 108, 109, 110, 111] ++ ([112, 113, 114, 115, 116, 117, 118, 119, 120, 121, 122, 123, 124, 125, 126, 127] ++ ([128, 129, 130, 131, 132, 133, 134, 135, 136, 137, 138, 139, 140, 141, 142, 143] ++ ([144, 145, 146, 147, 148, 149, 150, 151, 152, 153, 154, 155, 156, 157, 158, 159] ++ ([160, 161, 162, 163, 164, 165, 166, 167, 168, 169, 170, 171, 172, 173, 174, 175] ++ ([176, 177, 178, 179, 180, 181, 182, 183, 184, 185, 186, 187, 188, 189, 190, 191] ++ ([192, 193, 194, 195, 196, 197, 198, 199, 200, 201, 202, 203, 204, 205, 206, 207] ++ ([208, 209, 210, 211, 212, 213, 214, 215, 216, 217, 218, 219, 220, 221, 222, 223] ++ ([224, 225, 226, 227, 228, 229, 230, 231, 232, 233, 234, 235, 236, 237, 238, 239] ++ ([240, 241, 242, 243, 244, 245, 246, 247, 248, 249, 250, 251, 252, 253, 254, 255] ++ ([256, 257, 258, 259, 260, 261, 262, 263, 264, 265, 266, 267, 268, 269, 270, 271] ++ ([272, 273, 274, 275, 276, 277, 278, 279, 280, 281, 282, 283, 284, 285, 286, 287] ++ ([288, 289, 290, 291, 292, 293, 294, 295, 296, 297, 298, 299, 300, 301, 302, 303] ++ ([304, 305, 306, 307, 308, 309, 310, 311, 312, 313, 314, 315, 316, 317, 318, 319] ++ ([320, 321, 322, 323, 324, 325, 326, 327, 328, 329, 330, 331, 332, 333, 334, 335] ++ ([336, 337, 338, 339])))))))))))))))))))))
theorem tb_ids_ok : ∀ y ∈ tb_ids, am_mok TT y := List.forall_mem_append.mpr ⟨mkc_0, List.forall_mem_append.mpr ⟨mkc_1, List.forall_mem_append.mpr ⟨mkc_2, List.forall_mem_append.mpr ⟨mkc_3, List.forall_mem_append.mpr ⟨mkc_4, List.forall_mem_append.mpr ⟨mkc_5, List.forall_mem_append.mpr ⟨mkc_6, List.forall_mem_append.mpr ⟨mkc_7, List.forall_mem_append.mpr ⟨mkc_8, List.forall_mem_append.mpr ⟨mkc_9, List.forall_mem_append.mpr ⟨mkc_10, List.forall_mem_append.mpr ⟨mkc_11, List.forall_mem_append.mpr ⟨mkc_12, List.forall_mem_append.mpr ⟨mkc_13, List.forall_mem_append.mpr ⟨mkc_14, List.forall_mem_append.mpr ⟨mkc_15, List.forall_mem_append.mpr ⟨mkc_16, List.forall_mem_append.mpr ⟨mkc_17, List.forall_mem_append.mpr ⟨mkc_18, List.forall_mem_append.mpr ⟨mkc_19, List.forall_mem_append.mpr ⟨mkc_20, mkc_21⟩⟩⟩⟩⟩⟩⟩⟩⟩⟩⟩⟩⟩⟩⟩⟩⟩⟩⟩⟩⟩
theorem tb_icov : (List.range 19).all (fun own => (tb_ms.getD own []).all fun e => Nat.blt e.2 4 || tb_ids.any fun x => Nat.beq x e.2) = true := by decide +kernel
theorem tb_g7 (own k y : Nat) (h : pMth PP own k = some y) (h4 : 4 ≤ y) : am_mok TT y := by
  obtain ⟨h1, h2⟩ := tb_look (t := tb_ms) h
  have h3 := List.all_eq_true.mp (List.all_eq_true.mp tb_icov own (List.mem_range.mpr h1)) _ h2
  simp only [Bool.or_eq_true] at h3
  rcases h3 with h3 | h3
  · have : y < 4 := by simpa [Nat.blt_eq] using h3
    omega
  · obtain ⟨x, hx, hb⟩ := List.any_eq_true.mp h3
    have e := Nat.eq_of_beq_eq_true hb
    subst e
    exact tb_ids_ok _ hx
theorem tb_g8 : ∀ w ∈ lw_good, goodWord w = true := fun w h => (List.mem_filter.mp h).2
def tb_nk (r : am_Row) (i : Instr) : Bool := match i with
  | .anewarray k => (match am_look (tb_cs.getD r.2.1.1 []) k with
    | some ci => Nat.beq ci 0 || Nat.beq ci 7
    | none => true)
  | .newarray a => decide (a = .int) || decide (a = .long) || decide (a = .byte) || decide (a = .boolean)
  | _ => true
theorem tb_nkc : rcs.all (fun l => l.all fun r => r.2.2.2.2.all fun ch => ch.all fun e => tb_nk r e.2.1) = true := by decide +kernel
theorem tb_nk_of {y pc : Nat} {i : Instr} {n t : Nat} (h : tb_code y pc = some (i, n, t)) : ∃ r, am_row y = some r ∧ tb_nk r i = true := by
  obtain ⟨r, hr, ⟨l, hl, hrl⟩, -, ch, hch, he⟩ := tb_code_mem h
  exact ⟨r, hr, List.all_eq_true.mp (List.all_eq_true.mp (List.all_eq_true.mp (List.all_eq_true.mp tb_nkc l hl) r hrl) ch hch) _ he⟩
theorem tb_g9 (y pc k n t ci : Nat) (h : pCode PP y pc = some (.anewarray k, n, t)) (hc : pCls PP (iOwn (pInf PP y)) k = some ci) : pNm PP ci ∈ (["IslandCall$Boat", "IslandCall$Years"] : List String) := by
  obtain ⟨r, hr, hk⟩ := tb_nk_of h
  have e1 : iOwn (pInf PP y) = r.2.1.1 := by show (tb_inf y).1 = _; unfold tb_inf; rw [hr]
  rw [e1] at hc
  unfold tb_nk at hk
  dsimp only at hk
  rw [show am_look (tb_cs.getD r.2.1.1 []) k = some ci from hc] at hk
  simp only [Bool.or_eq_true] at hk
  rcases hk with z | z
  · rw [Nat.eq_of_beq_eq_true z]; exact List.mem_cons_self
  · rw [Nat.eq_of_beq_eq_true z]; exact List.mem_cons_of_mem _ List.mem_cons_self
theorem tb_ac_int : Cond.arrayClass .int ∈ lw_good := lw_in 159 (by decide +kernel) rfl
theorem tb_ac_long : Cond.arrayClass .long ∈ lw_good := lw_in 160 (by decide +kernel) rfl
theorem tb_ac_byte : Cond.arrayClass .byte ∈ lw_good := lw_in 415 (by decide +kernel) rfl
theorem tb_ac_boolean : Cond.arrayClass .boolean ∈ lw_good := lw_in 161 (by decide +kernel) rfl
theorem tb_na_of {y pc : Nat} {a : ArrayType} {n t : Nat} (h : pCode PP y pc = some (.newarray a, n, t)) : a = .int ∨ a = .long ∨ a = .byte ∨ a = .boolean := by
  obtain ⟨r, hr, hk⟩ := tb_nk_of h
  unfold tb_nk at hk
  dsimp only at hk
  simp only [Bool.or_eq_true, decide_eq_true_eq] at hk
  rcases hk with ((z | z) | z) | z
  · exact Or.inl z
  · exact Or.inr (Or.inl z)
  · exact Or.inr (Or.inr (Or.inl z))
  · exact Or.inr (Or.inr (Or.inr z))
theorem tb_g10 (y pc : Nat) (a : ArrayType) (n t : Nat) (h : pCode PP y pc = some (.newarray a, n, t)) : Cond.arrayClass (newarray.typeOf a) ∈ lw_good := by
  rcases tb_na_of h with rfl | rfl | rfl | rfl
  · exact tb_ac_int
  · exact tb_ac_long
  · exact tb_ac_byte
  · exact tb_ac_boolean
theorem tb_G : am_G TT := ⟨tb_g1, tb_g2, tb_g3, tb_g4, tb_g5, tb_g6, tb_g7, tb_g8, tb_g9, tb_g10⟩
theorem tb_no (ci j : Nat) : am_kd (pTy PP ci j) ≠ 3 := by
  have hall : ∀ l ∈ tb_ts, ∀ t ∈ l, am_kd t ≠ 3 := by
    have h : tb_ts.all (fun l => l.all fun t => !(Nat.beq (am_kd t) 3)) = true := by decide +kernel
    intro l hl t ht e
    have := List.all_eq_true.mp (List.all_eq_true.mp h l hl) t ht
    rw [e] at this
    cases this
  show am_kd ((tb_ts.getD ci []).getD j .int) ≠ 3
  rw [List.getD_eq_getElem?_getD, List.getD_eq_getElem?_getD]
  cases h1 : tb_ts[ci]? with
  | none => simp [am_kd]
  | some l =>
    simp only [Option.getD_some]
    cases h2 : l[j]? with
    | none => simp [am_kd]
    | some t => exact hall l (List.mem_of_getElem? h1) t (List.mem_of_getElem? h2)
theorem tb_hna (y pc : Nat) (a : ArrayType) (n t : Nat) (h : pCode PP y pc = some (.newarray a, n, t)) : am_kd (newarray.typeOf a) ≠ 3 := by
  rcases tb_na_of h with rfl | rfl | rfl | rfl <;> decide
theorem tb_h01 : ∀ y, y < 4 → iKnd (pInf PP y) = 3 := by
  intro y h
  match y, h with
  | 0, _ => rfl
  | 1, _ => rfl
  | 2, _ => rfl
  | 3, _ => rfl
end
section
/-! The world at the law's entry. -/
def R_law : String := "IslandCallLaw"
def lw_P (b : Addr) (xs : List Int32) (args : Array Value) (s : State) : Prop := args = #[.ref b] ∧ s.IntsAt b xs ∧ xs.length ≤ 3072 ∧ (Jvm.Cond.and given_1 narrow_1).before args s = true
def lw_Q (_ : Array Value) (s : State) (o : Outcome) (t : State) : Prop := o = .returned (some (.int 1)) ∧ Framed s o t [] 600000 7302250
def lw_Z (below : List Frame) (a : Array Value) (s : State) : State → Prop := fun t => ∃ o, t.status = .running ∧ Ended t below o ∧ lw_Q a s o t
/-- the law's own end, with 1 on the stack, nothing written that was there before, its room as the claim has it -/
theorem lw_ret {p : Program} {l : Launch} {e : Env} {s : State} {m : MethodId} {below : List Frame} {meth : Method} {c : Code} {b : Nat} (hx : p.tables.exec = Jvm.exec) (hb : c.code = code) (hr : meth.sig.returnType = ret) (hlocks : meth.locks = false) {pc : Nat} {H : Heap} {ls : Array Slot} (hdg : decode code pc = .ok (.ireturn, 1)) : W p l e room_1 s m #[Value.ref b] below meth c H [] 600000 7302250 (lw_Z below #[Value.ref b] s) (F0 m pc ls [.int 1]) := by
  intro T hT X
  obtain ⟨fs, hret, hrun, hended, hW, hframe⟩ := X.leave (v := some (.int 1)) (hlocks := hlocks) (fun h => by rw [hr] at h; cases h)
  have hmeth' : T.vm.method? m = some meth := X.method'
  refine ⟨T.setFrames fs, ?_, .returned (some (.int 1)), hrun, hended, rfl, ⟨_, rfl⟩, hW, hframe⟩
  jvm_step X.here [X.here.top, hx, hb, hdg, hmeth', hr, ret, narrow_b1]
  (try refine ⟨rfl, ?_⟩); (try refine ⟨rfl, ?_⟩)
  first | (intro acts; rw [hret _ acts rfl rfl rfl]) | rw [hret _ _ rfl rfl rfl]
  exact Steps.refl _
/-- what holds at the law's entry: the machine, the code, the tables' words (any of lw_tbl by 'hts w (by decide +kernel)'), the script of L ints xs at the cell b, what the Statement gives of the start (any of its parts by flat_of_before) -/
def lw_At (p : Program) (s : State) (m : MethodId) (meth : Method) (c : Code) (b L : Nat) (xs : Nat → Int32) : Prop :=
  p.tables.exec = Jvm.exec ∧ c.code = code ∧ meth.sig.returnType = ret ∧ c.maxLocals = 4 ∧ s.vm.findClass R_law = some m.cls ∧ (∀ w ∈ lw_tbl, w.before #[Value.ref b] s = true) ∧ va_X b L xs s s.heap ∧ b < s.heap.size ∧ meth.locks = false ∧ (Jvm.Cond.and given_1 narrow_1).before #[Value.ref b] s = true
abbrev lw_fl : List Cond := flatC (Jvm.Cond.and given_1 narrow_1)
def lw_tm (i : Nat) : Term := match i with
  | 0 => .string "IslandCall$Tokens" 26
  | _ => .string "IslandCallModel" 171
def lw_el (i j : Nat) : Cond := .eq (.elem (.field (lw_tm i) "java/lang/String" "value" "[B") (.int (Int32.ofNat j))) (.int ((tb_byt.getD i []).getD j 0))
theorem lw_e0 : (List.range 119).all (fun j => decide (lw_fl[35 + j]? = some (lw_el 0 j))) = true := by decide +kernel
theorem lw_e1 : (List.range 121).all (fun j => decide (lw_fl[158 + j]? = some (lw_el 1 j))) = true := by decide +kernel
theorem lw_f0 : lw_fl[31]? = some (.exactly (lw_tm 0) "java/lang/String") := by decide +kernel
theorem lw_f1 : lw_fl[154]? = some (.exactly (lw_tm 1) "java/lang/String") := by decide +kernel
theorem lw_g0 : lw_fl[32]? = some (.eq (.field (lw_tm 0) "java/lang/String" "coder" "B") (.int 0)) := by decide +kernel
theorem lw_g1 : lw_fl[155]? = some (.eq (.field (lw_tm 1) "java/lang/String" "coder" "B") (.int 0)) := by decide +kernel
theorem lw_h0 : lw_fl[33]? = some (.arrayOf (.field (lw_tm 0) "java/lang/String" "value" "[B") .byte) := by decide +kernel
theorem lw_h1 : lw_fl[156]? = some (.arrayOf (.field (lw_tm 1) "java/lang/String" "value" "[B") .byte) := by decide +kernel
theorem lw_l0 : lw_fl[34]? = some (.eq (.length (.field (lw_tm 0) "java/lang/String" "value" "[B")) (.int (Int32.ofNat 119))) := by decide +kernel
theorem lw_l1 : lw_fl[157]? = some (.eq (.length (.field (lw_tm 1) "java/lang/String" "value" "[B")) (.int (Int32.ofNat 121))) := by decide +kernel
theorem lw_n : lw_fl[279]? = some (.not (.eq (lw_tm 0) (lw_tm 1))) := by decide +kernel
theorem lw_cs : lw_fl[4]? = some (.eq (.static "java/lang/String" "COMPACT_STRINGS" "Z") (.int 1)) := by decide +kernel
theorem lw_fm : lw_fl[5]? = some (.isRef (.static "jdk/internal/util/Preconditions" "SIOOBE_FORMATTER" "Ljava/util/function/BiFunction;")) := by decide +kernel
theorem lw_arrT {s : State} {cA comp : ClassId} {kA : Class} {ty : FieldType} (h1 : s.vm.classes[cA]? = some kA) (h2 : kA.kind = .array comp ty) : ArrOfT s cA ty := fun n z => ⟨fun k h => (by cases h), kA, h1, comp, h2⟩
def lw_xE (L : Nat) (xs : Nat → Int32) : am_E := ((L, xs), 2, fun i => tb_len.getD i 0, fun i j => (tb_byt.getD i []).getD j 0)
def lw_tys : List FieldType := [.int, .long, .byte, .boolean, .object "IslandCall$Boat", .object "IslandCall$Years", .array .long]
def lw_isac (w : Cond) : Bool := match w with
  | .arrayClass ty => decide (ty = .int) || (decide (ty = .long) || (decide (ty = .byte) || decide (ty = .boolean)))
  | _ => true
theorem lw_acs : ∀ w ∈ lw_tbl, lw_isac w = true := by
  have h : lw_tbl.all lw_isac = true := by decide +kernel
  exact fun w hw => List.all_eq_true.mp h w hw
theorem lw_strs (own k n : Nat) (h : pCst PP own k = some (.retAddr n)) : (own = 5 ∧ k = 26 ∧ n = 2) ∨ (own = 10 ∧ k = 171 ∧ n = 4) := by
  obtain ⟨h1, h2⟩ := tb_look (t := tb_ks) h
  have hall : (List.range 19).all (fun own => (tb_ks.getD own []).all fun e => match e.2 with
      | .retAddr n => (Nat.beq own 5 && Nat.beq e.1 26 && Nat.beq n 2) || (Nat.beq own 10 && Nat.beq e.1 171 && Nat.beq n 4)
      | _ => true) = true := by decide +kernel
  have h3 := List.all_eq_true.mp (List.all_eq_true.mp hall own (List.mem_range.mpr h1)) _ h2
  simp only [Bool.or_eq_true, Bool.and_eq_true] at h3
  rcases h3 with ⟨⟨a, b⟩, c⟩ | ⟨⟨a, b⟩, c⟩
  · exact Or.inl ⟨Nat.eq_of_beq_eq_true a, Nat.eq_of_beq_eq_true b, Nat.eq_of_beq_eq_true c⟩
  · exact Or.inr ⟨Nat.eq_of_beq_eq_true a, Nat.eq_of_beq_eq_true b, Nat.eq_of_beq_eq_true c⟩
theorem lw_nest : ∀ w ∈ tb_nest, Cond.methodLinkNest w.1 w.2.1 w.2.2.1 w.2.2.2 ∈ lw_tbl := List.forall_mem_cons.mpr ⟨List.mem_append_right _ (List.mem_of_getElem? (i := 29) (by decide +kernel)), List.forall_mem_cons.mpr ⟨List.mem_append_right _ (List.mem_of_getElem? (i := 53) (by decide +kernel)), List.forall_mem_cons.mpr ⟨List.mem_append_right _ (List.mem_of_getElem? (i := 155) (by decide +kernel)), List.forall_mem_cons.mpr ⟨List.mem_append_right _ (List.mem_of_getElem? (i := 345) (by decide +kernel)), fun _ h => absurd h List.not_mem_nil⟩⟩⟩⟩
set_option maxHeartbeats 4000000 in
theorem lw_world {p : Program} {s : State} {m : MethodId} {meth : Method} {c : Code} {b L : Nat} {xs : Nat → Int32} (C0 : lw_At p s m meth c b L xs) :
    ∃ X : am_X, xB X = s.heap.size ∧ xE X = lw_xE L xs ∧ xb X = b ∧ am_Xok X TT ∧ am_Wd X TT s s.heap ∧ (∃ cA comp k, xA X (.array .long) = some cA ∧ s.vm.findClass (FieldType.array .long).toString = some comp ∧ s.vm.classes[cA]? = some k ∧ k.kind = .array comp (.array .long)) := by
  obtain ⟨hx, hb, hr, hml, hown, hts, hX, hbl, hlocks, hgv⟩ := C0
  have hfl : ∀ (i : Nat) (w : Cond), lw_fl[i]? = some w → w.before #[Value.ref b] s = true := fun i w h => flat_of_before _ hgv w (List.mem_of_getElem? h)
  have hgd : ∀ w ∈ lw_good, w.before #[Value.ref b] s = true := fun w h => hts w (List.mem_filter.mp h).1
  -- classes
  have hD : ∀ k : Nat, ∃ r : ClassId × (Nat → Nat), ∀ q : vw_C, tb_cl[k]? = some q → u_Kn s q.1 q.2.1 q.2.2 r.1 r.2 := by
    intro k
    cases hk : tb_cl[k]? with
    | none => exact ⟨(0, fun _ => 0), fun q h => by cases h⟩
    | some q =>
      obtain ⟨C, F, N⟩ := q
      obtain ⟨-, -, g3, -, -, g6, -⟩ := tb_g3 k C F N hk
      obtain ⟨cC, iS, h⟩ := u_known (C := C) (T := F) (N := N) hgd g3 (hgd _ g6)
      exact ⟨(cC, iS), fun q hq => by cases hq; exact h⟩
  obtain ⟨D, hD⟩ := Classical.axiomOfChoice hD
  -- arrays
  have hprim : ∀ ty, Cond.arrayClass ty ∈ lw_good → ∃ cA k comp, s.vm.findClass ("[" ++ ty.toString) = some cA ∧ s.vm.classes[cA]? = some k ∧ k.kind = .array comp ty := fun ty h => Cond.arrayClass_spec (hgd _ h)
  obtain ⟨cI, kI, pI, i1, i2, i3⟩ := hprim .int tb_ac_int
  obtain ⟨cJ, kJ, pJ, j1, j2, j3⟩ := hprim .long tb_ac_long
  obtain ⟨cB, kB, pB, b1, b2, b3⟩ := hprim .byte tb_ac_byte
  obtain ⟨cZ, kZ, pZ, z1, z2, z3⟩ := hprim .boolean tb_ac_boolean
  have ov1 : (Cond.arrayOver (.object "IslandCall$Boat")).before #[Value.ref b] s = true := hts _ (List.mem_append_right _ (List.mem_of_getElem? (i := 204) (by decide +kernel)))
  have ov2 : (Cond.arrayOver (.object "IslandCall$Years")).before #[Value.ref b] s = true := hts _ (List.mem_append_right _ (List.mem_of_getElem? (i := 205) (by decide +kernel)))
  have ov3 : (Cond.arrayOver (.array .long)).before #[Value.ref b] s = true := hts _ (List.mem_append_right _ (List.mem_of_getElem? (i := 34) (by decide +kernel)))
  obtain ⟨p1, c1, k1, o1, -, o2, o3, o4⟩ := Cond.arrayOver_spec ov1
  obtain ⟨p2, c2, k2, u1, -, u2, u3, u4⟩ := Cond.arrayOver_spec ov2
  obtain ⟨p3, c3, k3, w1, -, w2, w3, w4⟩ := arrayOverA_spec ov3
  -- texts
  have hA : ∀ a : Nat, a < s.heap.size → ¬ (fun q => s.heap.size ≤ q) a := fun a h => Nat.not_le.mpr h
  obtain ⟨adK, adV, hS, hK⟩ := vk_Sof (args := #[Value.ref b]) (s := s) (N := 2) (tm := lw_tm) (len := tb_len) (byt := tb_byt) (A := fun q => s.heap.size ≤ q)
    (fun i hi => by rcases (show i = 0 ∨ i = 1 by omega) with rfl | rfl <;> decide)
    (fun i hi => by rcases (show i = 0 ∨ i = 1 by omega) with rfl | rfl; exact hfl _ _ lw_f0; exact hfl _ _ lw_f1)
    (fun i hi => by rcases (show i = 0 ∨ i = 1 by omega) with rfl | rfl; exact hfl _ _ lw_g0; exact hfl _ _ lw_g1)
    (fun i hi => by rcases (show i = 0 ∨ i = 1 by omega) with rfl | rfl; exact hfl _ _ lw_h0; exact hfl _ _ lw_h1)
    (fun i hi => by rcases (show i = 0 ∨ i = 1 by omega) with rfl | rfl; exact hfl _ _ lw_l0; exact hfl _ _ lw_l1)
    (fun i hi j hj => by
      rcases (show i = 0 ∨ i = 1 by omega) with rfl | rfl
      · exact hfl _ _ (of_decide_eq_true (List.all_eq_true.mp lw_e0 j (List.mem_range.mpr hj)))
      · exact hfl _ _ (of_decide_eq_true (List.all_eq_true.mp lw_e1 j (List.mem_range.mpr hj))))
    (fun i j hi hj hne => by
      rcases (show i = 0 ∨ i = 1 by omega) with rfl | rfl <;> rcases (show j = 0 ∨ j = 1 by omega) with rfl | rfl
      · exact absurd rfl hne
      · exact Or.inl (hfl _ _ lw_n)
      · exact Or.inr (hfl _ _ lw_n)
      · exact absurd rfl hne) hA
  -- statics
  have ls1 : (Cond.laysStatic "java/lang/String" "COMPACT_STRINGS" "Z").before #[Value.ref b] s = true := hts _ (List.mem_append_right _ (List.mem_of_getElem? (i := 222) (by decide +kernel)))
  have ls2 : (Cond.laysStatic "jdk/internal/util/Preconditions" "SIOOBE_FORMATTER" "Ljava/util/function/BiFunction;").before #[Value.ref b] s = true := hts _ (List.mem_append_right _ (List.mem_of_getElem? (i := 238) (by decide +kernel)))
  have hin1 : (Cond.initialized "java/lang/String").before #[Value.ref b] s = true := hts _ (List.mem_append_right _ (List.mem_of_getElem? (i := 7) (by decide +kernel)))
  have hin2 : (Cond.initialized "jdk/internal/util/Preconditions").before #[Value.ref b] s = true := hts _ (List.mem_append_right _ (List.mem_of_getElem? (i := 9) (by decide +kernel)))
  have hz1 := va_Zof ls1 hin1 (va_eqi (hfl _ _ lw_cs)) hA
  have hz2 : ∃ fv : Value, (fv = .null ∨ ∃ a, fv = .ref a) ∧ va_Z "jdk/internal/util/Preconditions" "SIOOBE_FORMATTER" "Ljava/util/function/BiFunction;" fv (fun q => s.heap.size ≤ q) s s.heap := by
    rcases va_Zqof ls2 hin2 (hfl _ _ lw_fm) hA with h | ⟨t, h⟩
    · exact ⟨_, Or.inl rfl, h⟩
    · exact ⟨_, Or.inr ⟨t, rfl⟩, h⟩
  obtain ⟨fv, hfv, hz2⟩ := hz2
  -- the names
  let aC : FieldType → Option ClassId := fun ty => if ty = .int then some cI else if ty = .long then some cJ else if ty = .byte then some cB else if ty = .boolean then some cZ else if ty = .object "IslandCall$Boat" then some c1 else if ty = .object "IslandCall$Years" then some c2 else if ty = .array .long then some c3 else none
  let tv : Nat → Value := fun n => if n = 0 then .ref b else if n = 1 then fv else if n % 2 = 0 then .ref (adK ((n - 2) / 2)) else .ref (adV ((n - 3) / 2))
  refine ⟨(s.heap.size, (fun k => (D k).1, fun k => (D k).2), aC, tv, adK, adV, b, lw_xE L xs), rfl, rfl, rfl, ?_, ?_, ?_⟩
  · refine ⟨fun n => ?_, rfl, hbl, fun i hi => ⟨?_, ?_, rfl, fun j => rfl⟩, fun ty h => ?_, fun C hC => ?_⟩
    · show tv n = .null ∨ ∃ a, tv n = .ref a
      simp only [tv]
      split
      · exact Or.inr ⟨_, rfl⟩
      · split
        · exact hfv
        · split <;> exact Or.inr ⟨_, rfl⟩
    · show tv (2 * i + 2) = .ref (adK i)
      simp only [tv]
      rw [if_neg (by omega), if_neg (by omega), if_pos (by omega), show (2 * i + 2 - 2) / 2 = i by omega]
    · show tv (2 * i + 3) = .ref (adV i)
      simp only [tv]
      rw [if_neg (by omega), if_neg (by omega), if_neg (by omega), show (2 * i + 3 - 3) / 2 = i by omega]
    · have hty : ty = .int ∨ ty = .long ∨ ty = .byte ∨ ty = .boolean := by
        have hm := (List.mem_filter.mp h).1
        have hall : ∀ w ∈ lw_tbl, lw_isac w = true := lw_acs
        have := hall _ hm
        unfold lw_isac at this
        simpa [or_assoc] using this
      rcases hty with rfl | rfl | rfl | rfl
      · exact ⟨cI, rfl⟩
      · exact ⟨cJ, rfl⟩
      · exact ⟨cB, rfl⟩
      · exact ⟨cZ, rfl⟩
    · have hC' : C = "IslandCall$Boat" ∨ C = "IslandCall$Years" := by
        rcases List.mem_cons.mp hC with h | h
        · exact Or.inl h
        · rcases List.mem_cons.mp h with h | h
          · exact Or.inr h
          · cases h
      rcases hC' with rfl | rfl
      · exact ⟨c1, by show aC (.object "IslandCall$Boat") = some c1; simp [aC]⟩
      · exact ⟨c2, by show aC (.object "IslandCall$Years") = some c2; simp [aC]⟩
  · refine ⟨fun k q hq => hD k q hq, fun ty cA h => ?_, fun own k n h => ?_, hS, hz1, hz2, hX, fun C hC => ?_, fun w hw => ?_⟩
    · have h' : aC ty = some cA := h
      simp only [aC] at h'
      split at h'
      · next e => subst e; cases h'; exact ⟨lw_arrT i2 i3, i1⟩
      split at h'
      · next e => subst e; cases h'; exact ⟨lw_arrT j2 j3, j1⟩
      split at h'
      · next e => subst e; cases h'; exact ⟨lw_arrT b2 b3, b1⟩
      split at h'
      · next e => subst e; cases h'; exact ⟨lw_arrT z2 z3, z1⟩
      split at h'
      · next e => subst e; cases h'; exact ⟨lw_arrT o2 o3, k1, p1, o2, o3, o1, o4⟩
      split at h'
      · next e => subst e; cases h'; exact ⟨lw_arrT u2 u3, k2, p2, u2, u3, u1, u4⟩
      split at h'
      · next e => subst e; cases h'; exact ⟨lw_arrT w2 w3, w4⟩
      · cases h'
    · have hk := lw_strs own k n h
      rcases hk with ⟨rfl, rfl, rfl⟩ | ⟨rfl, rfl, rfl⟩
      · exact ⟨"plank habit odds sign pulls shown person holds out against blind call show hide board sway any when shows loop end stop", adK 0, vk_R.of (A := #[Value.ref b]) (hts _ (List.mem_append_right _ (List.mem_of_getElem? (i := 212) (by decide +kernel)))) (hK 0 (by omega)), rfl⟩
      · exact ⟨" plank habit odds sign person blind pulls shown holds out against call show hide board sway any when loop end stop shows ", adK 1, vk_R.of (A := #[Value.ref b]) (hts _ (List.mem_append_right _ (List.mem_of_getElem? (i := 1387) (by decide +kernel)))) (hK 1 (by omega)), rfl⟩
    · rcases List.mem_cons.mp hC with h | h
      · subst h; exact va_AO.of ov1
      · rcases List.mem_cons.mp h with h | h
        · subst h; exact va_AO.of ov2
        · cases h
    · exact va_Nw.of rfl (hts _ (lw_nest w hw))
  · exact ⟨c3, p3, k3, by show aC (.array .long) = some c3; simp [aC], w1, w2, w3⟩
end
section
/-! The law's walk out of its meaning in the small machine. -/
def lw_id : Nat := 340
def am_M0 : am_M := (([], fun _ _ => none), fun _ _ => 0, fun _ _ => 0)
/-- what is left to show: the law's meaning from its entry, for every script -/
def lw_goal : Prop := ∀ (L : Nat) (xs : Nat → Int32), L ≤ 3072 → am_wp PP (lw_xE L xs) lw_id (600000, 7302250) (am_call PP (lw_xE L xs) 14) (fun r _ => r = some (.int 1)) 0 [.retAddr 0, am_mk, am_mk, am_mk] [] am_M0
set_option maxHeartbeats 4000000 in
theorem lw_start (hg : lw_goal) (hMul : ∀ (X : am_X) (l : Launch), am_Xok X TT → am_mul X TT l) {p : Program} {e : Env} {s : State} {m : MethodId} {below : List Frame} {meth : Method} {c : Code} (l : Launch) {b L : Nat} {xs : Nat → Int32} (hL : L ≤ 3072) (C0 : lw_At p s m meth c b L xs) : W p l e room_1 s m #[Value.ref b] below meth c s.heap [] 0 0 (lw_Z below #[Value.ref b] s) (entryFrame m ([Value.ref b] : List Value).toArray 4) := by
  obtain ⟨X, eB, eE, eb, hXok, hWd, -⟩ := lw_world C0
  obtain ⟨hx, hb, hr, hml, hown, hts, hX, hbl, hlocks, hgv⟩ := C0
  have hcx : am_Cx X TT p s m #[Value.ref b] meth c lw_id := ⟨hx, hb, hown, fun w h => hts w (List.mem_filter.mp h).1, hlocks, (fun h => absurd (show (0 : Nat) = 2 from h) (by decide)), hWd, hr⟩
  have hw := hg L xs hL
  rw [← eE] at hw
  have hv0 : xcv X (.retAddr 0) = .ref b := by show xV X 0 = _; rw [hXok.2.1, eb]
  have hLH := am_LH.ent (base := xB X) (tv := xV X) (as := [.retAddr 0]) (n := 4) hXok.1 rfl (by decide)
  have e1 : ([.retAddr 0] : List Value).map (am_cv (xB X) (xV X)) = [.ref b] := by show [xcv X (.retAddr 0)] = _; rw [hv0]
  rw [e1] at hLH
  rw [lg_entry_eq]
  refine am_sound (X := X) (T := TT) (y := lw_id) (n0 := 0) (z0 := 0) (lim := (600000, 7302250)) (C := am_call PP (xE X) 14) (K := fun r _ => r = some (.int 1)) (R := room_1) (d := 14) tb_h01 tb_G hXok hcx (Nat.le_refl _) (Nat.le_refl _) tb_no tb_hna (by decide) (by decide) (fun y as M K hm hc => am_sound_call tb_h01 tb_G hXok tb_no tb_hna (hMul X l hXok) 14 y as M K hm hc) (fun i hi => ?_) (fun k j => hMul X l hXok _ _ _ _ _ _ _ _ _ _ _ _ _ _ _ _ _ _ hcx (Nat.le_refl _) (Nat.le_refl _)) hw s.heap _ [] 0 0 ?_ va_S.rf hLH ?_ rfl rfl (by decide) (by decide)
  · intro pc L' st M n t hc h H ls locs cells slots hR hS hL' hN h1 h2 h3 h4
    obtain ⟨hd, -⟩ := tb_G.1 lw_id pc i n t hc
    cases i <;> first | exact absurd (show false = true from hi) (by decide) | skip
    · unfold am_step at h
      dsimp only at h
      rw [show iRet (pInf (tP TT) lw_id) = some FieldType.boolean from rfl] at h
      split at h
      · next ty x =>
        obtain ⟨-, h5⟩ := h
        cases h5
        refine va_forget (fun q hq => by have := hS.2.2 q hq; rw [← eB]; exact this) ?_
        refine W.widen (k := 600000) (n := 7302250) (by simp at h3; omega) (by simp at h4; omega) ?_
        exact lw_ret hx hb hr hlocks hd
      · exact h.elim
    · unfold am_step at h
      dsimp only at h
      rw [show iRet (pInf (tP TT) lw_id) = some FieldType.boolean from rfl] at h
      split at h
      · next e9 => cases e9
      · exact h.elim
    · unfold am_step at h
      dsimp only at h
      rw [show iRet (pInf (tP TT) lw_id) = some FieldType.boolean from rfl] at h
      split at h
      · next e9 => cases e9
      · exact h.elim
  · refine ⟨by rw [eB]; rfl, (fun k q hk => by cases hk), fun k _ j => ⟨rfl, rfl, rfl⟩⟩
  · rw [hml]; rfl
end
section
/-! Numbers: ints as nI of a natural number, sets as natural numbers by their bits. -/
def nM : Int32 := -1
theorem ni_lit (n : Nat) : (OfNat.ofNat n : Int32) = nI n := rfl
theorem ni_m1 : (-1 : Int32) = nM := rfl
theorem ni_lt {a b : Nat} (ha : a < 2147483648) (hb : b < 2147483648) : nI a < nI b ↔ a < b := nI_ltI ha hb
theorem ni_le {a b : Nat} (ha : a < 2147483648) (hb : b < 2147483648) : nI a ≤ nI b ↔ a ≤ b := nI_leI ha hb
theorem ni_eq {a b : Nat} (ha : a < 2147483648) (hb : b < 2147483648) : nI a = nI b ↔ a = b := nI_eq ha hb
theorem ni_sub {a b : Nat} (h : b ≤ a) : nI a - nI b = nI (a - b) := by
  have : nI a = nI (a - b) + nI b := by rw [nI_add, Nat.sub_add_cancel h]
  rw [this, Int32.add_sub_cancel]
theorem ni_mul (a b : Nat) : nI a * nI b = nI (a * b) := (Int32.ofNat_mul a b).symm
theorem ni_cl {a : Nat} (h : a < 2147483648) : Int32.toNatClampNeg (nI a) = a := nI_clamp h
theorem ni_in {a N : Nat} (h : a < 2147483648) : vp_in (nI a) N ↔ a < N := by
  unfold vp_in
  rw [ni_cl h, ← nI_0, ni_lt h (by omega)]
  omega
theorem ni_and (a b : Nat) : nI a &&& nI b = nI (a &&& b) := by
  apply Int32.toBitVec_inj.1
  show BitVec.ofNat 32 a &&& BitVec.ofNat 32 b = BitVec.ofNat 32 (a &&& b)
  apply BitVec.eq_of_getLsbD_eq
  intro i hi
  simp [hi]
theorem ni_or (a b : Nat) : nI a ||| nI b = nI (a ||| b) := by
  apply Int32.toBitVec_inj.1
  show BitVec.ofNat 32 a ||| BitVec.ofNat 32 b = BitVec.ofNat 32 (a ||| b)
  apply BitVec.eq_of_getLsbD_eq
  intro i hi
  simp [hi]
theorem ni_xor (a b : Nat) : nI a ^^^ nI b = nI (a ^^^ b) := by
  apply Int32.toBitVec_inj.1
  show BitVec.ofNat 32 a ^^^ BitVec.ofNat 32 b = BitVec.ofNat 32 (a ^^^ b)
  apply BitVec.eq_of_getLsbD_eq
  intro i hi
  simp [hi]
/-- a without b -/
def ndif (a b : Nat) : Nat := a ^^^ (a &&& b)
theorem tb_dif (a b i : Nat) : (ndif a b).testBit i = (a.testBit i && !b.testBit i) := by
  unfold ndif
  rw [Nat.testBit_xor, Nat.testBit_and]
  cases a.testBit i <;> cases b.testBit i <;> rfl
theorem ni_dif (a b : Nat) : nI a &&& (nI b ^^^ nM) = nI (ndif a b) := by
  apply Int32.toBitVec_inj.1
  show BitVec.ofNat 32 a &&& (BitVec.ofNat 32 b ^^^ BitVec.allOnes 32) = BitVec.ofNat 32 (ndif a b)
  apply BitVec.eq_of_getLsbD_eq
  intro i hi
  rw [BitVec.getLsbD_and, BitVec.getLsbD_xor, BitVec.getLsbD_allOnes, BitVec.getLsbD_ofNat, BitVec.getLsbD_ofNat, BitVec.getLsbD_ofNat, tb_dif]
  simp [hi]
/-- a shift's count -/
def ms (x : Int32) : Int32 := x &&& nI 31
theorem ni_sh31 {k : Nat} (h : k < 32) : ((nI k &&& nI 31).toBitVec.smod 32).toNat = k :=
  (show ∀ k, k < 32 → ((nI k &&& nI 31).toBitVec.smod 32).toNat = k by decide +kernel) k h
theorem ni_shl {a k : Nat} (hk : k < 32) : nI a <<< ms (nI k) = nI (a <<< k) := by
  unfold ms
  apply Int32.toBitVec_inj.1
  rw [Int32.toBitVec_shiftLeft]
  show BitVec.ofNat 32 a <<< ((nI k &&& nI 31).toBitVec.smod 32) = BitVec.ofNat 32 (a <<< k)
  rw [BitVec.shiftLeft_eq', ni_sh31 hk]
  apply BitVec.eq_of_getLsbD_eq
  intro i hi
  rw [BitVec.getLsbD_shiftLeft, BitVec.getLsbD_ofNat, BitVec.getLsbD_ofNat, Nat.testBit_shiftLeft]
  by_cases h : k ≤ i
  · have : i - k < 32 := by omega
    simp [h, this, hi]
  · simp [h, hi, show i < k by omega]
theorem ni_shr {a k : Nat} (ha : a < 2147483648) (hk : k < 32) : nI a >>> ms (nI k) = nI (a >>> k) := by
  unfold ms
  apply Int32.toBitVec_inj.1
  rw [Int32.toBitVec_shiftRight]
  show (BitVec.ofNat 32 a).sshiftRight' ((nI k &&& nI 31).toBitVec.smod 32) = BitVec.ofNat 32 (a >>> k)
  rw [BitVec.sshiftRight_eq', ni_sh31 hk]
  apply BitVec.eq_of_getLsbD_eq
  intro i hi
  have hm : (BitVec.ofNat 32 a).msb = false := by
    rw [BitVec.msb_eq_false_iff_two_mul_lt]
    simp
    omega
  rw [BitVec.getLsbD_sshiftRight, hm, BitVec.getLsbD_ofNat, BitVec.getLsbD_ofNat, Nat.testBit_shiftRight]
  by_cases h : k + i < 32
  · simp [h, hi, show ¬ 32 ≤ i by omega]
  · have : a < 2 ^ (k + i) := Nat.lt_of_lt_of_le (show a < 2 ^ 31 by omega) (Nat.pow_le_pow_right (by omega) (by omega))
    simp [h, Nat.testBit_lt_two_pow this]
def b01 (b : Bool) : Nat := if b then 1 else 0
theorem ni_bit {a k : Nat} (ha : a < 2147483648) (hk : k < 32) : (nI a >>> ms (nI k)) &&& nI 1 = nI (b01 (a.testBit k)) := by
  rw [ni_shr ha hk, ni_and]
  congr 1
  unfold b01
  rw [Nat.testBit_eq_decide_div_mod_eq, Nat.shiftRight_eq_div_pow, Nat.and_one_is_mod]
  have := Nat.mod_two_eq_zero_or_one (a / 2 ^ k)
  rcases this with h | h <;> simp [h]
theorem b01_lt (b : Bool) : b01 b < 2 := by cases b <;> decide
theorem b01_0 (b : Bool) : b01 b = 0 ↔ b = false := by cases b <;> decide
theorem b01_1 (b : Bool) : b01 b = 1 ↔ b = true := by cases b <;> decide
theorem ni_b0 (b : Bool) : nI (b01 b) = nI 0 ↔ b = false := by cases b <;> decide
theorem ni_b1 (b : Bool) : nI (b01 b) = nI 1 ↔ b = true := by cases b <;> decide
theorem ni_nM {a : Nat} (h : a < 2147483648) : (nI a = nM) ↔ False := by
  constructor
  · intro q
    have : (nI a).toInt = (nM).toInt := by rw [q]
    rw [nI_toInt h] at this
    have e : nM.toInt = -1 := by decide
    omega
  · exact False.elim
theorem nM_ni {a : Nat} (h : a < 2147483648) : (nM = nI a) ↔ False := by
  rw [← ni_nM h]; exact eq_comm
theorem nM_lt {a : Nat} (h : a < 2147483648) : (nM < nI a) ↔ True := by
  rw [Int32.lt_iff_toInt_lt, nI_toInt h, show nM.toInt = -1 by decide]
  exact ⟨fun _ => trivial, fun _ => by omega⟩
theorem lt_nM {a : Nat} (h : a < 2147483648) : (nI a < nM) ↔ False := by
  rw [Int32.lt_iff_toInt_lt, nI_toInt h, show nM.toInt = -1 by decide]
  exact ⟨fun _ => by omega, False.elim⟩
theorem nM_le {a : Nat} (h : a < 2147483648) : (nM ≤ nI a) ↔ True := by
  rw [Int32.le_iff_toInt_le, nI_toInt h, show nM.toInt = -1 by decide]
  exact ⟨fun _ => trivial, fun _ => by omega⟩
theorem le_nM {a : Nat} (h : a < 2147483648) : (nI a ≤ nM) ↔ False := by
  rw [Int32.le_iff_toInt_le, nI_toInt h, show nM.toInt = -1 by decide]
  exact ⟨fun _ => by omega, False.elim⟩
theorem nM_1 : nM + nI 1 = nI 0 := by decide
/-- in range, or not -/
theorem ni_rng (x : Int32) {n : Nat} (hn : n < 2147483648) : (∃ p, p < n ∧ x = nI p) ∨ (x < nI 0 ∨ (¬ x < nI 0 ∧ nI n ≤ x)) := by
  by_cases h : x < nI 0
  · exact Or.inr (Or.inl h)
  · obtain ⟨j, hj, rfl⟩ := nI_of h
    by_cases h2 : j < n
    · exact Or.inl ⟨j, h2, rfl⟩
    · exact Or.inr (Or.inr ⟨h, (ni_le hn hj).mpr (by omega)⟩)
theorem ni_lt0 {a : Nat} (ha : a < 2147483648) : nI a < nI 0 ↔ False := by rw [ni_lt ha (by omega)]; exact ⟨fun q => by omega, False.elim⟩
theorem ni_pos0 {x : Int32} (h : ¬ x < nI 0) : ∃ j, j < 2147483648 ∧ x = nI j := nI_of h
/-- sums and sets by a count -/
def nsum (f : Nat → Nat) : Nat → Nat
  | 0 => 0
  | n + 1 => nsum f n + f n
def bset (f : Nat → Bool) : Nat → Nat
  | 0 => 0
  | n + 1 => if f n then bset f n ||| 1 <<< n else bset f n
theorem nsum_cong {f g : Nat → Nat} : ∀ {n : Nat}, (∀ k, k < n → f k = g k) → nsum f n = nsum g n
  | 0, _ => rfl
  | n + 1, h => by unfold nsum; rw [nsum_cong (fun k hk => h k (by omega)), h n (by omega)]
theorem nsum_le {f g : Nat → Nat} : ∀ {n : Nat}, (∀ k, k < n → f k ≤ g k) → nsum f n ≤ nsum g n
  | 0, _ => Nat.le_refl _
  | n + 1, h => by
    unfold nsum
    have h1 := nsum_le (fun k hk => h k (by omega : k < n + 1)) (n := n)
    have h2 := h n (by omega)
    omega
theorem nsum_lt {f g : Nat → Nat} : ∀ {n : Nat}, (∀ k, k < n → f k ≤ g k) → (∃ k, k < n ∧ f k < g k) → nsum f n < nsum g n
  | 0, _, ⟨k, h, _⟩ => absurd h (Nat.not_lt_zero _)
  | n + 1, h, ⟨k, hk, hl⟩ => by
    unfold nsum
    have h1 := nsum_le (fun k hk => h k (by omega : k < n + 1)) (n := n)
    have h2 := h n (by omega)
    rcases Nat.lt_or_ge k n with z | z
    · have := nsum_lt (fun k hk => h k (by omega : k < n + 1)) ⟨k, z, hl⟩
      omega
    · have : k = n := by omega
      subst this
      omega
theorem nsum_bd {f : Nat → Nat} {B : Nat} : ∀ {n : Nat}, (∀ k, k < n → f k ≤ B) → nsum f n ≤ n * B
  | 0, _ => by simp [nsum]
  | n + 1, h => by
    unfold nsum
    have h1 := nsum_bd (fun k hk => h k (by omega : k < n + 1)) (n := n)
    have h2 := h n (by omega)
    rw [Nat.succ_mul]
    omega
theorem tb_1shl (n i : Nat) : (1 <<< n).testBit i = decide (i = n) := by
  rw [Nat.one_shiftLeft, Nat.testBit_two_pow]
  by_cases h : n = i <;> simp [h, eq_comm]
theorem tb_bset (f : Nat → Bool) (i : Nat) : ∀ n, (bset f n).testBit i = (decide (i < n) && f i)
  | 0 => by simp [bset]
  | n + 1 => by
    unfold bset
    by_cases h : f n
    · rw [if_pos h, Nat.testBit_or, tb_bset f i n, tb_1shl]
      by_cases e : i = n
      · subst e; simp [h]
      · have : decide (i < n + 1) = decide (i < n) := by
          apply decide_eq_decide.mpr; omega
        simp [e, this]
    · rw [if_neg h, tb_bset f i n]
      by_cases e : i = n
      · subst e; simp [h]
      · have : decide (i < n + 1) = decide (i < n) := by
          apply decide_eq_decide.mpr; omega
        simp [this]
theorem bset_lt (f : Nat → Bool) (n : Nat) : bset f n < 2 ^ n := by
  apply Nat.lt_pow_two_of_testBit
  intro i hi
  rw [tb_bset, show decide (i < n) = false from decide_eq_false (by omega)]
  rfl
theorem bset_cong {f g : Nat → Bool} {n : Nat} (h : ∀ k, k < n → f k = g k) : bset f n = bset g n := by
  apply Nat.eq_of_testBit_eq
  intro i
  rw [tb_bset, tb_bset]
  by_cases e : i < n
  · rw [h i e]
  · simp [e]
theorem bset_of {s n : Nat} (h : s < 2 ^ n) : bset s.testBit n = s := by
  apply Nat.eq_of_testBit_eq
  intro i
  rw [tb_bset]
  by_cases e : i < n
  · simp [e]
  · have : s < 2 ^ i := Nat.lt_of_lt_of_le h (Nat.pow_le_pow_right (by omega) (by omega))
    simp [e, Nat.testBit_lt_two_pow this]
theorem tb_hi {s n i : Nat} (h : s < 2 ^ n) (hi : n ≤ i) : s.testBit i = false :=
  Nat.testBit_lt_two_pow (Nat.lt_of_lt_of_le h (Nat.pow_le_pow_right (by omega) hi))
/-- how many bits, of the first ten -/
def pc (s : Nat) : Nat := nsum (fun i => b01 (s.testBit i)) 10
theorem pc_le (s : Nat) : pc s ≤ 10 := by
  have := nsum_bd (f := fun i => b01 (s.testBit i)) (B := 1) (n := 10) (fun k _ => by have := b01_lt (s.testBit k); omega)
  exact this
theorem pc_cnt {s n : Nat} (h : s < 2 ^ n) (hn : n ≤ 10) : pc s = nsum (fun i => b01 (s.testBit i)) n := by
  unfold pc
  have : ∀ m, n ≤ m → nsum (fun i => b01 (s.testBit i)) m = nsum (fun i => b01 (s.testBit i)) n := by
    intro m hm
    induction m with
    | zero => have : n = 0 := by omega
              subst this; rfl
    | succ m ih =>
      rcases Nat.lt_or_ge m n with z | z
      · have : n = m + 1 := by omega
        rw [this]
      · show nsum _ m + b01 (s.testBit m) = _
        rw [ih z, tb_hi h z]
        rfl
  exact this 10 hn
theorem pc_bset (f : Nat → Bool) {n : Nat} (hn : n ≤ 10) : pc (bset f n) = nsum (fun i => b01 (f i)) n := by
  rw [pc_cnt (bset_lt f n) hn]
  apply nsum_cong
  intro k hk
  rw [tb_bset]
  simp [hk]
theorem pc_sub {s t : Nat} (h : ∀ i, s.testBit i = true → t.testBit i = true) : pc s ≤ pc t := by
  apply nsum_le
  intro k _
  have := h k
  cases h1 : s.testBit k
  · exact Nat.zero_le _
  · rw [this h1]; exact Nat.le_refl _
theorem pc_ssub {s t : Nat} (h : ∀ i, s.testBit i = true → t.testBit i = true) (hs : s < 1024) (ht : t < 1024) (hn : ¬ s = t) : pc s < pc t := by
  apply nsum_lt
  · intro k _
    have := h k
    cases h1 : s.testBit k
    · exact Nat.zero_le _
    · rw [this h1]; exact Nat.le_refl _
  · apply Classical.byContradiction
    intro q
    apply hn
    apply Nat.eq_of_testBit_eq
    intro i
    rcases Nat.lt_or_ge i 10 with z | z
    · cases h1 : s.testBit i <;> cases h2 : t.testBit i <;> try rfl
      · exact absurd ⟨i, z, by rw [h1, h2]; decide⟩ q
      · rw [h i h1] at h2; cases h2
    · rw [tb_hi (n := 10) hs z, tb_hi (n := 10) ht z]
/-- going down from n -/
theorem dn_ind {P : Nat → Prop} (n : Nat) (h : ∀ i, i ≤ n → (i < n → P (i + 1)) → P i) : ∀ i, i ≤ n → P i := by
  intro i hi
  have : ∀ k i, i + k = n → P i := by
    intro k
    induction k with
    | zero => intro i e; exact h i (by omega) (fun q => by omega)
    | succ k ih => intro i e; exact h i (by omega) (fun _ => ih (i + 1) (by omega))
  exact this (n - i) i (by omega)
theorem nI_subsub (h s q : Nat) : nI h - nI s - nI q = nI h - nI (s + q) := by
  rw [← nI_add, Int32.sub_eq_add_neg, Int32.sub_eq_add_neg, Int32.sub_eq_add_neg, Int32.neg_add, Int32.add_assoc, Int32.sub_eq_add_neg]
theorem ni_subI {h s : Nat} (hh : h < 1073741824) (hs : s < 1073741824) : (nI h - nI s).toInt = (h : Int) - s := by
  rcases Nat.lt_or_ge h s with z | z
  · have : nI h - nI s = - nI (s - h) := by
      rw [← ni_sub (Nat.le_of_lt z), Int32.neg_sub]
    rw [this, Int32.toInt_neg, nI_toInt (by omega)]
    rw [Int.bmod_eq_of_le (by omega) (by omega)]
    omega
  · rw [ni_sub z, nI_toInt (by omega)]
    omega
theorem ni_gt0 {h s : Nat} (hh : h < 1073741824) (hs : s < 1073741824) : (nI 0 < nI h - nI s) ↔ s < h := by
  rw [Int32.lt_iff_toInt_lt, ni_subI hh hs, nI_toInt (by omega)]
  omega
theorem ni_le0 {h s : Nat} (hh : h < 1073741824) (hs : s < 1073741824) : (nI h - nI s ≤ nI 0) ↔ h ≤ s := by
  rw [Int32.le_iff_toInt_le, ni_subI hh hs, nI_toInt (by omega)]
  omega
theorem dif_lt {a b n : Nat} (h : a < 2 ^ n) : ndif a b < 2 ^ n := by
  apply Nat.lt_pow_two_of_testBit
  intro i hi
  rw [tb_dif, tb_hi h hi]
  rfl
theorem p2_le {n k : Nat} (h : n ≤ k) : 2 ^ n ≤ 2 ^ k := Nat.pow_le_pow_right (by omega) h
theorem tb_all (n i : Nat) : (2 ^ n - 1).testBit i = decide (i < n) := Nat.testBit_two_pow_sub_one n i
theorem ni_all {n : Nat} (h : n < 31) : nI (1 <<< n) - nI 1 = nI (2 ^ n - 1) := by
  rw [ni_sub (by rw [Nat.one_shiftLeft]; exact Nat.one_le_two_pow), Nat.one_shiftLeft]
theorem bset_if (f : Nat → Bool) (n : Nat) : bset f (n + 1) = bset f n ||| (if f n then 1 <<< n else 0) := by
  show (if f n then bset f n ||| 1 <<< n else bset f n) = _
  split
  · rfl
  · rw [Nat.or_zero]
def itr (f : Nat → Nat) : Nat → Nat → Nat
  | 0, x => x
  | n + 1, x => itr f n (f x)
theorem itr_fix {f : Nat → Nat} {x : Nat} (h : f x = x) : ∀ n, itr f n x = x
  | 0 => rfl
  | n + 1 => by unfold itr; rw [h, itr_fix h n]
theorem itr_succ (f : Nat → Nat) : ∀ n x, itr f (n + 1) x = f (itr f n x)
  | 0, _ => rfl
  | n + 1, x => by show itr f (n + 1) (f x) = _; rw [itr_succ f n (f x)]; rfl
end
section
/-! of J6_bitCount_0f7a4: regions, printed by wip/gen/mk.py. -/
theorem en_J6_bitCount_0f7a4 {E : am_E} {d : Nat} {K : am_K} {mi : Nat → Nat → Int32} {ml : Nat → Nat → Int64} {x0 : Int32}  (h : K (some (.int ((((((((x0 - (((x0.toUInt32 >>> ((nI 1).toUInt32 &&& Int32.toUInt32 31)).toInt32) &&& (nI 1431655765))) &&& (nI 858993459)) + ((((x0 - (((x0.toUInt32 >>> ((nI 1).toUInt32 &&& Int32.toUInt32 31)).toInt32) &&& (nI 1431655765))).toUInt32 >>> ((nI 2).toUInt32 &&& Int32.toUInt32 31)).toInt32) &&& (nI 858993459))) + (((((x0 - (((x0.toUInt32 >>> ((nI 1).toUInt32 &&& Int32.toUInt32 31)).toInt32) &&& (nI 1431655765))) &&& (nI 858993459)) + ((((x0 - (((x0.toUInt32 >>> ((nI 1).toUInt32 &&& Int32.toUInt32 31)).toInt32) &&& (nI 1431655765))).toUInt32 >>> ((nI 2).toUInt32 &&& Int32.toUInt32 31)).toInt32) &&& (nI 858993459))).toUInt32 >>> ((nI 4).toUInt32 &&& Int32.toUInt32 31)).toInt32)) &&& (nI 252645135)) + (((((((x0 - (((x0.toUInt32 >>> ((nI 1).toUInt32 &&& Int32.toUInt32 31)).toInt32) &&& (nI 1431655765))) &&& (nI 858993459)) + ((((x0 - (((x0.toUInt32 >>> ((nI 1).toUInt32 &&& Int32.toUInt32 31)).toInt32) &&& (nI 1431655765))).toUInt32 >>> ((nI 2).toUInt32 &&& Int32.toUInt32 31)).toInt32) &&& (nI 858993459))) + (((((x0 - (((x0.toUInt32 >>> ((nI 1).toUInt32 &&& Int32.toUInt32 31)).toInt32) &&& (nI 1431655765))) &&& (nI 858993459)) + ((((x0 - (((x0.toUInt32 >>> ((nI 1).toUInt32 &&& Int32.toUInt32 31)).toInt32) &&& (nI 1431655765))).toUInt32 >>> ((nI 2).toUInt32 &&& Int32.toUInt32 31)).toInt32) &&& (nI 858993459))).toUInt32 >>> ((nI 4).toUInt32 &&& Int32.toUInt32 31)).toInt32)) &&& (nI 252645135)).toUInt32 >>> ((nI 8).toUInt32 &&& Int32.toUInt32 31)).toInt32)) + ((((((((x0 - (((x0.toUInt32 >>> ((nI 1).toUInt32 &&& Int32.toUInt32 31)).toInt32) &&& (nI 1431655765))) &&& (nI 858993459)) + ((((x0 - (((x0.toUInt32 >>> ((nI 1).toUInt32 &&& Int32.toUInt32 31)).toInt32) &&& (nI 1431655765))).toUInt32 >>> ((nI 2).toUInt32 &&& Int32.toUInt32 31)).toInt32) &&& (nI 858993459))) + (((((x0 - (((x0.toUInt32 >>> ((nI 1).toUInt32 &&& Int32.toUInt32 31)).toInt32) &&& (nI 1431655765))) &&& (nI 858993459)) + ((((x0 - (((x0.toUInt32 >>> ((nI 1).toUInt32 &&& Int32.toUInt32 31)).toInt32) &&& (nI 1431655765))).toUInt32 >>> ((nI 2).toUInt32 &&& Int32.toUInt32 31)).toInt32) &&& (nI 858993459))).toUInt32 >>> ((nI 4).toUInt32 &&& Int32.toUInt32 31)).toInt32)) &&& (nI 252645135)) + (((((((x0 - (((x0.toUInt32 >>> ((nI 1).toUInt32 &&& Int32.toUInt32 31)).toInt32) &&& (nI 1431655765))) &&& (nI 858993459)) + ((((x0 - (((x0.toUInt32 >>> ((nI 1).toUInt32 &&& Int32.toUInt32 31)).toInt32) &&& (nI 1431655765))).toUInt32 >>> ((nI 2).toUInt32 &&& Int32.toUInt32 31)).toInt32) &&& (nI 858993459))) + (((((x0 - (((x0.toUInt32 >>> ((nI 1).toUInt32 &&& Int32.toUInt32 31)).toInt32) &&& (nI 1431655765))) &&& (nI 858993459)) + ((((x0 - (((x0.toUInt32 >>> ((nI 1).toUInt32 &&& Int32.toUInt32 31)).toInt32) &&& (nI 1431655765))).toUInt32 >>> ((nI 2).toUInt32 &&& Int32.toUInt32 31)).toInt32) &&& (nI 858993459))).toUInt32 >>> ((nI 4).toUInt32 &&& Int32.toUInt32 31)).toInt32)) &&& (nI 252645135)).toUInt32 >>> ((nI 8).toUInt32 &&& Int32.toUInt32 31)).toInt32)).toUInt32 >>> ((nI 16).toUInt32 &&& Int32.toUInt32 31)).toInt32)) &&& (nI 63)))) (S0, mi, ml)) : cq E (d + 1) 328 [.int x0] K mi ml :=
  r_ent (L' := [.int x0]) rfl rfl rfl rfl (r_iload_n (f_328 rfl) rfl (r_iload_n (f_328 rfl) rfl (r_iconst (f_328 rfl) kc_1 (r_iushr (f_328 rfl) (r_ldcw (f_328 rfl) rfl (r_iand (f_328 rfl) (r_isub (f_328 rfl) (r_istore_n (L' := [.int (x0 - (((x0.toUInt32 >>> ((nI 1).toUInt32 &&& Int32.toUInt32 31)).toInt32) &&& (nI 1431655765)))]) (f_328 rfl) rfl rfl (r_iload_n (f_328 rfl) rfl (r_ldcw (f_328 rfl) rfl (r_iand (f_328 rfl) (r_iload_n (f_328 rfl) rfl (r_iconst (f_328 rfl) kc_2 (r_iushr (f_328 rfl) (r_ldcw (f_328 rfl) rfl (r_iand (f_328 rfl) (r_iadd (f_328 rfl) (r_istore_n (L' := [.int (((x0 - (((x0.toUInt32 >>> ((nI 1).toUInt32 &&& Int32.toUInt32 31)).toInt32) &&& (nI 1431655765))) &&& (nI 858993459)) + ((((x0 - (((x0.toUInt32 >>> ((nI 1).toUInt32 &&& Int32.toUInt32 31)).toInt32) &&& (nI 1431655765))).toUInt32 >>> ((nI 2).toUInt32 &&& Int32.toUInt32 31)).toInt32) &&& (nI 858993459)))]) (f_328 rfl) rfl rfl (r_iload_n (f_328 rfl) rfl (r_iload_n (f_328 rfl) rfl (r_iconst (f_328 rfl) kc_4 (r_iushr (f_328 rfl) (r_iadd (f_328 rfl) (r_ldcw (f_328 rfl) rfl (r_iand (f_328 rfl) (r_istore_n (L' := [.int (((((x0 - (((x0.toUInt32 >>> ((nI 1).toUInt32 &&& Int32.toUInt32 31)).toInt32) &&& (nI 1431655765))) &&& (nI 858993459)) + ((((x0 - (((x0.toUInt32 >>> ((nI 1).toUInt32 &&& Int32.toUInt32 31)).toInt32) &&& (nI 1431655765))).toUInt32 >>> ((nI 2).toUInt32 &&& Int32.toUInt32 31)).toInt32) &&& (nI 858993459))) + (((((x0 - (((x0.toUInt32 >>> ((nI 1).toUInt32 &&& Int32.toUInt32 31)).toInt32) &&& (nI 1431655765))) &&& (nI 858993459)) + ((((x0 - (((x0.toUInt32 >>> ((nI 1).toUInt32 &&& Int32.toUInt32 31)).toInt32) &&& (nI 1431655765))).toUInt32 >>> ((nI 2).toUInt32 &&& Int32.toUInt32 31)).toInt32) &&& (nI 858993459))).toUInt32 >>> ((nI 4).toUInt32 &&& Int32.toUInt32 31)).toInt32)) &&& (nI 252645135))]) (f_328 rfl) rfl rfl (r_iload_n (f_328 rfl) rfl (r_iload_n (f_328 rfl) rfl (r_bipush (f_328 rfl) kb_8 (r_iushr (f_328 rfl) (r_iadd (f_328 rfl) (r_istore_n (L' := [.int ((((((x0 - (((x0.toUInt32 >>> ((nI 1).toUInt32 &&& Int32.toUInt32 31)).toInt32) &&& (nI 1431655765))) &&& (nI 858993459)) + ((((x0 - (((x0.toUInt32 >>> ((nI 1).toUInt32 &&& Int32.toUInt32 31)).toInt32) &&& (nI 1431655765))).toUInt32 >>> ((nI 2).toUInt32 &&& Int32.toUInt32 31)).toInt32) &&& (nI 858993459))) + (((((x0 - (((x0.toUInt32 >>> ((nI 1).toUInt32 &&& Int32.toUInt32 31)).toInt32) &&& (nI 1431655765))) &&& (nI 858993459)) + ((((x0 - (((x0.toUInt32 >>> ((nI 1).toUInt32 &&& Int32.toUInt32 31)).toInt32) &&& (nI 1431655765))).toUInt32 >>> ((nI 2).toUInt32 &&& Int32.toUInt32 31)).toInt32) &&& (nI 858993459))).toUInt32 >>> ((nI 4).toUInt32 &&& Int32.toUInt32 31)).toInt32)) &&& (nI 252645135)) + (((((((x0 - (((x0.toUInt32 >>> ((nI 1).toUInt32 &&& Int32.toUInt32 31)).toInt32) &&& (nI 1431655765))) &&& (nI 858993459)) + ((((x0 - (((x0.toUInt32 >>> ((nI 1).toUInt32 &&& Int32.toUInt32 31)).toInt32) &&& (nI 1431655765))).toUInt32 >>> ((nI 2).toUInt32 &&& Int32.toUInt32 31)).toInt32) &&& (nI 858993459))) + (((((x0 - (((x0.toUInt32 >>> ((nI 1).toUInt32 &&& Int32.toUInt32 31)).toInt32) &&& (nI 1431655765))) &&& (nI 858993459)) + ((((x0 - (((x0.toUInt32 >>> ((nI 1).toUInt32 &&& Int32.toUInt32 31)).toInt32) &&& (nI 1431655765))).toUInt32 >>> ((nI 2).toUInt32 &&& Int32.toUInt32 31)).toInt32) &&& (nI 858993459))).toUInt32 >>> ((nI 4).toUInt32 &&& Int32.toUInt32 31)).toInt32)) &&& (nI 252645135)).toUInt32 >>> ((nI 8).toUInt32 &&& Int32.toUInt32 31)).toInt32))]) (f_328 rfl) rfl rfl (r_iload_n (f_328 rfl) rfl (r_iload_n (f_328 rfl) rfl (r_bipush (f_328 rfl) kb_16 (r_iushr (f_328 rfl) (r_iadd (f_328 rfl) (r_istore_n (L' := [.int (((((((x0 - (((x0.toUInt32 >>> ((nI 1).toUInt32 &&& Int32.toUInt32 31)).toInt32) &&& (nI 1431655765))) &&& (nI 858993459)) + ((((x0 - (((x0.toUInt32 >>> ((nI 1).toUInt32 &&& Int32.toUInt32 31)).toInt32) &&& (nI 1431655765))).toUInt32 >>> ((nI 2).toUInt32 &&& Int32.toUInt32 31)).toInt32) &&& (nI 858993459))) + (((((x0 - (((x0.toUInt32 >>> ((nI 1).toUInt32 &&& Int32.toUInt32 31)).toInt32) &&& (nI 1431655765))) &&& (nI 858993459)) + ((((x0 - (((x0.toUInt32 >>> ((nI 1).toUInt32 &&& Int32.toUInt32 31)).toInt32) &&& (nI 1431655765))).toUInt32 >>> ((nI 2).toUInt32 &&& Int32.toUInt32 31)).toInt32) &&& (nI 858993459))).toUInt32 >>> ((nI 4).toUInt32 &&& Int32.toUInt32 31)).toInt32)) &&& (nI 252645135)) + (((((((x0 - (((x0.toUInt32 >>> ((nI 1).toUInt32 &&& Int32.toUInt32 31)).toInt32) &&& (nI 1431655765))) &&& (nI 858993459)) + ((((x0 - (((x0.toUInt32 >>> ((nI 1).toUInt32 &&& Int32.toUInt32 31)).toInt32) &&& (nI 1431655765))).toUInt32 >>> ((nI 2).toUInt32 &&& Int32.toUInt32 31)).toInt32) &&& (nI 858993459))) + (((((x0 - (((x0.toUInt32 >>> ((nI 1).toUInt32 &&& Int32.toUInt32 31)).toInt32) &&& (nI 1431655765))) &&& (nI 858993459)) + ((((x0 - (((x0.toUInt32 >>> ((nI 1).toUInt32 &&& Int32.toUInt32 31)).toInt32) &&& (nI 1431655765))).toUInt32 >>> ((nI 2).toUInt32 &&& Int32.toUInt32 31)).toInt32) &&& (nI 858993459))).toUInt32 >>> ((nI 4).toUInt32 &&& Int32.toUInt32 31)).toInt32)) &&& (nI 252645135)).toUInt32 >>> ((nI 8).toUInt32 &&& Int32.toUInt32 31)).toInt32)) + ((((((((x0 - (((x0.toUInt32 >>> ((nI 1).toUInt32 &&& Int32.toUInt32 31)).toInt32) &&& (nI 1431655765))) &&& (nI 858993459)) + ((((x0 - (((x0.toUInt32 >>> ((nI 1).toUInt32 &&& Int32.toUInt32 31)).toInt32) &&& (nI 1431655765))).toUInt32 >>> ((nI 2).toUInt32 &&& Int32.toUInt32 31)).toInt32) &&& (nI 858993459))) + (((((x0 - (((x0.toUInt32 >>> ((nI 1).toUInt32 &&& Int32.toUInt32 31)).toInt32) &&& (nI 1431655765))) &&& (nI 858993459)) + ((((x0 - (((x0.toUInt32 >>> ((nI 1).toUInt32 &&& Int32.toUInt32 31)).toInt32) &&& (nI 1431655765))).toUInt32 >>> ((nI 2).toUInt32 &&& Int32.toUInt32 31)).toInt32) &&& (nI 858993459))).toUInt32 >>> ((nI 4).toUInt32 &&& Int32.toUInt32 31)).toInt32)) &&& (nI 252645135)) + (((((((x0 - (((x0.toUInt32 >>> ((nI 1).toUInt32 &&& Int32.toUInt32 31)).toInt32) &&& (nI 1431655765))) &&& (nI 858993459)) + ((((x0 - (((x0.toUInt32 >>> ((nI 1).toUInt32 &&& Int32.toUInt32 31)).toInt32) &&& (nI 1431655765))).toUInt32 >>> ((nI 2).toUInt32 &&& Int32.toUInt32 31)).toInt32) &&& (nI 858993459))) + (((((x0 - (((x0.toUInt32 >>> ((nI 1).toUInt32 &&& Int32.toUInt32 31)).toInt32) &&& (nI 1431655765))) &&& (nI 858993459)) + ((((x0 - (((x0.toUInt32 >>> ((nI 1).toUInt32 &&& Int32.toUInt32 31)).toInt32) &&& (nI 1431655765))).toUInt32 >>> ((nI 2).toUInt32 &&& Int32.toUInt32 31)).toInt32) &&& (nI 858993459))).toUInt32 >>> ((nI 4).toUInt32 &&& Int32.toUInt32 31)).toInt32)) &&& (nI 252645135)).toUInt32 >>> ((nI 8).toUInt32 &&& Int32.toUInt32 31)).toInt32)).toUInt32 >>> ((nI 16).toUInt32 &&& Int32.toUInt32 31)).toInt32))]) (f_328 rfl) rfl rfl (r_iload_n (f_328 rfl) rfl (r_bipush (f_328 rfl) kb_63 (r_iand (f_328 rfl) (r_ret (f_328 rfl) rfl ⟨rfl, rfl⟩ trivial h))))))))))))))))))))))))))))))))))))))))))
def bc1 (x : Int32) : Int32 := x - ((x.toUInt32 >>> ((nI 1).toUInt32 &&& Int32.toUInt32 31)).toInt32 &&& nI 1431655765)
def bc2 (x : Int32) : Int32 := (x &&& nI 858993459) + ((x.toUInt32 >>> ((nI 2).toUInt32 &&& Int32.toUInt32 31)).toInt32 &&& nI 858993459)
def bc3 (x : Int32) : Int32 := (x + (x.toUInt32 >>> ((nI 4).toUInt32 &&& Int32.toUInt32 31)).toInt32) &&& nI 252645135
def bc4 (x : Int32) : Int32 := x + (x.toUInt32 >>> ((nI 8).toUInt32 &&& Int32.toUInt32 31)).toInt32
def bc5 (x : Int32) : Int32 := x + (x.toUInt32 >>> ((nI 16).toUInt32 &&& Int32.toUInt32 31)).toInt32
def bc (x : Int32) : Int32 := bc5 (bc4 (bc3 (bc2 (bc1 x)))) &&& nI 63
theorem s_bitCount {E : am_E} {d : Nat} {K : am_K} {mi : Nat → Nat → Int32} {ml : Nat → Nat → Int64} {x0 : Int32} (h : K (some (.int (bc x0))) (S0, mi, ml)) : cq E (d + 1) 328 [.int x0] K mi ml := en_J6_bitCount_0f7a4 h
theorem bc_pc_all : ∀ n, n < 1024 → bc (nI n) = nI (pc n) := by decide +kernel
theorem bc_pc {n : Nat} (h : n < 1024) : bc (nI n) = nI (pc n) := bc_pc_all n h
end
section
/-! of X0_omenNamed X0_personNamed X0_addOmen X0_addPerson X0_satIn: regions, printed by wip/gen/mk.py. -/
theorem en_X0_omenNamed {E : am_E} {d : Nat} {K : am_K} {mi : Nat → Nat → Int32} {ml : Nat → Nat → Int64} {b : Nat} (hb : bt b) {x1 : Int64}  (h : rn E d 13 K 2 [.ref b, .long x1, am_mk, .int (nI 0)] [] mi ml) : cq E (d + 1) 13 [.ref b, .long x1] K mi ml :=
  r_ent (L' := [.ref b, .long x1, am_mk, am_mk]) rfl rfl rfl rfl (r_iconst (f_13 rfl) kc_0 (r_istore_n (L' := [.ref b, .long x1, am_mk, .int (nI 0)]) (f_13 rfl) rfl rfl h))
theorem rg_X0_omenNamed_2 {E : am_E} {d : Nat} {K : am_K} {mi : Nat → Nat → Int32} {ml : Nat → Nat → Int64} {b : Nat} (hb : bt b) {l1 : Int64} {l3 : Int32}  (h : ((mi b 4) ≤ l3 → (K (some (.int nM)) (S0, mi, ml))) ∧ (¬ ((mi b 4) ≤ l3) → ((vp_in l3 6) ∧ ((¬ (lg_cmp (ml (b + 2) (Int32.toNatClampNeg l3)) l1) = (nI 0) → (rn E d 13 K 2 [.ref b, .long l1, am_mk, .int (l3 + (nI 1))] [] mi ml)) ∧ (¬ (¬ (lg_cmp (ml (b + 2) (Int32.toNatClampNeg l3)) l1) = (nI 0)) → (K (some (.int l3)) (S0, mi, ml))))))) : rn E d 13 K 2 [.ref b, .long l1, am_mk, .int l3] [] mi ml :=
  (r_iload_n (f_13 rfl) rfl (r_aload_n (f_13 rfl) rfl (r_getI (f_13 rfl) rfl rfl (bt_sh hb) (r_ic_ge (f_13 rfl) (fun q1 => (r_iconst (f_13 rfl) kc_m1 (r_ret (f_13 rfl) rfl ⟨rfl, rfl⟩ trivial (h.1 q1)))) (fun q1 => (r_aload_n (f_13 rfl) rfl (r_getR (f_13 rfl) rfl rfl (bt_sh hb) (bt_r9 hb) (r_iload_n (f_13 rfl) rfl (r_lald (f_13 rfl) (bt_a2 hb) (h.2 q1).1 (r_lload_n (f_13 rfl) rfl (r_lcmp (f_13 rfl) (r_if_ne (f_13 rfl) (fun q2 => (r_iinc (L' := [.ref b, .long l1, am_mk, .int (l3 + (nI 1))]) (f_13 rfl) rfl rfl kc_1 rfl (r_goto (f_13 rfl) ((h.2 q1).2.1 q2)))) (fun q2 => (r_iload_n (f_13 rfl) rfl (r_ret (f_13 rfl) rfl ⟨rfl, rfl⟩ trivial ((h.2 q1).2.2 q2))))))))))))))))
theorem en_X0_personNamed {E : am_E} {d : Nat} {K : am_K} {mi : Nat → Nat → Int32} {ml : Nat → Nat → Int64} {b : Nat} (hb : bt b) {x1 : Int64}  (h : rn E d 14 K 2 [.ref b, .long x1, am_mk, .int (nI 0)] [] mi ml) : cq E (d + 1) 14 [.ref b, .long x1] K mi ml :=
  r_ent (L' := [.ref b, .long x1, am_mk, am_mk]) rfl rfl rfl rfl (r_iconst (f_14 rfl) kc_0 (r_istore_n (L' := [.ref b, .long x1, am_mk, .int (nI 0)]) (f_14 rfl) rfl rfl h))
theorem rg_X0_personNamed_2 {E : am_E} {d : Nat} {K : am_K} {mi : Nat → Nat → Int32} {ml : Nat → Nat → Int64} {b : Nat} (hb : bt b) {l1 : Int64} {l3 : Int32}  (h : ((mi b 5) ≤ l3 → (K (some (.int nM)) (S0, mi, ml))) ∧ (¬ ((mi b 5) ≤ l3) → ((vp_in l3 8) ∧ ((¬ (lg_cmp (ml (b + 7) (Int32.toNatClampNeg l3)) l1) = (nI 0) → (rn E d 14 K 2 [.ref b, .long l1, am_mk, .int (l3 + (nI 1))] [] mi ml)) ∧ (¬ (¬ (lg_cmp (ml (b + 7) (Int32.toNatClampNeg l3)) l1) = (nI 0)) → (K (some (.int l3)) (S0, mi, ml))))))) : rn E d 14 K 2 [.ref b, .long l1, am_mk, .int l3] [] mi ml :=
  (r_iload_n (f_14 rfl) rfl (r_aload_n (f_14 rfl) rfl (r_getI (f_14 rfl) rfl rfl (bt_sh hb) (r_ic_ge (f_14 rfl) (fun q1 => (r_iconst (f_14 rfl) kc_m1 (r_ret (f_14 rfl) rfl ⟨rfl, rfl⟩ trivial (h.1 q1)))) (fun q1 => (r_aload_n (f_14 rfl) rfl (r_getR (f_14 rfl) rfl rfl (bt_sh hb) (bt_r14 hb) (r_iload_n (f_14 rfl) rfl (r_lald (f_14 rfl) (bt_a7 hb) (h.2 q1).1 (r_lload_n (f_14 rfl) rfl (r_lcmp (f_14 rfl) (r_if_ne (f_14 rfl) (fun q2 => (r_iinc (L' := [.ref b, .long l1, am_mk, .int (l3 + (nI 1))]) (f_14 rfl) rfl rfl kc_1 rfl (r_goto (f_14 rfl) ((h.2 q1).2.1 q2)))) (fun q2 => (r_iload_n (f_14 rfl) rfl (r_ret (f_14 rfl) rfl ⟨rfl, rfl⟩ trivial ((h.2 q1).2.2 q2))))))))))))))))
theorem en_X0_addOmen {E : am_E} {d : Nat} {K : am_K} {mi : Nat → Nat → Int32} {ml : Nat → Nat → Int64} {b : Nat} (hb : bt b) {x1 : Int64} {x2 : Int32}  (h : ((mi b 4) < (nI 6) → ((vp_in (mi b 4) 6) ∧ ((vp_in ((am_si mi (b + 1) (Int32.toNatClampNeg (mi b 4)) x2) b 4) 6) ∧ (K (some (.int (((am_si (am_si mi (b + 1) (Int32.toNatClampNeg (mi b 4)) x2) b 4 (((am_si mi (b + 1) (Int32.toNatClampNeg (mi b 4)) x2) b 4) + (nI 1))) b 4) - (nI 1)))) (S0, am_si (am_si mi (b + 1) (Int32.toNatClampNeg (mi b 4)) x2) b 4 (((am_si mi (b + 1) (Int32.toNatClampNeg (mi b 4)) x2) b 4) + (nI 1)), am_sj ml (b + 2) (Int32.toNatClampNeg ((am_si mi (b + 1) (Int32.toNatClampNeg (mi b 4)) x2) b 4)) x1))))) ∧ (¬ ((mi b 4) < (nI 6)) → (K (some (.int nM)) (S0, mi, ml)))) : cq E (d + 1) 15 [.ref b, .long x1, .int x2] K mi ml :=
  r_ent (L' := [.ref b, .long x1, am_mk, .int x2]) rfl rfl rfl rfl (r_aload_n (f_15 rfl) rfl (r_getI (f_15 rfl) rfl rfl (bt_sh hb) (r_bipush (f_15 rfl) kb_6 (r_ic_lt (f_15 rfl) (fun q1 => (r_aload_n (f_15 rfl) rfl (r_getR (f_15 rfl) rfl rfl (bt_sh hb) (bt_r8 hb) (r_aload_n (f_15 rfl) rfl (r_getI (f_15 rfl) rfl rfl (bt_sh hb) (r_iload_n (f_15 rfl) rfl (r_iast (f_15 rfl) (bt_a1 hb) (h.1 q1).1 (r_aload_n (f_15 rfl) rfl (r_getR (f_15 rfl) rfl rfl (bt_sh hb) (bt_r9 hb) (r_aload_n (f_15 rfl) rfl (r_getI (f_15 rfl) rfl rfl (bt_sh hb) (r_lload_n (f_15 rfl) rfl (r_last (f_15 rfl) (bt_a2 hb) (h.1 q1).2.1 (r_aload_n (f_15 rfl) rfl (r_dupR (f_15 rfl) (r_getI (f_15 rfl) rfl rfl (bt_sh hb) (r_iconst (f_15 rfl) kc_1 (r_iadd (f_15 rfl) (r_putI (f_15 rfl) rfl rfl rfl (bt_sh hb) trivial (r_aload_n (f_15 rfl) rfl (r_getI (f_15 rfl) rfl rfl (bt_sh hb) (r_iconst (f_15 rfl) kc_1 (r_isub (f_15 rfl) (r_ret (f_15 rfl) rfl ⟨rfl, rfl⟩ trivial (h.1 q1).2.2)))))))))))))))))))))))) (fun q1 => (r_iconst (f_15 rfl) kc_m1 (r_ret (f_15 rfl) rfl ⟨rfl, rfl⟩ trivial (h.2 q1))))))))
theorem en_X0_addPerson {E : am_E} {d : Nat} {K : am_K} {mi : Nat → Nat → Int32} {ml : Nat → Nat → Int64} {b : Nat} (hb : bt b) {x1 : Int64} {x2 : Int32}  (h : ((mi b 5) < (nI 8) → ((vp_in (mi b 5) 8) ∧ ((vp_in (mi b 5) 8) ∧ ((vp_in (mi b 5) 8) ∧ ((vp_in (mi b 5) 8) ∧ ((vp_in (mi b 5) 8) ∧ (rn E d 16 K 65 [.ref b, am_mk, am_mk, am_mk, .int (mi b 5), .int (nI 0)] [] (am_si (am_si (am_si (am_si mi (b + 3) (Int32.toNatClampNeg (mi b 5)) x2) (b + 4) (Int32.toNatClampNeg (mi b 5)) (nI 0)) (b + 5) (Int32.toNatClampNeg (mi b 5)) (nI 0)) (b + 6) (Int32.toNatClampNeg (mi b 5)) (((nI 1) <<< ms (mi b 5)) - (nI 1))) (am_sj ml (b + 7) (Int32.toNatClampNeg (mi b 5)) x1)))))))) ∧ (¬ ((mi b 5) < (nI 8)) → (K (some (.int nM)) (S0, mi, ml)))) : cq E (d + 1) 16 [.ref b, .long x1, .int x2] K mi ml :=
  r_ent (L' := [.ref b, .long x1, am_mk, .int x2, am_mk, am_mk]) rfl rfl rfl rfl (r_aload_n (f_16 rfl) rfl (r_getI (f_16 rfl) rfl rfl (bt_sh hb) (r_bipush (f_16 rfl) kb_8 (r_ic_lt (f_16 rfl) (fun q1 => (r_aload_n (f_16 rfl) rfl (r_getI (f_16 rfl) rfl rfl (bt_sh hb) (r_istore (L' := [.ref b, .long x1, am_mk, .int x2, .int (mi b 5), am_mk]) (f_16 rfl) rfl rfl (r_aload_n (f_16 rfl) rfl (r_getR (f_16 rfl) rfl rfl (bt_sh hb) (bt_r10 hb) (r_iload (f_16 rfl) rfl (r_iload_n (f_16 rfl) rfl (r_iast (f_16 rfl) (bt_a3 hb) (h.1 q1).1 (r_aload_n (f_16 rfl) rfl (r_getR (f_16 rfl) rfl rfl (bt_sh hb) (bt_r11 hb) (r_iload (f_16 rfl) rfl (r_iconst (f_16 rfl) kc_0 (r_iast (f_16 rfl) (bt_a4 hb) (h.1 q1).2.1 (r_aload_n (f_16 rfl) rfl (r_getR (f_16 rfl) rfl rfl (bt_sh hb) (bt_r12 hb) (r_iload (f_16 rfl) rfl (r_iconst (f_16 rfl) kc_0 (r_iast (f_16 rfl) (bt_a5 hb) (h.1 q1).2.2.1 (r_aload_n (f_16 rfl) rfl (r_getR (f_16 rfl) rfl rfl (bt_sh hb) (bt_r14 hb) (r_iload (f_16 rfl) rfl (r_lload_n (f_16 rfl) rfl (r_last (f_16 rfl) (bt_a7 hb) (h.1 q1).2.2.2.1 (r_aload_n (f_16 rfl) rfl (r_getR (f_16 rfl) rfl rfl (bt_sh hb) (bt_r13 hb) (r_iload (f_16 rfl) rfl (r_iconst (f_16 rfl) kc_1 (r_iload (f_16 rfl) rfl (r_ishl (f_16 rfl) (r_iconst (f_16 rfl) kc_1 (r_isub (f_16 rfl) (r_iast (f_16 rfl) (bt_a6 hb) (h.1 q1).2.2.2.2.1 (r_iconst (f_16 rfl) kc_0 (r_istore (L' := [.ref b, .long x1, am_mk, .int x2, .int (mi b 5), .int (nI 0)]) (f_16 rfl) rfl rfl (r_weak (am_le_cons (am_le_mk (am_le_cons (am_le_mk (am_le_cons (am_le_cons am_le_nil)))))) (h.1 q1).2.2.2.2.2)))))))))))))))))))))))))))))))))))) (fun q1 => (r_iconst (f_16 rfl) kc_m1 (r_ret (f_16 rfl) rfl ⟨rfl, rfl⟩ trivial (h.2 q1))))))))
theorem rg_X0_addPerson_65 {E : am_E} {d : Nat} {K : am_K} {mi : Nat → Nat → Int32} {ml : Nat → Nat → Int64} {b : Nat} (hb : bt b) {l4 : Int32} {l5 : Int32}  (h : (l4 ≤ l5 → (K (some (.int l4)) (S0, am_si (am_si mi b 7 ((mi b 7) ||| ((nI 1) <<< ms l4))) b 5 (((am_si mi b 7 ((mi b 7) ||| ((nI 1) <<< ms l4))) b 5) + (nI 1)), ml))) ∧ (¬ (l4 ≤ l5) → ((vp_in l5 8) ∧ ((vp_in l5 8) ∧ (rn E d 16 K 65 [.ref b, am_mk, am_mk, am_mk, .int l4, .int (l5 + (nI 1))] [] (am_si mi (b + 6) (Int32.toNatClampNeg l5) ((mi (b + 6) (Int32.toNatClampNeg l5)) ||| ((nI 1) <<< ms l4))) ml))))) : rn E d 16 K 65 [.ref b, am_mk, am_mk, am_mk, .int l4, .int l5] [] mi ml :=
  (r_iload (f_16 rfl) rfl (r_iload (f_16 rfl) rfl (r_ic_ge (f_16 rfl) (fun q1 => (r_aload_n (f_16 rfl) rfl (r_dupR (f_16 rfl) (r_getI (f_16 rfl) rfl rfl (bt_sh hb) (r_iconst (f_16 rfl) kc_1 (r_iload (f_16 rfl) rfl (r_ishl (f_16 rfl) (r_ior (f_16 rfl) (r_putI (f_16 rfl) rfl rfl rfl (bt_sh hb) trivial (r_aload_n (f_16 rfl) rfl (r_dupR (f_16 rfl) (r_getI (f_16 rfl) rfl rfl (bt_sh hb) (r_iconst (f_16 rfl) kc_1 (r_iadd (f_16 rfl) (r_putI (f_16 rfl) rfl rfl rfl (bt_sh hb) trivial (r_iload (f_16 rfl) rfl (r_ret (f_16 rfl) rfl ⟨rfl, rfl⟩ trivial (h.1 q1)))))))))))))))))) (fun q1 => (r_aload_n (f_16 rfl) rfl (r_getR (f_16 rfl) rfl rfl (bt_sh hb) (bt_r13 hb) (r_iload (f_16 rfl) rfl (r_dup2R (f_16 rfl) (r_iald (f_16 rfl) (bt_a6 hb) (h.2 q1).1 (r_iconst (f_16 rfl) kc_1 (r_iload (f_16 rfl) rfl (r_ishl (f_16 rfl) (r_ior (f_16 rfl) (r_iast (f_16 rfl) (bt_a6 hb) (h.2 q1).2.1 (r_iinc (L' := [.ref b, am_mk, am_mk, am_mk, .int l4, .int (l5 + (nI 1))]) (f_16 rfl) rfl rfl kc_1 rfl (r_goto (f_16 rfl) (h.2 q1).2.2))))))))))))))))
theorem en_X0_satInAll {E : am_E} {d : Nat} {K : am_K} {mi : Nat → Nat → Int32} {ml : Nat → Nat → Int64} {b : Nat} (hb : bt b)  (h : rn E d 18 K 4 [.ref b, .int (nI 0), .int (nI 0)] [] mi ml) : cq E (d + 1) 18 [.ref b] K mi ml :=
  r_ent (L' := [.ref b, am_mk, am_mk]) rfl rfl rfl rfl (r_iconst (f_18 rfl) kc_0 (r_istore_n (L' := [.ref b, .int (nI 0), am_mk]) (f_18 rfl) rfl rfl (r_iconst (f_18 rfl) kc_0 (r_istore_n (L' := [.ref b, .int (nI 0), .int (nI 0)]) (f_18 rfl) rfl rfl h))))
theorem rg_X0_satInAll_4 {E : am_E} {d : Nat} {K : am_K} {mi : Nat → Nat → Int32} {ml : Nat → Nat → Int64} {b : Nat} (hb : bt b) {l1 : Int32} {l2 : Int32}  (h : ((mi b 5) ≤ l2 → (K (some (.int l1)) (S0, mi, ml))) ∧ (¬ ((mi b 5) ≤ l2) → ((vp_in l2 8) ∧ (rn E d 18 K 4 [.ref b, .int (l1 + (mi (b + 4) (Int32.toNatClampNeg l2))), .int (l2 + (nI 1))] [] mi ml)))) : rn E d 18 K 4 [.ref b, .int l1, .int l2] [] mi ml :=
  (r_iload_n (f_18 rfl) rfl (r_aload_n (f_18 rfl) rfl (r_getI (f_18 rfl) rfl rfl (bt_sh hb) (r_ic_ge (f_18 rfl) (fun q1 => (r_iload_n (f_18 rfl) rfl (r_ret (f_18 rfl) rfl ⟨rfl, rfl⟩ trivial (h.1 q1)))) (fun q1 => (r_iload_n (f_18 rfl) rfl (r_aload_n (f_18 rfl) rfl (r_getR (f_18 rfl) rfl rfl (bt_sh hb) (bt_r11 hb) (r_iload_n (f_18 rfl) rfl (r_iald (f_18 rfl) (bt_a4 hb) (h.2 q1).1 (r_iadd (f_18 rfl) (r_istore_n (L' := [.ref b, .int (l1 + (mi (b + 4) (Int32.toNatClampNeg l2))), .int l2]) (f_18 rfl) rfl rfl (r_iinc (L' := [.ref b, .int (l1 + (mi (b + 4) (Int32.toNatClampNeg l2))), .int (l2 + (nI 1))]) (f_18 rfl) rfl rfl kc_1 rfl (r_goto (f_18 rfl) (h.2 q1).2))))))))))))))
theorem en_X0_excusedFrom {E : am_E} {d : Nat} {K : am_K} {mi : Nat → Nat → Int32} {ml : Nat → Nat → Int64} {b : Nat} (hb : bt b) {x1 : Int32}  (h : rn E d 19 K 4 [.ref b, .int x1, .int (nI 0), .int (nI 0)] [] mi ml) : cq E (d + 1) 19 [.ref b, .int x1] K mi ml :=
  r_ent (L' := [.ref b, .int x1, am_mk, am_mk]) rfl rfl rfl rfl (r_iconst (f_19 rfl) kc_0 (r_istore_n (L' := [.ref b, .int x1, .int (nI 0), am_mk]) (f_19 rfl) rfl rfl (r_iconst (f_19 rfl) kc_0 (r_istore_n (L' := [.ref b, .int x1, .int (nI 0), .int (nI 0)]) (f_19 rfl) rfl rfl h))))
theorem rg_X0_excusedFrom_4 {E : am_E} {d : Nat} {K : am_K} {mi : Nat → Nat → Int32} {ml : Nat → Nat → Int64} {b : Nat} (hb : bt b) {l1 : Int32} {l2 : Int32} {l3 : Int32}  (h : ((mi b 5) ≤ l3 → (K (some (.int l2)) (S0, mi, ml))) ∧ (¬ ((mi b 5) ≤ l3) → ((vp_in l3 8) ∧ (rn E d 19 K 4 [.ref b, .int l1, .int (l2 ||| ((((mi (b + 5) (Int32.toNatClampNeg l3)) >>> ms l1) &&& (nI 1)) <<< ms l3)), .int (l3 + (nI 1))] [] mi ml)))) : rn E d 19 K 4 [.ref b, .int l1, .int l2, .int l3] [] mi ml :=
  (r_iload_n (f_19 rfl) rfl (r_aload_n (f_19 rfl) rfl (r_getI (f_19 rfl) rfl rfl (bt_sh hb) (r_ic_ge (f_19 rfl) (fun q1 => (r_iload_n (f_19 rfl) rfl (r_ret (f_19 rfl) rfl ⟨rfl, rfl⟩ trivial (h.1 q1)))) (fun q1 => (r_iload_n (f_19 rfl) rfl (r_aload_n (f_19 rfl) rfl (r_getR (f_19 rfl) rfl rfl (bt_sh hb) (bt_r12 hb) (r_iload_n (f_19 rfl) rfl (r_iald (f_19 rfl) (bt_a5 hb) (h.2 q1).1 (r_iload_n (f_19 rfl) rfl (r_ishr (f_19 rfl) (r_iconst (f_19 rfl) kc_1 (r_iand (f_19 rfl) (r_iload_n (f_19 rfl) rfl (r_ishl (f_19 rfl) (r_ior (f_19 rfl) (r_istore_n (L' := [.ref b, .int l1, .int (l2 ||| ((((mi (b + 5) (Int32.toNatClampNeg l3)) >>> ms l1) &&& (nI 1)) <<< ms l3)), .int l3]) (f_19 rfl) rfl rfl (r_iinc (L' := [.ref b, .int l1, .int (l2 ||| ((((mi (b + 5) (Int32.toNatClampNeg l3)) >>> ms l1) &&& (nI 1)) <<< ms l3)), .int (l3 + (nI 1))]) (f_19 rfl) rfl rfl kc_1 rfl (r_goto (f_19 rfl) (h.2 q1).2))))))))))))))))))))
theorem en_X0_seenBy {E : am_E} {d : Nat} {K : am_K} {mi : Nat → Nat → Int32} {ml : Nat → Nat → Int64} {b : Nat} (hb : bt b) {x1 : Int32}  (h : rn E d 20 K 4 [.ref b, .int x1, .int (nI 0), .int (nI 0)] [] mi ml) : cq E (d + 1) 20 [.ref b, .int x1] K mi ml :=
  r_ent (L' := [.ref b, .int x1, am_mk, am_mk]) rfl rfl rfl rfl (r_iconst (f_20 rfl) kc_0 (r_istore_n (L' := [.ref b, .int x1, .int (nI 0), am_mk]) (f_20 rfl) rfl rfl (r_iconst (f_20 rfl) kc_0 (r_istore_n (L' := [.ref b, .int x1, .int (nI 0), .int (nI 0)]) (f_20 rfl) rfl rfl h))))
theorem rg_X0_seenBy_4 {E : am_E} {d : Nat} {K : am_K} {mi : Nat → Nat → Int32} {ml : Nat → Nat → Int64} {b : Nat} (hb : bt b) {l1 : Int32} {l2 : Int32} {l3 : Int32}  (h : ((mi b 5) ≤ l3 → (K (some (.int l2)) (S0, mi, ml))) ∧ (¬ ((mi b 5) ≤ l3) → ((vp_in l3 8) ∧ (rn E d 20 K 4 [.ref b, .int l1, .int (l2 ||| ((((mi (b + 6) (Int32.toNatClampNeg l3)) >>> ms l1) &&& (nI 1)) <<< ms l3)), .int (l3 + (nI 1))] [] mi ml)))) : rn E d 20 K 4 [.ref b, .int l1, .int l2, .int l3] [] mi ml :=
  (r_iload_n (f_20 rfl) rfl (r_aload_n (f_20 rfl) rfl (r_getI (f_20 rfl) rfl rfl (bt_sh hb) (r_ic_ge (f_20 rfl) (fun q1 => (r_iload_n (f_20 rfl) rfl (r_ret (f_20 rfl) rfl ⟨rfl, rfl⟩ trivial (h.1 q1)))) (fun q1 => (r_iload_n (f_20 rfl) rfl (r_aload_n (f_20 rfl) rfl (r_getR (f_20 rfl) rfl rfl (bt_sh hb) (bt_r13 hb) (r_iload_n (f_20 rfl) rfl (r_iald (f_20 rfl) (bt_a6 hb) (h.2 q1).1 (r_iload_n (f_20 rfl) rfl (r_ishr (f_20 rfl) (r_iconst (f_20 rfl) kc_1 (r_iand (f_20 rfl) (r_iload_n (f_20 rfl) rfl (r_ishl (f_20 rfl) (r_ior (f_20 rfl) (r_istore_n (L' := [.ref b, .int l1, .int (l2 ||| ((((mi (b + 6) (Int32.toNatClampNeg l3)) >>> ms l1) &&& (nI 1)) <<< ms l3)), .int l3]) (f_20 rfl) rfl rfl (r_iinc (L' := [.ref b, .int l1, .int (l2 ||| ((((mi (b + 6) (Int32.toNatClampNeg l3)) >>> ms l1) &&& (nI 1)) <<< ms l3)), .int (l3 + (nI 1))]) (f_20 rfl) rfl rfl kc_1 rfl (r_goto (f_20 rfl) (h.2 q1).2))))))))))))))))))))
theorem en_X0_needWith {E : am_E} {d : Nat} {K : am_K} {mi : Nat → Nat → Int32} {ml : Nat → Nat → Int64} {b : Nat} (hb : bt b) {x1 : Int32} {x2 : Int32} {x3 : Int32}  (h : (vp_in x2 8) ∧ (rn E d 23 K 18 [.ref b, am_mk, am_mk, am_mk, .int (x3 &&& ((mi (b + 5) (Int32.toNatClampNeg x2)) ^^^ nM)), .int x1, .int (nI 0)] [] mi ml)) : cq E (d + 1) 23 [.ref b, .int x1, .int x2, .int x3] K mi ml :=
  r_ent (L' := [.ref b, .int x1, .int x2, .int x3, am_mk, am_mk, am_mk]) rfl rfl rfl rfl (r_iload_n (f_23 rfl) rfl (r_aload_n (f_23 rfl) rfl (r_getR (f_23 rfl) rfl rfl (bt_sh hb) (bt_r12 hb) (r_iload_n (f_23 rfl) rfl (r_iald (f_23 rfl) (bt_a5 hb) h.1 (r_iconst (f_23 rfl) kc_m1 (r_ixor (f_23 rfl) (r_iand (f_23 rfl) (r_istore (L' := [.ref b, .int x1, .int x2, .int x3, .int (x3 &&& ((mi (b + 5) (Int32.toNatClampNeg x2)) ^^^ nM)), am_mk, am_mk]) (f_23 rfl) rfl rfl (r_iload_n (f_23 rfl) rfl (r_istore (L' := [.ref b, .int x1, .int x2, .int x3, .int (x3 &&& ((mi (b + 5) (Int32.toNatClampNeg x2)) ^^^ nM)), .int x1, am_mk]) (f_23 rfl) rfl rfl (r_iconst (f_23 rfl) kc_0 (r_istore (L' := [.ref b, .int x1, .int x2, .int x3, .int (x3 &&& ((mi (b + 5) (Int32.toNatClampNeg x2)) ^^^ nM)), .int x1, .int (nI 0)]) (f_23 rfl) rfl rfl (r_weak (am_le_cons (am_le_mk (am_le_mk (am_le_mk (am_le_cons (am_le_cons (am_le_cons am_le_nil))))))) h.2))))))))))))))
theorem rg_X0_needWith_18 {E : am_E} {d : Nat} {K : am_K} {mi : Nat → Nat → Int32} {ml : Nat → Nat → Int64} {b : Nat} (hb : bt b) {l4 : Int32} {l5 : Int32} {l6 : Int32}  (h : ((mi b 4) ≤ l6 → ((l5 ≤ (nI 0) → (K (some (.int (nI 0))) (S0, mi, ml))) ∧ (¬ (l5 ≤ (nI 0)) → (K (some (.int l5)) (S0, mi, ml))))) ∧ (¬ ((mi b 4) ≤ l6) → ((((l4 >>> ms l6) &&& (nI 1)) = (nI 0) → (rn E d 23 K 18 [.ref b, am_mk, am_mk, am_mk, .int l4, .int l5, .int (l6 + (nI 1))] [] mi ml)) ∧ (¬ (((l4 >>> ms l6) &&& (nI 1)) = (nI 0)) → ((vp_in l6 6) ∧ (rn E d 23 K 18 [.ref b, am_mk, am_mk, am_mk, .int l4, .int (l5 - (mi (b + 1) (Int32.toNatClampNeg l6))), .int (l6 + (nI 1))] [] mi ml)))))) : rn E d 23 K 18 [.ref b, am_mk, am_mk, am_mk, .int l4, .int l5, .int l6] [] mi ml :=
  (r_iload (f_23 rfl) rfl (r_aload_n (f_23 rfl) rfl (r_getI (f_23 rfl) rfl rfl (bt_sh hb) (r_ic_ge (f_23 rfl) (fun q1 => (r_iload (f_23 rfl) rfl (r_if_le (f_23 rfl) (fun q2 => (r_iconst (f_23 rfl) kc_0 (r_ret (f_23 rfl) rfl ⟨rfl, rfl⟩ trivial ((h.1 q1).1 q2)))) (fun q2 => (r_iload (f_23 rfl) rfl (r_goto (f_23 rfl) (r_ret (f_23 rfl) rfl ⟨rfl, rfl⟩ trivial ((h.1 q1).2 q2)))))))) (fun q1 => (r_iload (f_23 rfl) rfl (r_iload (f_23 rfl) rfl (r_ishr (f_23 rfl) (r_iconst (f_23 rfl) kc_1 (r_iand (f_23 rfl) (r_if_eq (f_23 rfl) (fun q3 => (r_iinc (L' := [.ref b, am_mk, am_mk, am_mk, .int l4, .int l5, .int (l6 + (nI 1))]) (f_23 rfl) rfl rfl kc_1 rfl (r_goto (f_23 rfl) ((h.2 q1).1 q3)))) (fun q3 => (r_iload (f_23 rfl) rfl (r_aload_n (f_23 rfl) rfl (r_getR (f_23 rfl) rfl rfl (bt_sh hb) (bt_r8 hb) (r_iload (f_23 rfl) rfl (r_iald (f_23 rfl) (bt_a1 hb) ((h.2 q1).2 q3).1 (r_isub (f_23 rfl) (r_istore (L' := [.ref b, am_mk, am_mk, am_mk, .int l4, .int (l5 - (mi (b + 1) (Int32.toNatClampNeg l6))), .int l6]) (f_23 rfl) rfl rfl (r_iinc (L' := [.ref b, am_mk, am_mk, am_mk, .int l4, .int (l5 - (mi (b + 1) (Int32.toNatClampNeg l6))), .int (l6 + (nI 1))]) (f_23 rfl) rfl rfl kc_1 rfl (r_goto (f_23 rfl) ((h.2 q1).2 q3).2)))))))))))))))))))))
theorem en_X0_needBy {E : am_E} {d : Nat} {K : am_K} {mi : Nat → Nat → Int32} {ml : Nat → Nat → Int64} {b : Nat} (hb : bt b) {x1 : Int32} {x2 : Int32}  (h : (vp_in x1 8) ∧ (cq E (d + 1) 23 [.ref b, .int (mi (b + 3) (Int32.toNatClampNeg x1)), .int x1, .int x2] (kc E (d + 1) 24 K 12 [am_mk, am_mk, am_mk] []) mi ml)) : cq E (d + 2) 24 [.ref b, .int x1, .int x2] K mi ml :=
  r_ent (L' := [.ref b, .int x1, .int x2]) rfl rfl rfl rfl (r_aload_n (f_24 rfl) rfl (r_aload_n (f_24 rfl) rfl (r_getR (f_24 rfl) rfl rfl (bt_sh hb) (bt_r10 hb) (r_iload_n (f_24 rfl) rfl (r_iald (f_24 rfl) (bt_a3 hb) h.1 (r_iload_n (f_24 rfl) rfl (r_iload_n (f_24 rfl) rfl (r_callV (y' := 23) (as := [.ref b, .int (mi (b + 3) (Int32.toNatClampNeg x1)), .int x1, .int x2]) (rest := []) (f_24 rfl) rfl rfl rfl rfl rfl ⟨rfl, rfl⟩ (bt_sh hb) (cq_mono (fun _ _ q => am_wp_weak (am_call_mono _) (am_le_mk (am_le_mk (am_le_mk am_le_nil))) q) h.2)))))))))
theorem rg_X0_needBy_12 {E : am_E} {d : Nat} {K : am_K} {mi : Nat → Nat → Int32} {ml : Nat → Nat → Int64} {b : Nat} (hb : bt b) {r : Int32}  (h : K (some (.int r)) (S0, mi, ml)) : rn E (d + 1) 24 K 12 [am_mk, am_mk, am_mk] [.int r] mi ml :=
  (r_ret (f_24 rfl) rfl ⟨rfl, rfl⟩ trivial h)
theorem en_X0_measureNeeds {E : am_E} {d : Nat} {K : am_K} {mi : Nat → Nat → Int32} {ml : Nat → Nat → Int64} {b : Nat} (hb : bt b) {x1 : Int32}  (h : rn E (d + 1) 25 K 2 [.ref b, .int x1, .int (nI 0)] [] mi ml) : cq E (d + 2) 25 [.ref b, .int x1] K mi ml :=
  r_ent (L' := [.ref b, .int x1, am_mk]) rfl rfl rfl rfl (r_iconst (f_25 rfl) kc_0 (r_istore_n (L' := [.ref b, .int x1, .int (nI 0)]) (f_25 rfl) rfl rfl h))
theorem rg_X0_measureNeeds_2 {E : am_E} {d : Nat} {K : am_K} {mi : Nat → Nat → Int32} {ml : Nat → Nat → Int64} {b : Nat} (hb : bt b) {l1 : Int32} {l2 : Int32}  (h : ((mi b 5) ≤ l2 → (K (none) (S0, mi, ml))) ∧ (¬ ((mi b 5) ≤ l2) → ((vp_in l2 8) ∧ (cq E (d + 1) 23 [.ref b, .int (mi (b + 3) (Int32.toNatClampNeg l2)), .int l2, .int l1] (kc E (d + 1) 25 K 27 [.ref b, .int l1, .int l2] [.int l2, .ref (b + 8)]) mi ml)))) : rn E (d + 1) 25 K 2 [.ref b, .int l1, .int l2] [] mi ml :=
  (r_iload_n (f_25 rfl) rfl (r_aload_n (f_25 rfl) rfl (r_getI (f_25 rfl) rfl rfl (bt_sh hb) (r_ic_ge (f_25 rfl) (fun q1 => (r_vret (f_25 rfl) rfl ⟨rfl, rfl⟩  (h.1 q1))) (fun q1 => (r_aload_n (f_25 rfl) rfl (r_getR (f_25 rfl) rfl rfl (bt_sh hb) (bt_r15 hb) (r_iload_n (f_25 rfl) rfl (r_aload_n (f_25 rfl) rfl (r_aload_n (f_25 rfl) rfl (r_getR (f_25 rfl) rfl rfl (bt_sh hb) (bt_r10 hb) (r_iload_n (f_25 rfl) rfl (r_iald (f_25 rfl) (bt_a3 hb) (h.2 q1).1 (r_iload_n (f_25 rfl) rfl (r_iload_n (f_25 rfl) rfl (r_callV (y' := 23) (as := [.ref b, .int (mi (b + 3) (Int32.toNatClampNeg l2)), .int l2, .int l1]) (rest := [.int l2, .ref (b + 8)]) (f_25 rfl) rfl rfl rfl rfl rfl ⟨rfl, rfl⟩ (bt_sh hb) (h.2 q1).2))))))))))))))))
theorem rg_X0_measureNeeds_27 {E : am_E} {d : Nat} {K : am_K} {mi : Nat → Nat → Int32} {ml : Nat → Nat → Int64} {b : Nat} (hb : bt b) {l1 : Int32} {l2 : Int32} {r : Int32} {s0 : Int32}  (h : (vp_in s0 8) ∧ (rn E (d + 1) 25 K 2 [.ref b, .int l1, .int (l2 + (nI 1))] [] (am_si mi (b + 8) (Int32.toNatClampNeg s0) r) ml)) : rn E (d + 1) 25 K 27 [.ref b, .int l1, .int l2] [.int r, .int s0, .ref (b + 8)] mi ml :=
  (r_iast (f_25 rfl) (bt_a8 hb) h.1 (r_iinc (L' := [.ref b, .int l1, .int (l2 + (nI 1))]) (f_25 rfl) rfl rfl kc_1 rfl (r_goto (f_25 rfl) h.2)))
theorem en_X0_content {E : am_E} {d : Nat} {K : am_K} {mi : Nat → Nat → Int32} {ml : Nat → Nat → Int64} {b : Nat} (hb : bt b) {x1 : Int32} {x2 : Int32}  (h : rn E (d + 1) 26 K 5 [.ref b, .int x1, .int x2, .int (nI 0), .int (nI 0)] [] mi ml) : cq E (d + 2) 26 [.ref b, .int x1, .int x2] K mi ml :=
  r_ent (L' := [.ref b, .int x1, .int x2, am_mk, am_mk]) rfl rfl rfl rfl (r_iconst (f_26 rfl) kc_0 (r_istore_n (L' := [.ref b, .int x1, .int x2, .int (nI 0), am_mk]) (f_26 rfl) rfl rfl (r_iconst (f_26 rfl) kc_0 (r_istore (L' := [.ref b, .int x1, .int x2, .int (nI 0), .int (nI 0)]) (f_26 rfl) rfl rfl h))))
theorem rg_X0_content_5 {E : am_E} {d : Nat} {K : am_K} {mi : Nat → Nat → Int32} {ml : Nat → Nat → Int64} {b : Nat} (hb : bt b) {l1 : Int32} {l2 : Int32} {l3 : Int32} {l4 : Int32}  (h : ((mi b 5) ≤ l4 → (K (some (.int l3)) (S0, mi, ml))) ∧ (¬ ((mi b 5) ≤ l4) → ((((l1 >>> ms l4) &&& (nI 1)) = (nI 0) → (rn E (d + 1) 26 K 5 [.ref b, .int l1, .int l2, .int l3, .int (l4 + (nI 1))] [] mi ml)) ∧ (¬ (((l1 >>> ms l4) &&& (nI 1)) = (nI 0)) → ((vp_in l4 8) ∧ ((vp_in l4 8) ∧ (((bc ((mi (b + 6) (Int32.toNatClampNeg l4)) &&& l2)) < (mi (b + 8) (Int32.toNatClampNeg l4)) → (rn E (d + 1) 26 K 5 [.ref b, .int l1, .int l2, .int l3, .int (l4 + (nI 1))] [] mi ml)) ∧ (¬ ((bc ((mi (b + 6) (Int32.toNatClampNeg l4)) &&& l2)) < (mi (b + 8) (Int32.toNatClampNeg l4))) → (rn E (d + 1) 26 K 5 [.ref b, .int l1, .int l2, .int (l3 ||| ((nI 1) <<< ms l4)), .int (l4 + (nI 1))] [] mi ml))))))))) : rn E (d + 1) 26 K 5 [.ref b, .int l1, .int l2, .int l3, .int l4] [] mi ml :=
  (r_iload (f_26 rfl) rfl (r_aload_n (f_26 rfl) rfl (r_getI (f_26 rfl) rfl rfl (bt_sh hb) (r_ic_ge (f_26 rfl) (fun q1 => (r_iload_n (f_26 rfl) rfl (r_ret (f_26 rfl) rfl ⟨rfl, rfl⟩ trivial (h.1 q1)))) (fun q1 => (r_iload_n (f_26 rfl) rfl (r_iload (f_26 rfl) rfl (r_ishr (f_26 rfl) (r_iconst (f_26 rfl) kc_1 (r_iand (f_26 rfl) (r_if_eq (f_26 rfl) (fun q2 => (r_iinc (L' := [.ref b, .int l1, .int l2, .int l3, .int (l4 + (nI 1))]) (f_26 rfl) rfl rfl kc_1 rfl (r_goto (f_26 rfl) ((h.2 q1).1 q2)))) (fun q2 => (r_aload_n (f_26 rfl) rfl (r_getR (f_26 rfl) rfl rfl (bt_sh hb) (bt_r13 hb) (r_iload (f_26 rfl) rfl (r_iald (f_26 rfl) (bt_a6 hb) ((h.2 q1).2 q2).1 (r_iload_n (f_26 rfl) rfl (r_iand (f_26 rfl) (r_callS (y' := 324) (as := [.int ((mi (b + 6) (Int32.toNatClampNeg l4)) &&& l2)]) (rest := []) (f_26 rfl) rfl rfl rfl rfl rfl ⟨rfl, rfl⟩ trivial (s_bitCount (r_aload_n (f_26 rfl) rfl (r_getR (f_26 rfl) rfl rfl (bt_sh hb) (bt_r15 hb) (r_iload (f_26 rfl) rfl (r_iald (f_26 rfl) (bt_a8 hb) ((h.2 q1).2 q2).2.1 (r_ic_lt (f_26 rfl) (fun q3 => (r_iinc (L' := [.ref b, .int l1, .int l2, .int l3, .int (l4 + (nI 1))]) (f_26 rfl) rfl rfl kc_1 rfl (r_goto (f_26 rfl) (((h.2 q1).2 q2).2.2.1 q3)))) (fun q3 => (r_iload_n (f_26 rfl) rfl (r_iconst (f_26 rfl) kc_1 (r_iload (f_26 rfl) rfl (r_ishl (f_26 rfl) (r_ior (f_26 rfl) (r_istore_n (L' := [.ref b, .int l1, .int l2, .int (l3 ||| ((nI 1) <<< ms l4)), .int l4]) (f_26 rfl) rfl rfl (r_iinc (L' := [.ref b, .int l1, .int l2, .int (l3 ||| ((nI 1) <<< ms l4)), .int (l4 + (nI 1))]) (f_26 rfl) rfl rfl kc_1 rfl (r_goto (f_26 rfl) (((h.2 q1).2 q2).2.2.2 q3)))))))))))))))))))))))))))))))))))
theorem en_X0_upBehind {E : am_E} {d : Nat} {K : am_K} {mi : Nat → Nat → Int32} {ml : Nat → Nat → Int64} {b : Nat} (hb : bt b) {x1 : Int32} {x2 : Int32} {x3 : Int32}  (h : rn E (d + 2) 27 K 6 [.ref b, .int x1, am_mk, .int x3, .int x2, .int (nI 0), am_mk] [] mi ml) : cq E (d + 3) 27 [.ref b, .int x1, .int x2, .int x3] K mi ml :=
  r_ent (L' := [.ref b, .int x1, .int x2, .int x3, am_mk, am_mk, am_mk]) rfl rfl rfl rfl (r_iload_n (f_27 rfl) rfl (r_istore (L' := [.ref b, .int x1, .int x2, .int x3, .int x2, am_mk, am_mk]) (f_27 rfl) rfl rfl (r_iconst (f_27 rfl) kc_0 (r_istore (L' := [.ref b, .int x1, .int x2, .int x3, .int x2, .int (nI 0), am_mk]) (f_27 rfl) rfl rfl (r_weak (am_le_cons (am_le_cons (am_le_mk (am_le_cons (am_le_cons (am_le_cons (am_le_cons am_le_nil))))))) h)))))
theorem rg_X0_upBehind_6 {E : am_E} {d : Nat} {K : am_K} {mi : Nat → Nat → Int32} {ml : Nat → Nat → Int64} {b : Nat} (hb : bt b) {l1 : Int32} {l3 : Int32} {l4 : Int32} {l5 : Int32}  (h : (l3 ≤ l5 → (K (some (.int l4)) (S0, mi, ml))) ∧ (¬ (l3 ≤ l5) → (cq E (d + 2) 26 [.ref b, .int l1, .int l4] (kc E (d + 2) 27 K 21 [.ref b, .int l1, am_mk, .int l3, .int l4, .int l5, am_mk] [.int l4]) mi ml))) : rn E (d + 2) 27 K 6 [.ref b, .int l1, am_mk, .int l3, .int l4, .int l5, am_mk] [] mi ml :=
  (r_iload (f_27 rfl) rfl (r_iload_n (f_27 rfl) rfl (r_ic_ge (f_27 rfl) (fun q1 => (r_iload (f_27 rfl) rfl (r_ret (f_27 rfl) rfl ⟨rfl, rfl⟩ trivial (h.1 q1)))) (fun q1 => (r_iload (f_27 rfl) rfl (r_aload_n (f_27 rfl) rfl (r_iload_n (f_27 rfl) rfl (r_iload (f_27 rfl) rfl (r_callV (y' := 26) (as := [.ref b, .int l1, .int l4]) (rest := [.int l4]) (f_27 rfl) rfl rfl rfl rfl rfl ⟨rfl, rfl⟩ (bt_sh hb) (h.2 q1))))))))))
theorem rg_X0_upBehind_21 {E : am_E} {d : Nat} {K : am_K} {mi : Nat → Nat → Int32} {ml : Nat → Nat → Int64} {b : Nat} (hb : bt b) {l1 : Int32} {l3 : Int32} {l4 : Int32} {l5 : Int32} {r : Int32} {s0 : Int32}  (h : (¬ (s0 ||| r) = l4 → (rn E (d + 2) 27 K 6 [.ref b, .int l1, am_mk, .int l3, .int (s0 ||| r), .int (l5 + (nI 1)), am_mk] [] mi ml)) ∧ (¬ (¬ (s0 ||| r) = l4) → (K (some (.int l4)) (S0, mi, ml)))) : rn E (d + 2) 27 K 21 [.ref b, .int l1, am_mk, .int l3, .int l4, .int l5, am_mk] [.int r, .int s0] mi ml :=
  (r_ior (f_27 rfl) (r_istore (L' := [.ref b, .int l1, am_mk, .int l3, .int l4, .int l5, .int (s0 ||| r)]) (f_27 rfl) rfl rfl (r_iload (f_27 rfl) rfl (r_iload (f_27 rfl) rfl (r_ic_ne (f_27 rfl) (fun q1 => (r_iload (f_27 rfl) rfl (r_istore (L' := [.ref b, .int l1, am_mk, .int l3, .int (s0 ||| r), .int l5, .int (s0 ||| r)]) (f_27 rfl) rfl rfl (r_iinc (L' := [.ref b, .int l1, am_mk, .int l3, .int (s0 ||| r), .int (l5 + (nI 1)), .int (s0 ||| r)]) (f_27 rfl) rfl rfl kc_1 rfl (r_goto (f_27 rfl) (r_weak (am_le_cons (am_le_cons (am_le_cons (am_le_cons (am_le_cons (am_le_cons (am_le_mk am_le_nil))))))) (h.1 q1))))))) (fun q1 => (r_goto (f_27 rfl) (r_iload (f_27 rfl) rfl (r_ret (f_27 rfl) rfl ⟨rfl, rfl⟩ trivial (h.2 q1))))))))))
theorem en_X0_outOf {E : am_E} {d : Nat} {K : am_K} {mi : Nat → Nat → Int32} {ml : Nat → Nat → Int64} {b : Nat} (hb : bt b) {x1 : Int32} {x2 : Int32}  (h : cq E (d + 3) 25 [.ref b, .int x2] (kc E (d + 3) 28 K 5 [.ref b, .int x1, am_mk] []) mi ml) : cq E (d + 4) 28 [.ref b, .int x1, .int x2] K mi ml :=
  r_ent (L' := [.ref b, .int x1, .int x2]) rfl rfl rfl rfl (r_aload_n (f_28 rfl) rfl (r_iload_n (f_28 rfl) rfl (r_callV (y' := 25) (as := [.ref b, .int x2]) (rest := []) (f_28 rfl) rfl rfl rfl rfl rfl ⟨rfl, rfl⟩ (bt_sh hb) (cq_mono (fun _ _ q => am_wp_weak (am_call_mono _) (am_le_cons (am_le_cons (am_le_mk am_le_nil))) q) h))))
theorem rg_X0_outOf_5 {E : am_E} {d : Nat} {K : am_K} {mi : Nat → Nat → Int32} {ml : Nat → Nat → Int64} {b : Nat} (hb : bt b) {l1 : Int32}  (h : cq E (d + 3) 27 [.ref b, .int l1, .int (nI 0), .int (mi b 0)] (kc E (d + 3) 28 K 15 [am_mk, am_mk, am_mk] []) mi ml) : rn E (d + 3) 28 K 5 [.ref b, .int l1, am_mk] [] mi ml :=
  (r_aload_n (f_28 rfl) rfl (r_iload_n (f_28 rfl) rfl (r_iconst (f_28 rfl) kc_0 (r_aload_n (f_28 rfl) rfl (r_getI (f_28 rfl) rfl rfl (bt_sh hb) (r_callV (y' := 27) (as := [.ref b, .int l1, .int (nI 0), .int (mi b 0)]) (rest := []) (f_28 rfl) rfl rfl rfl rfl rfl ⟨rfl, rfl⟩ (bt_sh hb) (cq_mono (fun _ _ q => am_wp_weak (am_call_mono _) (am_le_mk (am_le_mk (am_le_cons am_le_nil))) q) h)))))))
theorem rg_X0_outOf_15 {E : am_E} {d : Nat} {K : am_K} {mi : Nat → Nat → Int32} {ml : Nat → Nat → Int64} {b : Nat} (hb : bt b) {r : Int32}  (h : K (some (.int r)) (S0, mi, ml)) : rn E (d + 3) 28 K 15 [am_mk, am_mk, am_mk] [.int r] mi ml :=
  (r_ret (f_28 rfl) rfl ⟨rfl, rfl⟩ trivial h)
theorem en_X0_makeCall {E : am_E} {d : Nat} {K : am_K} {mi : Nat → Nat → Int32} {ml : Nat → Nat → Int64} {b : Nat} (hb : bt b)  (h : cq E (d + 3) 25 [.ref b, .int (mi b 6)] (kc E (d + 3) 30 K 8 [.ref b, am_mk, am_mk] []) mi ml) : cq E (d + 4) 30 [.ref b] K mi ml :=
  r_ent (L' := [.ref b, am_mk, am_mk]) rfl rfl rfl rfl (r_aload_n (f_30 rfl) rfl (r_aload_n (f_30 rfl) rfl (r_getI (f_30 rfl) rfl rfl (bt_sh hb) (r_callV (y' := 25) (as := [.ref b, .int (mi b 6)]) (rest := []) (f_30 rfl) rfl rfl rfl rfl rfl ⟨rfl, rfl⟩ (bt_sh hb) h))))
theorem rg_X0_makeCall_36 {E : am_E} {d : Nat} {K : am_K} {mi : Nat → Nat → Int32} {ml : Nat → Nat → Int64} {b : Nat} (hb : bt b) {l1 : Int32} {l2 : Int32}  (h : ((mi b 5) ≤ l2 → (K (some (.int l1)) (S0, am_si mi b 3 ((mi b 3) + (nI 1)), ml))) ∧ (¬ ((mi b 5) ≤ l2) → (((((mi b 7) >>> ms l2) &&& (nI 1)) = (nI 0) → (rn E (d + 3) 30 K 36 [.ref b, .int l1, .int (l2 + (nI 1))] [] mi ml)) ∧ (¬ ((((mi b 7) >>> ms l2) &&& (nI 1)) = (nI 0)) → ((vp_in l2 8) ∧ ((vp_in l2 8) ∧ ((vp_in l2 8) ∧ ((vp_in l2 8) ∧ (rn E (d + 3) 30 K 36 [.ref b, .int l1, .int (l2 + (nI 1))] [] (am_si (am_si mi (b + 3) (Int32.toNatClampNeg l2) (if (nI 9) < ((mi (b + 3) (Int32.toNatClampNeg l2)) + (mi b 1)) then (nI 9) else ((mi (b + 3) (Int32.toNatClampNeg l2)) + (mi b 1)))) (b + 4) (Int32.toNatClampNeg l2) (((am_si mi (b + 3) (Int32.toNatClampNeg l2) (if (nI 9) < ((mi (b + 3) (Int32.toNatClampNeg l2)) + (mi b 1)) then (nI 9) else ((mi (b + 3) (Int32.toNatClampNeg l2)) + (mi b 1)))) (b + 4) (Int32.toNatClampNeg l2)) + (nI 1))) ml))))))))) : rn E (d + 3) 30 K 36 [.ref b, .int l1, .int l2] [] mi ml :=
  (r_iload_n (f_30 rfl) rfl (r_aload_n (f_30 rfl) rfl (r_getI (f_30 rfl) rfl rfl (bt_sh hb) (r_ic_ge (f_30 rfl) (fun q1 => (r_aload_n (f_30 rfl) rfl (r_dupR (f_30 rfl) (r_getI (f_30 rfl) rfl rfl (bt_sh hb) (r_iconst (f_30 rfl) kc_1 (r_iadd (f_30 rfl) (r_putI (f_30 rfl) rfl rfl rfl (bt_sh hb) trivial (r_iload_n (f_30 rfl) rfl (r_ret (f_30 rfl) rfl ⟨rfl, rfl⟩ trivial (h.1 q1)))))))))) (fun q1 => (r_aload_n (f_30 rfl) rfl (r_iload_n (f_30 rfl) rfl (r_callV (y' := 11) (as := [.ref b, .int l2]) (rest := []) (f_30 rfl) rfl rfl rfl rfl rfl ⟨rfl, rfl⟩ (bt_sh hb) (r_ent (L' := [.ref b, .int l2]) rfl rfl rfl rfl (r_aload_n (f_11 rfl) rfl (r_getI (f_11 rfl) rfl rfl (bt_sh hb) (r_iload_n (f_11 rfl) rfl (r_ishr (f_11 rfl) (r_iconst (f_11 rfl) kc_1 (r_iand (f_11 rfl) (r_if_eq (f_11 rfl) (fun q2 => (r_iconst (f_11 rfl) kc_0 (r_ret (f_11 rfl) rfl ⟨rfl, rfl⟩ (Or.inl rfl) (r_if_eq (f_30 rfl) (fun _ => (r_iinc (L' := [.ref b, .int l1, .int (l2 + (nI 1))]) (f_30 rfl) rfl rfl kc_1 rfl (r_goto (f_30 rfl) ((h.2 q1).1 q2)))) (fun q => absurd (by decide) q))))) (fun q2 => (r_iconst (f_11 rfl) kc_1 (r_goto (f_11 rfl) (r_ret (f_11 rfl) rfl ⟨rfl, rfl⟩ (Or.inr rfl) (r_if_eq (f_30 rfl) (fun q => absurd q (by decide)) (fun _ => (r_aload_n (f_30 rfl) rfl (r_getR (f_30 rfl) rfl rfl (bt_sh hb) (bt_r10 hb) (r_iload_n (f_30 rfl) rfl (r_aload_n (f_30 rfl) rfl (r_getR (f_30 rfl) rfl rfl (bt_sh hb) (bt_r10 hb) (r_iload_n (f_30 rfl) rfl (r_iald (f_30 rfl) (bt_a3 hb) ((h.2 q1).2 q2).1 (r_aload_n (f_30 rfl) rfl (r_getI (f_30 rfl) rfl rfl (bt_sh hb) (r_iadd (f_30 rfl) (r_bipush (f_30 rfl) kb_9 (r_min (f_30 rfl) rfl rfl (r_iast (f_30 rfl) (bt_a3 hb) ((h.2 q1).2 q2).2.1 (r_aload_n (f_30 rfl) rfl (r_getR (f_30 rfl) rfl rfl (bt_sh hb) (bt_r11 hb) (r_iload_n (f_30 rfl) rfl (r_dup2R (f_30 rfl) (r_iald (f_30 rfl) (bt_a4 hb) ((h.2 q1).2 q2).2.2.1 (r_iconst (f_30 rfl) kc_1 (r_iadd (f_30 rfl) (r_iast (f_30 rfl) (bt_a4 hb) ((h.2 q1).2 q2).2.2.2.1 (r_iinc (L' := [.ref b, .int l1, .int (l2 + (nI 1))]) (f_30 rfl) rfl rfl kc_1 rfl (r_goto (f_30 rfl) ((h.2 q1).2 q2).2.2.2.2)))))))))))))))))))))))))))))))))))))))))))))
theorem rg_X0_makeCall_8 {E : am_E} {d : Nat} {K : am_K} {mi : Nat → Nat → Int32} {ml : Nat → Nat → Int64} {b : Nat} (hb : bt b)  (h : cq E (d + 3) 27 [.ref b, .int (mi b 7), .int (nI 0), .int (mi b 0)] (kc E (d + 3) 30 K 21 [.ref b, am_mk, am_mk] []) mi ml) : rn E (d + 3) 30 K 8 [.ref b, am_mk, am_mk] [] mi ml :=
  (r_aload_n (f_30 rfl) rfl (r_aload_n (f_30 rfl) rfl (r_getI (f_30 rfl) rfl rfl (bt_sh hb) (r_iconst (f_30 rfl) kc_0 (r_aload_n (f_30 rfl) rfl (r_getI (f_30 rfl) rfl rfl (bt_sh hb) (r_callV (y' := 27) (as := [.ref b, .int (mi b 7), .int (nI 0), .int (mi b 0)]) (rest := []) (f_30 rfl) rfl rfl rfl rfl rfl ⟨rfl, rfl⟩ (bt_sh hb) h)))))))
theorem rg_X0_makeCall_21 {E : am_E} {d : Nat} {K : am_K} {mi : Nat → Nat → Int32} {ml : Nat → Nat → Int64} {b : Nat} (hb : bt b) {r : Int32}  (h : rn E (d + 3) 30 K 36 [.ref b, .int r, .int (nI 0)] [] (am_si mi b 7 ((mi b 7) &&& (r ^^^ nM))) ml) : rn E (d + 3) 30 K 21 [.ref b, am_mk, am_mk] [.int r] mi ml :=
  (r_istore_n (L' := [.ref b, .int r, am_mk]) (f_30 rfl) rfl rfl (r_aload_n (f_30 rfl) rfl (r_dupR (f_30 rfl) (r_getI (f_30 rfl) rfl rfl (bt_sh hb) (r_iload_n (f_30 rfl) rfl (r_iconst (f_30 rfl) kc_m1 (r_ixor (f_30 rfl) (r_iand (f_30 rfl) (r_putI (f_30 rfl) rfl rfl rfl (bt_sh hb) trivial (r_iconst (f_30 rfl) kc_0 (r_istore_n (L' := [.ref b, .int r, .int (nI 0)]) (f_30 rfl) rfl rfl h)))))))))))
end
section
/-! The abstract boat: a k as the reference lays it (0 omens, 1 people, 2 plank, 3 habit, 4 odds, 5 calls, 6 shown, 7 out, 10.. pulls, 16+4p hold, sat, excused, blind); the class's boat at b holds it. -/
def seesA (a : Nat → Nat) (p : Nat) : Nat := ndif (ndif (2 ^ a 1 - 1) (a (19 + 4 * p))) (1 <<< p)
def aboA (a : Nat → Nat) : Nat := ndif (2 ^ a 1 - 1) (a 7)
def WA (a : Nat → Nat) : Prop := (a 0 ≤ 6 ∧ a 1 ≤ 8 ∧ 1 ≤ a 2 ∧ a 2 ≤ 9 ∧ a 3 ≤ 3 ∧ a 4 ≤ 16 ∧ a 5 ≤ 99999 ∧ a 6 < 2 ^ a 0 ∧ a 7 < 2 ^ a 1) ∧ (∀ o, o < a 0 → 1 ≤ a (10 + o) ∧ a (10 + o) ≤ 5) ∧ (∀ p, p < a 1 → a (16 + 4 * p) ≤ 9 ∧ a (17 + 4 * p) ≤ 99999 ∧ a (18 + 4 * p) < 2 ^ a 0 ∧ a (19 + 4 * p) < 2 ^ a 1 ∧ (a (19 + 4 * p)).testBit p = false)
def CB (b : Nat) (a : Nat → Nat) (mi : Nat → Nat → Int32) : Prop := (mi b 0 = nI (a 2) ∧ mi b 1 = nI (a 3) ∧ mi b 2 = nI (a 4) ∧ mi b 3 = nI (a 5) ∧ mi b 4 = nI (a 0) ∧ mi b 5 = nI (a 1) ∧ mi b 6 = nI (a 6) ∧ mi b 7 = nI (aboA a)) ∧ (∀ o, o < a 0 → mi (b + 1) o = nI (a (10 + o))) ∧ (∀ p, p < a 1 → mi (b + 3) p = nI (a (16 + 4 * p)) ∧ mi (b + 4) p = nI (a (17 + 4 * p)) ∧ mi (b + 5) p = nI (a (18 + 4 * p)) ∧ mi (b + 6) p = nI (seesA a p))
/-- all cells but one are as they were -/
def fr1 (c : Nat) (mi mi' : Nat → Nat → Int32) : Prop := ∀ k, k ≠ c → mi' k = mi k
theorem fr1_rfl {c : Nat} {mi : Nat → Nat → Int32} : fr1 c mi mi := fun _ _ => rfl
theorem fr1_tr {c : Nat} {mi mi' mi'' : Nat → Nat → Int32} (h : fr1 c mi mi') (h2 : fr1 c mi' mi'') : fr1 c mi mi'' := fun k hk => by rw [h2 k hk, h k hk]
theorem CB_fr {b : Nat} {a : Nat → Nat} {mi mi' : Nat → Nat → Int32} (h : CB b a mi) (hf : fr1 (b + 8) mi mi') : CB b a mi' := by
  unfold CB at *
  rw [hf b (by omega), hf (b + 1) (by omega), hf (b + 3) (by omega), hf (b + 4) (by omega), hf (b + 5) (by omega), hf (b + 6) (by omega)]
  exact h
theorem WA_p2 {a : Nat → Nat} (h : WA a) : 2 ^ a 0 ≤ 64 ∧ 2 ^ a 1 ≤ 256 := ⟨p2_le (k := 6) h.1.1, p2_le (k := 8) h.1.2.1⟩
theorem p2_pos (n : Nat) : 1 ≤ 2 ^ n := Nat.one_le_two_pow
theorem all_lt (n : Nat) : 2 ^ n - 1 < 2 ^ n := by have := p2_pos n; omega
theorem sees_lt {a : Nat → Nat} (h : WA a) (p : Nat) : seesA a p < 256 := Nat.lt_of_lt_of_le (dif_lt (dif_lt (all_lt _))) (WA_p2 h).2
theorem abo_lt {a : Nat → Nat} (h : WA a) : aboA a < 256 := Nat.lt_of_lt_of_le (dif_lt (all_lt _)) (WA_p2 h).2
theorem abo_lt2 (a : Nat → Nat) : aboA a < 2 ^ a 1 := dif_lt (all_lt _)
theorem tb_abo (a : Nat → Nat) (p : Nat) : (aboA a).testBit p = (decide (p < a 1) && !(a 7).testBit p) := by
  unfold aboA
  rw [tb_dif, tb_all]
theorem tb_sees (a : Nat → Nat) (p q : Nat) : (seesA a p).testBit q = (decide (q < a 1) && !(a (19 + 4 * p)).testBit q && !decide (q = p)) := by
  unfold seesA
  rw [tb_dif, tb_dif, tb_all, tb_1shl]
/-- the pull of a set of omens on who excuses x -/
def pullS (a : Nat → Nat) (x s : Nat) (n : Nat) : Nat := nsum (fun o => if (ndif s x).testBit o then a (10 + o) else 0) n
theorem pullS_s (a : Nat → Nat) (x s i : Nat) : pullS a x s (i + 1) = pullS a x s i + (if (ndif s x).testBit i then a (10 + i) else 0) := rfl
theorem pullS_le {a : Nat → Nat} (h : WA a) (x s : Nat) : ∀ {n}, n ≤ a 0 → pullS a x s n ≤ 30 := by
  intro n hn
  have h1 : nsum (fun o => if (ndif s x).testBit o then a (10 + o) else 0) n ≤ n * 5 := nsum_bd (fun k hk => by
    split
    · exact (h.2.1 k (by omega)).2
    · omega)
  have := h.1.1
  have : n * 5 ≤ 6 * 5 := Nat.mul_le_mul_right 5 (by omega)
  unfold pullS
  omega
def needF (a : Nat → Nat) (h x s : Nat) : Nat := h - pullS a x s (a 0)
def needA (a : Nat → Nat) (s p : Nat) : Nat := needF a (a (16 + 4 * p)) (a (18 + 4 * p)) s
theorem needF_le (a : Nat → Nat) {h : Nat} (x s : Nat) (hh : h ≤ 9) : needF a h x s ≤ 9 := by unfold needF; omega
theorem s_needWith {E : am_E} {d : Nat} {K : am_K} {mi : Nat → Nat → Int32} {ml : Nat → Nat → Int64} {b : Nat} (hb : bt b) {a : Nat → Nat} (hC : CB b a mi) (hW : WA a) {h p s : Nat} (hh : h ≤ 9) (hp : p < a 1) (hs : s < 64) (hk : K (some (.int (nI (needF a h (a (18 + 4 * p)) s)))) (S0, mi, ml)) : cq E (d + 1) 23 [.ref b, .int (nI h), .int (nI p), .int (nI s)] K mi ml := by
  obtain ⟨⟨c0, c1, c2, c3, c4, c5, c6, c7⟩, cp, cq⟩ := hC
  have w0 := hW.1.1
  have w1 := hW.1.2.1
  obtain ⟨-, -, cx, -⟩ := cq p hp
  generalize a (18 + 4 * p) = x at *
  have hf : ndif s x < 64 := dif_lt (n := 6) hs
  have key : ∀ i, i ≤ a 0 → rn E d 23 K 18 [.ref b, am_mk, am_mk, am_mk, .int (nI (ndif s x)), .int (nI h - nI (pullS a x s i)), .int (nI i)] [] mi ml := dn_ind (a 0) (by
    intro i hi ih
    have hl := pullS_le hW x s hi
    apply rg_X0_needWith_18 hb
    simp (disch := omega) only [ni_lt, ni_le, ni_eq, ni_cl, ni_in, nI_add, ni_mul, ni_and, ni_or, ni_xor, ni_dif, ni_bit, ni_b0, ni_b1, ni_nM, nM_ni, nM_lt, lt_nM, nM_le, le_nM, ni_lt0, ni_shl, Nat.zero_add, not_true_eq_false, not_false_eq_true, true_implies, false_implies, true_and, and_true, forall_const, c4, ni_le0]
    refine ⟨fun q => ?_, fun q => ?_⟩
    · have e : i = a 0 := by omega
      subst e
      refine ⟨fun q2 => ?_, fun q2 => ?_⟩
      · have : needF a h x s = 0 := by unfold needF; omega
        rw [← this]; exact hk
      · rw [ni_sub (by omega)]; exact hk
    · have ih := ih (by omega)
      refine ⟨fun q2 => ?_, fun q2 => ⟨by omega, ?_⟩⟩
      · have : pullS a x s (i + 1) = pullS a x s i := by
          rw [pullS_s, if_neg (by rw [q2]; decide)]; rfl
        rw [this] at ih
        exact ih
      · rw [cp i (by omega), nI_subsub]
        have : pullS a x s (i + 1) = pullS a x s i + a (10 + i) := by
          rw [pullS_s, if_pos (by simpa using q2)]
        rw [this] at ih
        exact ih)
  apply en_X0_needWith hb
  simp (disch := omega) only [ni_lt, ni_le, ni_eq, ni_cl, ni_in, nI_add, ni_mul, ni_and, ni_or, ni_xor, ni_dif, ni_bit, ni_b0, ni_b1, ni_nM, nM_ni, nM_lt, lt_nM, nM_le, le_nM, ni_lt0, ni_shl, Nat.zero_add, not_true_eq_false, not_false_eq_true, true_implies, false_implies, true_and, and_true, forall_const, cx]
  refine ⟨by omega, ?_⟩
  have := key 0 (by omega)
  rw [show nI h - nI (pullS a x s 0) = nI h from by rw [ni_sub (by exact Nat.zero_le _)]; rfl] at this
  exact this
/-- the needs that were measured lie in the cell b + 8 -/
def NB (b : Nat) (a : Nat → Nat) (s : Nat) (mi : Nat → Nat → Int32) : Prop := ∀ p, p < a 1 → mi (b + 8) p = nI (needA a s p)
theorem s_measure {E : am_E} {d : Nat} {K : am_K} {mi : Nat → Nat → Int32} {ml : Nat → Nat → Int64} {b : Nat} (hb : bt b) {a : Nat → Nat} (hC : CB b a mi) (hW : WA a) {s : Nat} (hs : s < 64) (hk : ∀ mi', fr1 (b + 8) mi mi' → CB b a mi' → NB b a s mi' → K none (S0, mi', ml)) : cq E (d + 2) 25 [.ref b, .int (nI s)] K mi ml := by
  have w1 := hW.1.2.1
  have key : ∀ i, i ≤ a 1 → ∀ mi', fr1 (b + 8) mi mi' → (∀ p, p < i → mi' (b + 8) p = nI (needA a s p)) → rn E (d + 1) 25 K 2 [.ref b, .int (nI s), .int (nI i)] [] mi' ml := dn_ind (a 1) (by
    intro i hi ih mi' hf hn
    have hC' := CB_fr hC hf
    obtain ⟨⟨c0, c1, c2, c3, c4, c5, c6, c7⟩, cp, cr⟩ := id hC'
    apply rg_X0_measureNeeds_2 hb
    simp (disch := omega) only [ni_lt, ni_le, ni_eq, ni_cl, ni_in, nI_add, ni_mul, ni_and, ni_or, ni_xor, ni_dif, ni_bit, ni_b0, ni_b1, ni_nM, nM_ni, nM_lt, lt_nM, nM_le, le_nM, ni_lt0, ni_shl, Nat.zero_add, not_true_eq_false, not_false_eq_true, true_implies, false_implies, true_and, and_true, forall_const, c5]
    refine ⟨fun q => ?_, fun q => ⟨by omega, ?_⟩⟩
    · exact hk mi' hf hC' (fun p hp => hn p (by omega))
    · have ih := ih (by omega)
      obtain ⟨ch, -, -, -⟩ := cr i (by omega)
      have hw := (hW.2.2 i (by omega)).1
      rw [ch]
      apply s_needWith hb hC' hW hw (by omega) hs
      apply rg_X0_measureNeeds_27 hb
      simp (disch := omega) only [ni_lt, ni_le, ni_eq, ni_cl, ni_in, nI_add, ni_mul, ni_and, ni_or, ni_xor, ni_dif, ni_bit, ni_b0, ni_b1, ni_nM, nM_ni, nM_lt, lt_nM, nM_le, le_nM, ni_lt0, ni_shl, Nat.zero_add, not_true_eq_false, not_false_eq_true, true_implies, false_implies, true_and, and_true, forall_const]
      refine ⟨by omega, ih _ ?_ ?_⟩
      · intro k hk
        rw [← hf k hk]
        funext j
        show (if k = b + 8 then _ else _) = _
        rw [if_neg hk]
      · intro p hp
        show (if b + 8 = b + 8 then _ else _) = _
        rw [if_pos rfl]
        split
        · next e => subst e; rfl
        · exact hn p (by omega))
  apply en_X0_measureNeeds hb
  exact key 0 (by omega) mi fr1_rfl (fun p hp => absurd hp (Nat.not_lt_zero _))
def contA (a : Nat → Nat) (s c up : Nat) : Nat := bset (fun p => c.testBit p && decide (needA a s p ≤ pc (seesA a p &&& up))) (a 1)
theorem and_lt {x y n : Nat} (h : x < n) : x &&& y < n := Nat.lt_of_le_of_lt Nat.and_le_left h
theorem needA_le {a : Nat → Nat} (hW : WA a) (s : Nat) {p : Nat} (hp : p < a 1) : needA a s p ≤ 9 := needF_le _ _ _ (hW.2.2 p hp).1
theorem s_content {E : am_E} {d : Nat} {K : am_K} {mi : Nat → Nat → Int32} {ml : Nat → Nat → Int64} {b : Nat} (hb : bt b) {a : Nat → Nat} (hC : CB b a mi) (hW : WA a) {s c up : Nat} (hN : NB b a s mi) (hc : c < 256) (hk : K (some (.int (nI (contA a s c up)))) (S0, mi, ml)) : cq E (d + 2) 26 [.ref b, .int (nI c), .int (nI up)] K mi ml := by
  obtain ⟨⟨c0, c1, c2, c3, c4, c5, c6, c7⟩, cp, cr⟩ := hC
  have w1 := hW.1.2.1
  have key : ∀ i, i ≤ a 1 → rn E (d + 1) 26 K 5 [.ref b, .int (nI c), .int (nI up), .int (nI (bset (fun p => c.testBit p && decide (needA a s p ≤ pc (seesA a p &&& up))) i)), .int (nI i)] [] mi ml := dn_ind (a 1) (by
    intro i hi ih
    apply rg_X0_content_5 hb
    simp (disch := omega) only [ni_lt, ni_le, ni_eq, ni_cl, ni_in, nI_add, ni_mul, ni_and, ni_or, ni_xor, ni_dif, ni_bit, ni_b0, ni_b1, ni_nM, nM_ni, nM_lt, lt_nM, nM_le, le_nM, ni_lt0, ni_shl, Nat.zero_add, not_true_eq_false, not_false_eq_true, true_implies, false_implies, true_and, and_true, forall_const, c5]
    refine ⟨fun q => ?_, fun q => ?_⟩
    · have e : i = a 1 := by omega
      subst e
      exact hk
    · have ih := ih (by omega)
      rw [bset_if] at ih
      obtain ⟨-, -, -, cs⟩ := cr i (by omega)
      have hs := sees_lt hW i
      have hn := needA_le hW s (show i < a 1 by omega)
      have hpc := pc_le (seesA a i &&& up)
      have hl := and_lt (y := up) hs
      rw [cs, hN i (by omega), ni_and, bc_pc (by omega)]
      simp (disch := omega) only [ni_lt, ni_le, ni_eq, ni_cl, ni_in, nI_add, ni_mul, ni_and, ni_or, ni_xor, ni_dif, ni_bit, ni_b0, ni_b1, ni_nM, nM_ni, nM_lt, lt_nM, nM_le, le_nM, ni_lt0, ni_shl, Nat.zero_add, not_true_eq_false, not_false_eq_true, true_implies, false_implies, true_and, and_true, forall_const]
      refine ⟨fun q2 => ?_, fun q2 => ⟨by omega, by omega, fun q3 => ?_, fun q3 => ?_⟩⟩
      · rw [q2] at ih
        simpa using ih
      · rw [show decide (needA a s i ≤ pc (seesA a i &&& up)) = false from decide_eq_false (by omega)] at ih
        simpa using ih
      · rw [show decide (needA a s i ≤ pc (seesA a i &&& up)) = true from decide_eq_true (by omega)] at ih
        simpa [q2] using ih)
  apply en_X0_content hb
  exact key 0 (by omega)
def riseA (a : Nat → Nat) (s c up : Nat) : Nat := up ||| contA a s c up
theorem cont_lt {a : Nat → Nat} (s c up : Nat) : contA a s c up < 2 ^ a 1 := bset_lt _ _
theorem rise_lt {a : Nat → Nat} {s c up : Nat} (h : up < 2 ^ a 1) : riseA a s c up < 2 ^ a 1 := Nat.or_lt_two_pow h (cont_lt s c up)
theorem itr_lt {a : Nat → Nat} {s c : Nat} : ∀ n {up}, up < 2 ^ a 1 → itr (riseA a s c) n up < 2 ^ a 1
  | 0, _, h => h
  | n + 1, _, h => itr_lt n (rise_lt h)
theorem s_upBehind {E : am_E} {d : Nat} {K : am_K} {mi : Nat → Nat → Int32} {ml : Nat → Nat → Int64} {b : Nat} (hb : bt b) {a : Nat → Nat} (hC : CB b a mi) (hW : WA a) {s c up m : Nat} (hN : NB b a s mi) (hc : c < 256) (hu : up < 2 ^ a 1) (hm : m < 100) (hk : K (some (.int (nI (itr (riseA a s c) m up)))) (S0, mi, ml)) : cq E (d + 3) 27 [.ref b, .int (nI c), .int (nI up), .int (nI m)] K mi ml := by
  have w := WA_p2 hW
  have key : ∀ i, i ≤ m → ∀ u, u < 2 ^ a 1 → itr (riseA a s c) (m - i) u = itr (riseA a s c) m up → rn E (d + 2) 27 K 6 [.ref b, .int (nI c), am_mk, .int (nI m), .int (nI u), .int (nI i), am_mk] [] mi ml := dn_ind m (by
    intro i hi ih u hu e
    apply rg_X0_upBehind_6 hb
    simp (disch := omega) only [ni_lt, ni_le, ni_eq, ni_cl, ni_in, nI_add, ni_mul, ni_and, ni_or, ni_xor, ni_dif, ni_bit, ni_b0, ni_b1, ni_nM, nM_ni, nM_lt, lt_nM, nM_le, le_nM, ni_lt0, ni_shl, Nat.zero_add, not_true_eq_false, not_false_eq_true, true_implies, false_implies, true_and, and_true, forall_const]
    refine ⟨fun q => ?_, fun q => ?_⟩
    · rw [show m - i = 0 by omega] at e
      rw [← e] at hk
      exact hk
    · apply s_content hb hC hW hN hc
      apply rg_X0_upBehind_21 hb
      have hr := rise_lt (s := s) (c := c) hu
      rw [ni_or]
      show (¬ nI (riseA a s c u) = nI u → rn E (d + 2) 27 K 6 [.ref b, .int (nI c), am_mk, .int (nI m), .int (nI (riseA a s c u)), .int (nI i + nI 1), am_mk] [] mi ml) ∧ (¬ ¬ nI (riseA a s c u) = nI u → _)
      simp (disch := omega) only [ni_lt, ni_le, ni_eq, ni_cl, ni_in, nI_add, ni_mul, ni_and, ni_or, ni_xor, ni_dif, ni_bit, ni_b0, ni_b1, ni_nM, nM_ni, nM_lt, lt_nM, nM_le, le_nM, ni_lt0, ni_shl, Nat.zero_add, not_true_eq_false, not_false_eq_true, true_implies, false_implies, true_and, and_true, forall_const]
      refine ⟨fun q2 => ?_, fun q2 => ?_⟩
      · refine ih (by omega) _ hr ?_
        rw [← e, show m - i = (m - (i + 1)) + 1 by omega]
        rfl
      · have : riseA a s c u = u := Classical.byContradiction q2
        rw [itr_fix this] at e
        rw [← e] at hk
        exact hk)
  apply en_X0_upBehind hb
  exact key 0 (by omega) up hu rfl
def outA (a : Nat → Nat) (c s : Nat) : Nat := itr (riseA a s c) (a 2) 0
theorem out_lt (a : Nat → Nat) (c s : Nat) : outA a c s < 2 ^ a 1 := itr_lt _ (by have := p2_pos (a 1); omega)
theorem s_outOf {E : am_E} {d : Nat} {K : am_K} {mi : Nat → Nat → Int32} {ml : Nat → Nat → Int64} {b : Nat} (hb : bt b) {a : Nat → Nat} (hC : CB b a mi) (hW : WA a) {s c : Nat} (hs : s < 64) (hc : c < 256) (hk : ∀ mi', fr1 (b + 8) mi mi' → CB b a mi' → K (some (.int (nI (outA a c s)))) (S0, mi', ml)) : cq E (d + 4) 28 [.ref b, .int (nI c), .int (nI s)] K mi ml := by
  have w2 := hW.1.2.2.2.1
  apply en_X0_outOf hb
  apply s_measure hb hC hW hs
  intro mi' hf hC' hN
  apply rg_X0_outOf_5 hb
  rw [hC'.1.1]
  apply s_upBehind hb hC' hW hN hc (by have := p2_pos (a 1); omega) (by omega)
  apply rg_X0_outOf_15 hb
  exact hk mi' hf hC'
end
