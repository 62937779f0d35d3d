/-! A small machine of our own: its memory is (shapes, references) and (ints, longs), keyed by cell number; a step is a condition on what follows; a body's meaning is the least fixed point. -/
abbrev am_Shp : Type := Nat ⊕ (FieldType × Nat)
abbrev am_M : Type := (List am_Shp × (Nat → Nat → Option Nat)) × (Nat → Nat → Int32) × (Nat → Nat → Int64)
abbrev am_K : Type := Option Value → am_M → Prop
abbrev am_R : Type := Nat → List Value → List Value → am_M → Prop
abbrev am_C : Type := Nat → List Value → am_M → am_K → Prop
/-- a method: own class, locals, return type, arguments (with this), kind (0 static, 1 virtual, 2 init), cells and slots that it makes -/
abbrev am_I : Type := Nat × Nat × Option FieldType × Nat × Nat × Nat × Nat
/-- the program: code, fields, methods, constants, classes (by own class and pool index), methods' rows, field types, finals, field counts, class names -/
abbrev am_P : Type := (Nat → Nat → Option (Instr × Nat × Nat)) × (Nat → Nat → Option (Nat × Nat)) × (Nat → Nat → Option Nat) × (Nat → Nat → Option Value) × (Nat → Nat → Option Nat) × (Nat → am_I) × (Nat → Nat → FieldType) × (Nat → Nat → Bool) × (Nat → Nat) × (Nat → String)
abbrev pCode (P : am_P) : Nat → Nat → Option (Instr × Nat × Nat) := P.1
abbrev pFld (P : am_P) : Nat → Nat → Option (Nat × Nat) := P.2.1
abbrev pMth (P : am_P) : Nat → Nat → Option Nat := P.2.2.1
abbrev pCst (P : am_P) : Nat → Nat → Option Value := P.2.2.2.1
abbrev pCls (P : am_P) : Nat → Nat → Option Nat := P.2.2.2.2.1
abbrev pInf (P : am_P) : Nat → am_I := P.2.2.2.2.2.1
abbrev pTy (P : am_P) : Nat → Nat → FieldType := P.2.2.2.2.2.2.1
abbrev pFin (P : am_P) : Nat → Nat → Bool := P.2.2.2.2.2.2.2.1
abbrev pNf (P : am_P) : Nat → Nat := P.2.2.2.2.2.2.2.2.1
abbrev pNm (P : am_P) : Nat → String := P.2.2.2.2.2.2.2.2.2
abbrev iOwn (i : am_I) : Nat := i.1
abbrev iMax (i : am_I) : Nat := i.2.1
abbrev iRet (i : am_I) : Option FieldType := i.2.2.1
abbrev iArg (i : am_I) : Nat := i.2.2.2.1
abbrev iKnd (i : am_I) : Nat := i.2.2.2.2.1
abbrev iCel (i : am_I) : Nat := i.2.2.2.2.2.1
abbrev iSlt (i : am_I) : Nat := i.2.2.2.2.2.2
/-- the world outside: the script, and the texts (how many, how long, their bytes) -/
abbrev am_E : Type := (Nat × (Nat → Int32)) × Nat × (Nat → Nat) × (Nat → Nat → Int32)
def am_mk : Value := .float 0
def am_isv (v : Value) : Bool := match v with
  | .int _ => true
  | .long _ => true
  | .ref _ => true
  | .retAddr _ => true
  | _ => false
def am_kd (ty : FieldType) : Nat := match ty with
  | .long => 1
  | .object _ => 2
  | .array _ => 2
  | .float => 3
  | .double => 3
  | _ => 0
def am_ldI (L : List Value) (k : Nat) (F : Value → Prop) : Prop := match L[k]? with
  | some (.int x) => F (.int x)
  | _ => False
def am_ldL (L : List Value) (k : Nat) (F : Value → Prop) : Prop := match L[k]? with
  | some (.long x) => F (.long x)
  | _ => False
def am_ldA (L : List Value) (k : Nat) (F : Value → Prop) : Prop := match L[k]? with
  | some (.ref x) => F (.ref x)
  | some (.retAddr x) => F (.retAddr x)
  | _ => False
def am_set (L : List Value) (k : Nat) (v : Value) : List Value := match k with
  | 0 => L.set 0 v
  | j + 1 => match L[j]? with
    | some (.long _) => (L.set j am_mk).set (j + 1) v
    | _ => L.set (j + 1) v
def am_set2 (L : List Value) (k : Nat) (v : Value) : List Value := (am_set L k v).set (k + 1) am_mk
def am_stI (L : List Value) (k : Nat) (st : List Value) (F : List Value → List Value → Prop) : Prop := match Nat.blt k L.length, st with
  | true, .int x :: st => F (am_set L k (.int x)) st
  | _, _ => False
def am_stL (L : List Value) (k : Nat) (st : List Value) (F : List Value → List Value → Prop) : Prop := match Nat.blt (k + 1) L.length, st with
  | true, .long x :: st => F (am_set2 L k (.long x)) st
  | _, _ => False
def am_stA (L : List Value) (k : Nat) (st : List Value) (F : List Value → List Value → Prop) : Prop := match Nat.blt k L.length, st with
  | true, .ref x :: st => F (am_set L k (.ref x)) st
  | true, .retAddr x :: st => F (am_set L k (.retAddr x)) st
  | _, _ => False
def am_i1 (st : List Value) (F : Int32 → List Value → Prop) : Prop := match st with
  | .int x :: st => F x st
  | _ => False
def am_i2 (st : List Value) (F : Int32 → Int32 → List Value → Prop) : Prop := match st with
  | .int y :: .int x :: st => F x y st
  | _ => False
def am_l1 (st : List Value) (F : Int64 → List Value → Prop) : Prop := match st with
  | .long x :: st => F x st
  | _ => False
def am_l2 (st : List Value) (F : Int64 → Int64 → List Value → Prop) : Prop := match st with
  | .long y :: .long x :: st => F x y st
  | _ => False
def am_li (st : List Value) (F : Int64 → Int32 → List Value → Prop) : Prop := match st with
  | .int y :: .long x :: st => F x y st
  | _ => False
def am_cnd (c : Jvm.ClassFile.Cond) (x y : Int32) : Prop := match c with
  | .eq => x = y
  | .ne => ¬ x = y
  | .lt => x < y
  | .ge => y ≤ x
  | .gt => y < x
  | .le => x ≤ y
/-- what a place of a kind may hold -/
def am_fit (ty : FieldType) (x : Int32) : Prop := match ty with
  | .int => True
  | .boolean => x = 0 ∨ x = 1
  | .char => narrow .char (.int x) = .int x
  | .byte => narrow .byte (.int x) = .int x
  | _ => False
def am_ui (M : am_M) (k j : Nat) (x : Int32) : am_M := (M.1, fun a i => if a = k then (if i = j then x else M.2.1 a i) else M.2.1 a i, M.2.2)
def am_ul (M : am_M) (k j : Nat) (x : Int64) : am_M := (M.1, M.2.1, fun a i => if a = k then (if i = j then x else M.2.2 a i) else M.2.2 a i)
def am_ur (M : am_M) (k j : Nat) (x : Nat) : am_M := ((M.1.1, fun a i => if a = k then (if i = j then some x else M.1.2 a i) else M.1.2 a i), M.2)
def am_ci (M : am_M) (k : Nat) (f : Nat → Int32) : am_M := (M.1, fun a i => if a = k then f i else M.2.1 a i, M.2.2)
def am_cl (M : am_M) (k : Nat) (f : Nat → Int64) : am_M := (M.1, M.2.1, fun a i => if a = k then f i else M.2.2 a i)
def am_push (M : am_M) (q : am_Shp) : am_M := ((M.1.1 ++ [q], M.1.2), M.2)
def am_szq (P : am_P) (q : am_Shp) : Nat := match q with
  | .inl ci => pNf P ci
  | .inr (_, n) => n
def am_sz (P : am_P) (M : am_M) : Nat := (M.1.1.map (am_szq P)).sum
def am_bud (P : am_P) (lim : Nat × Nat) (a b : Nat) (M : am_M) : Prop := match a, b with
  | 0, 0 => True
  | _, _ => M.1.1.length + a ≤ lim.1 ∧ am_sz P M + b ≤ lim.2
def am_rcv (P : am_P) (E : am_E) (y : Nat) (as : List Value) (M : am_M) : Prop := match iKnd (pInf P y) with
  | 0 => True
  | 1 => match as with
    | .ref k :: _ => M.1.1[k]? = some (.inl (iOwn (pInf P y)))
    | .retAddr m :: _ => ∃ i, m = 2 * i + 2 ∧ i < E.2.1 ∧ pNm P (iOwn (pInf P y)) = "java/lang/String"
    | _ => False
  | _ => match as with
    | .ref _ :: _ => True
    | _ => False
def am_inv (P : am_P) (E : am_E) (lim : Nat × Nat) (C : am_C) (R : am_R) (y kn : Nat) (pc : Nat) (L st : List Value) (M : am_M) : Prop :=
  match Nat.ble (iArg (pInf P y)) st.length, Nat.ble ((st.drop (iArg (pInf P y))).map (fun v => v.category)).sum 8, Nat.beq kn (iKnd (pInf P y)) with
  | true, true, true => am_rcv P E y ((st.take (iArg (pInf P y))).reverse) M ∧ am_bud P lim (iCel (pInf P y)) (iSlt (pInf P y)) M ∧
      C y ((st.take (iArg (pInf P y))).reverse) M (fun r M' => R (pc + 3) L (r.toList ++ st.drop (iArg (pInf P y))) M')
  | _, _, _ => False
/-- Object.<init> -/
def am_obj (R : am_R) (pc : Nat) (L st : List Value) (M : am_M) : Prop := match st with
  | .ref _ :: st => match Nat.ble (st.map (fun v => v.category)).sum 8 with
    | true => R (pc + 3) L st M
    | false => False
  | _ => False
/-- Math.max, Math.min -/
def am_mm (R : am_R) (f : Int32 → Int32 → Int32) (pc : Nat) (L st : List Value) (M : am_M) : Prop := match st with
  | .int y :: .int x :: st => match Nat.ble (st.map (fun v => v.category)).sum 8 with
    | true => R (pc + 3) L (.int (f x y) :: st) M
    | false => False
  | _ => False
/-- System.arraycopy -/
def am_cpy (R : am_R) (pc : Nat) (L st : List Value) (M : am_M) : Prop := match st with
  | .int n :: .int dp :: .ref d :: .int sp :: .ref s :: st => match Nat.ble (st.map (fun v => v.category)).sum 8 with
    | true => ¬ sp < 0 ∧ ¬ dp < 0 ∧ ¬ n < 0 ∧ ((∃ n0 n1, M.1.1[s]? = some (.inr (.int, n0)) ∧ M.1.1[d]? = some (.inr (.int, n1)) ∧ sp.toNatClampNeg + n.toNatClampNeg ≤ n0 ∧ dp.toNatClampNeg + n.toNatClampNeg ≤ n1 ∧ R (pc + 3) L st (am_ci M d (va_cpy (M.2.1 s) (M.2.1 d) sp.toNatClampNeg dp.toNatClampNeg n.toNatClampNeg))) ∨
      (∃ n0 n1, M.1.1[s]? = some (.inr (.long, n0)) ∧ M.1.1[d]? = some (.inr (.long, n1)) ∧ sp.toNatClampNeg + n.toNatClampNeg ≤ n0 ∧ dp.toNatClampNeg + n.toNatClampNeg ≤ n1 ∧ R (pc + 3) L st (am_cl M d (va_cpy (M.2.2 s) (M.2.2 d) sp.toNatClampNeg dp.toNatClampNeg n.toNatClampNeg))))
    | false => False
  | _ => False
def am_get (P : am_P) (E : am_E) (R : am_R) (f : Nat × Nat) (pc : Nat) (L st : List Value) (M : am_M) : Prop := match st with
  | .ref k :: st => M.1.1[k]? = some (.inl f.1) ∧ (match am_kd (pTy P f.1 f.2) with
    | 0 => R (pc + 3) L (.int (M.2.1 k f.2) :: st) M
    | 1 => R (pc + 3) L (.long (M.2.2 k f.2) :: st) M
    | 2 => ∃ a, M.1.2 k f.2 = some a ∧ R (pc + 3) L (.ref a :: st) M
    | _ => False)
  | _ => False
/-- fields of a text: 0 coder, 1 value -/
def am_getS (E : am_E) (R : am_R) (j : Nat) (pc : Nat) (L st : List Value) (M : am_M) : Prop := match st with
  | .retAddr m :: st => ∃ i, m = 2 * i + 2 ∧ i < E.2.1 ∧ (match j with
    | 0 => R (pc + 3) L (.int 0 :: st) M
    | 1 => R (pc + 3) L (.retAddr (m + 1) :: st) M
    | _ => False)
  | _ => False
def am_put (P : am_P) (own kn : Nat) (R : am_R) (f : Nat × Nat) (pc : Nat) (L st : List Value) (M : am_M) : Prop :=
  match (!(pFin P f.1 f.2)) || (Nat.beq kn 2 && Nat.beq own f.1) with
  | true => (match am_kd (pTy P f.1 f.2), st with
    | 0, .int x :: .ref k :: st => M.1.1[k]? = some (.inl f.1) ∧ am_fit (pTy P f.1 f.2) x ∧ R (pc + 3) L st (am_ui M k f.2 x)
    | 1, .long x :: .ref k :: st => M.1.1[k]? = some (.inl f.1) ∧ R (pc + 3) L st (am_ul M k f.2 x)
    | 2, .ref x :: .ref k :: st => M.1.1[k]? = some (.inl f.1) ∧ R (pc + 3) L st (am_ur M k f.2 x)
    | _, _ => False)
  | false => False
def am_tsw (pc : Nat) (d lo hi : Int) (o : Array Int) (x : Int32) (t : Nat) : Prop := ((x.toInt < lo ∨ hi < x.toInt) ∧ (pc : Int) + d = (t : Int)) ∨ (¬ x.toInt < lo ∧ ¬ hi < x.toInt ∧ ∃ off, o[(x.toInt - lo).toNat]? = some off ∧ (pc : Int) + off = (t : Int))
def am_step (P : am_P) (E : am_E) (own kn : Nat) (ret : Option FieldType) (lim : Nat × Nat) (C : am_C) (K : am_K) (R : am_R) (i : Instr) (t pc : Nat) (L st : List Value) (M : am_M) : Prop := match i with
  | .iconst n => R (pc + 1) L (.int (Int32.ofInt n) :: st) M
  | .bipush n => R (pc + 2) L (.int (Int8.ofInt n).toInt32 :: st) M
  | .sipush n => R (pc + 3) L (.int (Int16.ofInt n).toInt32 :: st) M
  | .lconst n => R (pc + 1) L (.long (Int64.ofNat (n : Nat)) :: st) M
  | .iload_n k => am_ldI L k (fun v => R (pc + 1) L (v :: st) M)
  | .iload k => am_ldI L k (fun v => R (pc + 2) L (v :: st) M)
  | .lload_n k => am_ldL L k (fun v => R (pc + 1) L (v :: st) M)
  | .lload k => am_ldL L k (fun v => R (pc + 2) L (v :: st) M)
  | .aload_n k => am_ldA L k (fun v => R (pc + 1) L (v :: st) M)
  | .aload k => am_ldA L k (fun v => R (pc + 2) L (v :: st) M)
  | .istore_n k => am_stI L k st (fun L st => R (pc + 1) L st M)
  | .istore k => am_stI L k st (fun L st => R (pc + 2) L st M)
  | .lstore_n k => am_stL L k st (fun L st => R (pc + 1) L st M)
  | .lstore k => am_stL L k st (fun L st => R (pc + 2) L st M)
  | .astore_n k => am_stA L k st (fun L st => R (pc + 1) L st M)
  | .astore k => am_stA L k st (fun L st => R (pc + 2) L st M)
  | .iinc k n => (match Nat.blt k L.length, L[k]? with
    | true, some (.int x) => R (pc + 3) (am_set L k (.int (x + Int32.ofInt n))) st M
    | _, _ => False)
  | .iadd => am_i2 st (fun x y st => R (pc + 1) L (.int (x + y) :: st) M)
  | .isub => am_i2 st (fun x y st => R (pc + 1) L (.int (x - y) :: st) M)
  | .imul => am_i2 st (fun x y st => R (pc + 1) L (.int (x * y) :: st) M)
  | .iand => am_i2 st (fun x y st => R (pc + 1) L (.int (x &&& y) :: st) M)
  | .ior => am_i2 st (fun x y st => R (pc + 1) L (.int (x ||| y) :: st) M)
  | .ixor => am_i2 st (fun x y st => R (pc + 1) L (.int (x ^^^ y) :: st) M)
  | .ishl => am_i2 st (fun x y st => R (pc + 1) L (.int (x <<< (y &&& 31)) :: st) M)
  | .ishr => am_i2 st (fun x y st => R (pc + 1) L (.int (x >>> (y &&& 31)) :: st) M)
  | .iushr => am_i2 st (fun x y st => R (pc + 1) L (.int ((x.toUInt32 >>> (y.toUInt32 &&& Int32.toUInt32 31)).toInt32) :: st) M)
  | .idiv => am_i2 st (fun x y st => ¬ y = 0 ∧ R (pc + 1) L (.int (x / y) :: st) M)
  | .irem => am_i2 st (fun x y st => ¬ y = 0 ∧ R (pc + 1) L (.int (x - x / y * y) :: st) M)
  | .ladd => am_l2 st (fun x y st => R (pc + 1) L (.long (x + y) :: st) M)
  | .lsub => am_l2 st (fun x y st => R (pc + 1) L (.long (x - y) :: st) M)
  | .lmul => am_l2 st (fun x y st => R (pc + 1) L (.long (x * y) :: st) M)
  | .land => am_l2 st (fun x y st => R (pc + 1) L (.long (x &&& y) :: st) M)
  | .lor => am_l2 st (fun x y st => R (pc + 1) L (.long (x ||| y) :: st) M)
  | .ldiv => am_l2 st (fun x y st => ¬ y = 0 ∧ R (pc + 1) L (.long (x / y) :: st) M)
  | .lrem => am_l2 st (fun x y st => ¬ y = 0 ∧ R (pc + 1) L (.long (x - x / y * y) :: st) M)
  | .lshl => am_li st (fun x y st => R (pc + 1) L (.long (x <<< (y.toInt64 &&& 63)) :: st) M)
  | .lcmp => am_l2 st (fun x y st => R (pc + 1) L (.int (lg_cmp x y) :: st) M)
  | .i2l => am_i1 st (fun x st => R (pc + 1) L (.long x.toInt64 :: st) M)
  | .i2b => am_i1 st (fun x st => R (pc + 1) L (.int x.toInt8.toInt32 :: st) M)
  | .i2s => am_i1 st (fun x st => R (pc + 1) L (.int x.toInt16.toInt32 :: st) M)
  | .i2c => am_i1 st (fun x st => R (pc + 1) L (.int (x.toUInt32 % 65536).toInt32 :: st) M)
  | .l2i => am_l1 st (fun x st => R (pc + 1) L (.int x.toInt32 :: st) M)
  | .dup => (match st with
    | .int x :: st => R (pc + 1) L (.int x :: .int x :: st) M
    | .ref x :: st => R (pc + 1) L (.ref x :: .ref x :: st) M
    | _ => False)
  | .dup2 => (match st with
    | .int x :: .ref k :: st => R (pc + 1) L (.int x :: .ref k :: .int x :: .ref k :: st) M
    | .int x :: .int y :: st => R (pc + 1) L (.int x :: .int y :: .int x :: .int y :: st) M
    | _ => False)
  | .pop => (match st with
    | .int _ :: st => R (pc + 1) L st M
    | .ref _ :: st => R (pc + 1) L st M
    | _ => False)
  | .goto _ => R t L st M
  | .ifCond c _ => am_i1 st (fun x st => (am_cnd c x 0 → R t L st M) ∧ (¬ am_cnd c x 0 → R (pc + 3) L st M))
  | .if_icmp c _ => am_i2 st (fun x y st => (am_cnd c x y → R t L st M) ∧ (¬ am_cnd c x y → R (pc + 3) L st M))
  | .tableswitch d lo hi o => am_i1 st (fun x st => ∃ t' : Nat, am_tsw pc d lo hi o x t' ∧ R t' L st M)
  | .lookupswitch d ps => am_i1 st (fun x st => ∃ t' : Nat, ((ps.toList.zip (ps.toList.drop 1)).all (fun (a, next) => a.1 < next.1) = true) ∧ (pc : Int) + Op.lookupswitch.offset ps.toList d x.toInt = (t' : Int) ∧ R t' L st M)
  | .ldc k => (match pCst P own k with
    | some (.int v) => R (pc + 2) L (.int v :: st) M
    | some (.retAddr v) => R (pc + 2) L (.retAddr v :: st) M
    | _ => False)
  | .ldc_w k => (match pCst P own k with
    | some (.int v) => R (pc + 3) L (.int v :: st) M
    | _ => False)
  | .ldc2_w k => (match pCst P own k with
    | some (.long v) => R (pc + 3) L (.long v :: st) M
    | _ => False)
  | .getstatic k => (match pCst P own k with
    | some (.double 1) => R (pc + 3) L (.int 1 :: st) M
    | some (.double 2) => R (pc + 3) L (.retAddr 1 :: st) M
    | _ => False)
  | .getfield k => (match pFld P own k, pCst P own k with
    | some f, _ => am_get P E R f pc L st M
    | none, some (.float 1) => am_getS E R 0 pc L st M
    | none, some (.float 2) => am_getS E R 1 pc L st M
    | _, _ => False)
  | .putfield k => (match pFld P own k with
    | some f => am_put P own kn R f pc L st M
    | none => False)
  | .iaload => (match st with
    | .int i :: .ref k :: st => ∃ n, M.1.1[k]? = some (.inr (.int, n)) ∧ vp_in i n ∧ R (pc + 1) L (.int (M.2.1 k i.toNatClampNeg) :: st) M
    | .int i :: .retAddr 0 :: st => vp_in i E.1.1 ∧ R (pc + 1) L (.int (E.1.2 i.toNatClampNeg) :: st) M
    | _ => False)
  | .laload => (match st with
    | .int i :: .ref k :: st => ∃ n, M.1.1[k]? = some (.inr (.long, n)) ∧ vp_in i n ∧ R (pc + 1) L (.long (M.2.2 k i.toNatClampNeg) :: st) M
    | _ => False)
  | .baload => (match st with
    | .int i :: .ref k :: st => ∃ n ty, (ty = .byte ∨ ty = .boolean) ∧ M.1.1[k]? = some (.inr (ty, n)) ∧ vp_in i n ∧ R (pc + 1) L (.int (M.2.1 k i.toNatClampNeg) :: st) M
    | .int i :: .retAddr m :: st => ∃ j, m = 2 * j + 3 ∧ j < E.2.1 ∧ vp_in i (E.2.2.1 j) ∧ R (pc + 1) L (.int (E.2.2.2 j i.toNatClampNeg) :: st) M
    | _ => False)
  | .aaload => (match st with
    | .int i :: .ref k :: st => ∃ n ty a, am_kd ty = 2 ∧ M.1.1[k]? = some (.inr (ty, n)) ∧ vp_in i n ∧ M.1.2 k i.toNatClampNeg = some a ∧ R (pc + 1) L (.ref a :: st) M
    | _ => False)
  | .iastore => (match st with
    | .int x :: .int i :: .ref k :: st => ∃ n, M.1.1[k]? = some (.inr (.int, n)) ∧ vp_in i n ∧ R (pc + 1) L st (am_ui M k i.toNatClampNeg x)
    | _ => False)
  | .lastore => (match st with
    | .long x :: .int i :: .ref k :: st => ∃ n, M.1.1[k]? = some (.inr (.long, n)) ∧ vp_in i n ∧ R (pc + 1) L st (am_ul M k i.toNatClampNeg x)
    | _ => False)
  | .bastore => (match st with
    | .int x :: .int i :: .ref k :: st => ∃ n ty, (ty = .byte ∨ ty = .boolean) ∧ M.1.1[k]? = some (.inr (ty, n)) ∧ vp_in i n ∧ R (pc + 1) L st (am_ui M k i.toNatClampNeg (vp_nar ty x))
    | _ => False)
  | .aastore => (match st with
    | .ref x :: .int i :: .ref k :: st => ∃ n ci, M.1.1[k]? = some (.inr (.object (pNm P ci), n)) ∧ M.1.1[x]? = some (.inl ci) ∧ vp_in i n ∧ R (pc + 1) L st (am_ur M k i.toNatClampNeg x)
    | _ => False)
  | .arraylength => (match st with
    | .ref k :: st => ∃ n ty, M.1.1[k]? = some (.inr (ty, n)) ∧ R (pc + 1) L (.int (Int32.ofNat n) :: st) M
    | .retAddr m :: st => (m = 0 ∧ R (pc + 1) L (.int (Int32.ofNat E.1.1) :: st) M) ∨ ∃ j, m = 2 * j + 3 ∧ j < E.2.1 ∧ R (pc + 1) L (.int (Int32.ofNat (E.2.2.1 j)) :: st) M
    | _ => False)
  | .new k => (match pCls P own k with
    | some ci => M.1.1.length + 1 ≤ lim.1 ∧ am_sz P M + pNf P ci ≤ lim.2 ∧ R (pc + 3) L (.ref M.1.1.length :: st) (am_push M (.inl ci))
    | none => False)
  | .newarray a => am_i1 st (fun n st => ¬ n < 0 ∧ n.toNatClampNeg ≤ 100000 ∧ M.1.1.length + 1 ≤ lim.1 ∧ am_sz P M + n.toNatClampNeg ≤ lim.2 ∧ R (pc + 2) L (.ref M.1.1.length :: st) (am_push M (.inr (newarray.typeOf a, n.toNatClampNeg))))
  | .anewarray k => (match pCls P own k with
    | some ci => am_i1 st (fun n st => ¬ n < 0 ∧ n.toNatClampNeg ≤ 100000 ∧ M.1.1.length + 1 ≤ lim.1 ∧ am_sz P M + n.toNatClampNeg ≤ lim.2 ∧ R (pc + 3) L (.ref M.1.1.length :: st) (am_push M (.inr (.object (pNm P ci), n.toNatClampNeg))))
    | none => False)
  | .multianewarray k j => (match Nat.beq j 2, pCst P own k with
    | true, some (.double 3) => am_i2 st (fun n m st => ¬ n < 0 ∧ ¬ m < 0 ∧ n.toNatClampNeg ≤ 1000 ∧ m.toNatClampNeg ≤ 1000 ∧ M.1.1.length + (1 + n.toNatClampNeg) ≤ lim.1 ∧ am_sz P M + (n.toNatClampNeg + n.toNatClampNeg * m.toNatClampNeg) ≤ lim.2 ∧
        R (pc + 4) L (.ref M.1.1.length :: st) ((M.1.1 ++ (.inr (.array .long, n.toNatClampNeg) :: List.replicate n.toNatClampNeg (.inr (.long, m.toNatClampNeg))), fun a i => if a = M.1.1.length then (if i < n.toNatClampNeg then some (M.1.1.length + 1 + i) else none) else M.1.2 a i), M.2))
    | _, _ => False)
  | .invokestatic k => (match pMth P own k with
    | some 1 => am_cpy R pc L st M
    | some 2 => am_mm R (fun x y => if x < y then y else x) pc L st M
    | some 3 => am_mm R (fun x y => if y < x then y else x) pc L st M
    | some y => am_inv P E lim C R y 0 pc L st M
    | none => False)
  | .invokevirtual k => (match pMth P own k with
    | some y => am_inv P E lim C R y 1 pc L st M
    | none => False)
  | .invokespecial k => (match pMth P own k with
    | some 0 => am_obj R pc L st M
    | some y => am_inv P E lim C R y 2 pc L st M
    | none => False)
  | .ireturn => (match ret, st with
    | some ty, [.int x] => am_fit ty x ∧ K (some (.int x)) M
    | _, _ => False)
  | .lreturn => (match ret, st with
    | some .long, [.long x] => K (some (.long x)) M
    | _, _ => False)
  | .return_ => (match ret, st with
    | none, [] => K none M
    | _, _ => False)
  | _ => False
/-- a body's meaning: the least fixed point of the steps -/
def am_wp (P : am_P) (E : am_E) (y : Nat) (lim : Nat × Nat) (C : am_C) (K : am_K) : am_R := fun pc L st M =>
  ∀ R : am_R, (∀ pc L st M i n t, pCode P y pc = some (i, n, t) → am_step P E (iOwn (pInf P y)) (iKnd (pInf P y)) (iRet (pInf P y)) lim C K R i t pc L st M → R pc L st M) → R pc L st M
def am_sl : List Value → List Value
  | [] => []
  | .long x :: t => .long x :: am_mk :: am_sl t
  | v :: t => v :: am_sl t
def am_ent (n : Nat) (as : List Value) : List Value := am_sl as ++ List.replicate (n - (am_sl as).length) am_mk
def am_call (P : am_P) (E : am_E) : Nat → am_C
  | 0, _, _, _, _ => False
  | d + 1, y, as, M, K => (am_sl as).length ≤ iMax (pInf P y) ∧ as.length = iArg (pInf P y) ∧ as.all am_isv = true ∧
      am_wp P E y (M.1.1.length + iCel (pInf P y), am_sz P M + iSlt (pInf P y)) (am_call P E d) (fun r M' => M'.1.1.length = M.1.1.length + iCel (pInf P y) ∧ am_sz P M' = am_sz P M + iSlt (pInf P y) ∧ K r M') 0 (am_ent (iMax (pInf P y)) as) [] M
