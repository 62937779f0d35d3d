section
/-! A small machine of our own: its memory is (shapes, references) and (ints, longs), keyed by cell number; a step is a condition on what follows; a body's meaning is the least fixed point. -/
abbrev am_Shp : Type := Nat ⊕ (FieldType × Nat)
abbrev am_M : Type := (List am_Shp × (Nat → Nat → Option Nat)) × (Nat → Nat → Int32) × (Nat → Nat → Int64)
abbrev am_K : Type := Option Value → am_M → Prop
abbrev am_R : Type := Nat → List Value → List Value → am_M → Prop
abbrev am_C : Type := Nat → List Value → am_M → am_K → Prop
/-- a method: own class, locals, return type, arguments (with this), kind (0 static, 1 virtual, 2 init), cells and slots that it makes -/
abbrev am_I : Type := Nat × Nat × Option FieldType × Nat × Nat × Nat × Nat
/-- the program: code, fields, methods, constants, classes (by own class and pool index), methods' rows, field types, finals, field counts, class names -/
abbrev am_P : Type := (Nat → Nat → Option (Instr × Nat × Nat)) × (Nat → Nat → Option (Nat × Nat)) × (Nat → Nat → Option Nat) × (Nat → Nat → Option Value) × (Nat → Nat → Option Nat) × (Nat → am_I) × (Nat → Nat → FieldType) × (Nat → Nat → Bool) × (Nat → Nat) × (Nat → String)
abbrev pCode (P : am_P) : Nat → Nat → Option (Instr × Nat × Nat) := P.1
abbrev pFld (P : am_P) : Nat → Nat → Option (Nat × Nat) := P.2.1
abbrev pMth (P : am_P) : Nat → Nat → Option Nat := P.2.2.1
abbrev pCst (P : am_P) : Nat → Nat → Option Value := P.2.2.2.1
abbrev pCls (P : am_P) : Nat → Nat → Option Nat := P.2.2.2.2.1
abbrev pInf (P : am_P) : Nat → am_I := P.2.2.2.2.2.1
abbrev pTy (P : am_P) : Nat → Nat → FieldType := P.2.2.2.2.2.2.1
abbrev pFin (P : am_P) : Nat → Nat → Bool := P.2.2.2.2.2.2.2.1
abbrev pNf (P : am_P) : Nat → Nat := P.2.2.2.2.2.2.2.2.1
abbrev pNm (P : am_P) : Nat → String := P.2.2.2.2.2.2.2.2.2
abbrev iOwn (i : am_I) : Nat := i.1
abbrev iMax (i : am_I) : Nat := i.2.1
abbrev iRet (i : am_I) : Option FieldType := i.2.2.1
abbrev iArg (i : am_I) : Nat := i.2.2.2.1
abbrev iKnd (i : am_I) : Nat := i.2.2.2.2.1
abbrev iCel (i : am_I) : Nat := i.2.2.2.2.2.1
abbrev iSlt (i : am_I) : Nat := i.2.2.2.2.2.2
/-- the world outside: the script, and the texts (how many, how long, their bytes) -/
abbrev am_E : Type := (Nat × (Nat → Int32)) × Nat × (Nat → Nat) × (Nat → Nat → Int32)
def am_mk : Value := .float 0
def am_isv (v : Value) : Bool := match v with
  | .int _ => true
  | .long _ => true
  | .ref _ => true
  | .retAddr _ => true
  | _ => false
def am_kd (ty : FieldType) : Nat := match ty with
  | .long => 1
  | .object _ => 2
  | .array _ => 2
  | .float => 3
  | .double => 3
  | _ => 0
def am_ldI (L : List Value) (k : Nat) (F : Value → Prop) : Prop := match L[k]? with
  | some (.int x) => F (.int x)
  | _ => False
def am_ldL (L : List Value) (k : Nat) (F : Value → Prop) : Prop := match L[k]? with
  | some (.long x) => F (.long x)
  | _ => False
def am_ldA (L : List Value) (k : Nat) (F : Value → Prop) : Prop := match L[k]? with
  | some (.ref x) => F (.ref x)
  | some (.retAddr x) => F (.retAddr x)
  | _ => False
def am_set (L : List Value) (k : Nat) (v : Value) : List Value := match k with
  | 0 => L.set 0 v
  | j + 1 => match L[j]? with
    | some (.long _) => (L.set j am_mk).set (j + 1) v
    | _ => L.set (j + 1) v
def am_set2 (L : List Value) (k : Nat) (v : Value) : List Value := (am_set L k v).set (k + 1) am_mk
def am_stI (L : List Value) (k : Nat) (st : List Value) (F : List Value → List Value → Prop) : Prop := match Nat.blt k L.length, st with
  | true, .int x :: st => F (am_set L k (.int x)) st
  | _, _ => False
def am_stL (L : List Value) (k : Nat) (st : List Value) (F : List Value → List Value → Prop) : Prop := match Nat.blt (k + 1) L.length, st with
  | true, .long x :: st => F (am_set2 L k (.long x)) st
  | _, _ => False
def am_stA (L : List Value) (k : Nat) (st : List Value) (F : List Value → List Value → Prop) : Prop := match Nat.blt k L.length, st with
  | true, .ref x :: st => F (am_set L k (.ref x)) st
  | true, .retAddr x :: st => F (am_set L k (.retAddr x)) st
  | _, _ => False
def am_i1 (st : List Value) (F : Int32 → List Value → Prop) : Prop := match st with
  | .int x :: st => F x st
  | _ => False
def am_i2 (st : List Value) (F : Int32 → Int32 → List Value → Prop) : Prop := match st with
  | .int y :: .int x :: st => F x y st
  | _ => False
def am_l1 (st : List Value) (F : Int64 → List Value → Prop) : Prop := match st with
  | .long x :: st => F x st
  | _ => False
def am_l2 (st : List Value) (F : Int64 → Int64 → List Value → Prop) : Prop := match st with
  | .long y :: .long x :: st => F x y st
  | _ => False
def am_li (st : List Value) (F : Int64 → Int32 → List Value → Prop) : Prop := match st with
  | .int y :: .long x :: st => F x y st
  | _ => False
def am_cnd (c : Jvm.ClassFile.Cond) (x y : Int32) : Prop := match c with
  | .eq => x = y
  | .ne => ¬ x = y
  | .lt => x < y
  | .ge => y ≤ x
  | .gt => y < x
  | .le => x ≤ y
/-- what a place of a kind may hold -/
def am_fit (ty : FieldType) (x : Int32) : Prop := match ty with
  | .int => True
  | .boolean => x = 0 ∨ x = 1
  | .char => narrow .char (.int x) = .int x
  | .byte => narrow .byte (.int x) = .int x
  | _ => False
def am_ui (M : am_M) (k j : Nat) (x : Int32) : am_M := (M.1, fun a i => if a = k then (if i = j then x else M.2.1 a i) else M.2.1 a i, M.2.2)
def am_ul (M : am_M) (k j : Nat) (x : Int64) : am_M := (M.1, M.2.1, fun a i => if a = k then (if i = j then x else M.2.2 a i) else M.2.2 a i)
def am_ur (M : am_M) (k j : Nat) (x : Nat) : am_M := ((M.1.1, fun a i => if a = k then (if i = j then some x else M.1.2 a i) else M.1.2 a i), M.2)
def am_ci (M : am_M) (k : Nat) (f : Nat → Int32) : am_M := (M.1, fun a i => if a = k then f i else M.2.1 a i, M.2.2)
def am_cl (M : am_M) (k : Nat) (f : Nat → Int64) : am_M := (M.1, M.2.1, fun a i => if a = k then f i else M.2.2 a i)
def am_push (M : am_M) (q : am_Shp) : am_M := ((M.1.1 ++ [q], M.1.2), M.2)
def am_szq (P : am_P) (q : am_Shp) : Nat := match q with
  | .inl ci => pNf P ci
  | .inr (_, n) => n
def am_sz (P : am_P) (M : am_M) : Nat := (M.1.1.map (am_szq P)).sum
def am_bud (P : am_P) (lim : Nat × Nat) (a b : Nat) (M : am_M) : Prop := match a, b with
  | 0, 0 => True
  | _, _ => M.1.1.length + a ≤ lim.1 ∧ am_sz P M + b ≤ lim.2
def am_rcv (P : am_P) (E : am_E) (y : Nat) (as : List Value) (M : am_M) : Prop := match iKnd (pInf P y) with
  | 0 => True
  | 1 => match as with
    | .ref k :: _ => M.1.1[k]? = some (.inl (iOwn (pInf P y)))
    | .retAddr m :: _ => ∃ i, m = 2 * i + 2 ∧ i < E.2.1 ∧ pNm P (iOwn (pInf P y)) = "java/lang/String"
    | _ => False
  | _ => match as with
    | .ref _ :: _ => True
    | _ => False
def am_inv (P : am_P) (E : am_E) (lim : Nat × Nat) (C : am_C) (R : am_R) (y kn : Nat) (pc : Nat) (L st : List Value) (M : am_M) : Prop :=
  match Nat.ble (iArg (pInf P y)) st.length, Nat.ble ((st.drop (iArg (pInf P y))).map (fun v => v.category)).sum 8, Nat.beq kn (iKnd (pInf P y)) with
  | true, true, true => am_rcv P E y ((st.take (iArg (pInf P y))).reverse) M ∧ am_bud P lim (iCel (pInf P y)) (iSlt (pInf P y)) M ∧
      C y ((st.take (iArg (pInf P y))).reverse) M (fun r M' => R (pc + 3) L (r.toList ++ st.drop (iArg (pInf P y))) M')
  | _, _, _ => False
/-- Object.<init> -/
def am_obj (R : am_R) (pc : Nat) (L st : List Value) (M : am_M) : Prop := match st with
  | .ref _ :: st => match Nat.ble (st.map (fun v => v.category)).sum 8 with
    | true => R (pc + 3) L st M
    | false => False
  | _ => False
/-- Math.max, Math.min -/
def am_mm (R : am_R) (f : Int32 → Int32 → Int32) (pc : Nat) (L st : List Value) (M : am_M) : Prop := match st with
  | .int y :: .int x :: st => match Nat.ble (st.map (fun v => v.category)).sum 8 with
    | true => R (pc + 3) L (.int (f x y) :: st) M
    | false => False
  | _ => False
/-- System.arraycopy -/
def am_cpy (R : am_R) (pc : Nat) (L st : List Value) (M : am_M) : Prop := match st with
  | .int n :: .int dp :: .ref d :: .int sp :: .ref s :: st => match Nat.ble (st.map (fun v => v.category)).sum 8 with
    | true => ¬ sp < 0 ∧ ¬ dp < 0 ∧ ¬ n < 0 ∧ ((∃ n0 n1, M.1.1[s]? = some (.inr (.int, n0)) ∧ M.1.1[d]? = some (.inr (.int, n1)) ∧ sp.toNatClampNeg + n.toNatClampNeg ≤ n0 ∧ dp.toNatClampNeg + n.toNatClampNeg ≤ n1 ∧ R (pc + 3) L st (am_ci M d (va_cpy (M.2.1 s) (M.2.1 d) sp.toNatClampNeg dp.toNatClampNeg n.toNatClampNeg))) ∨
      (∃ n0 n1, M.1.1[s]? = some (.inr (.long, n0)) ∧ M.1.1[d]? = some (.inr (.long, n1)) ∧ sp.toNatClampNeg + n.toNatClampNeg ≤ n0 ∧ dp.toNatClampNeg + n.toNatClampNeg ≤ n1 ∧ R (pc + 3) L st (am_cl M d (va_cpy (M.2.2 s) (M.2.2 d) sp.toNatClampNeg dp.toNatClampNeg n.toNatClampNeg))))
    | false => False
  | _ => False
def am_get (P : am_P) (E : am_E) (R : am_R) (f : Nat × Nat) (pc : Nat) (L st : List Value) (M : am_M) : Prop := match st with
  | .ref k :: st => M.1.1[k]? = some (.inl f.1) ∧ (match am_kd (pTy P f.1 f.2) with
    | 0 => R (pc + 3) L (.int (M.2.1 k f.2) :: st) M
    | 1 => R (pc + 3) L (.long (M.2.2 k f.2) :: st) M
    | 2 => ∃ a, M.1.2 k f.2 = some a ∧ R (pc + 3) L (.ref a :: st) M
    | _ => False)
  | _ => False
/-- fields of a text: 0 coder, 1 value -/
def am_getS (E : am_E) (R : am_R) (j : Nat) (pc : Nat) (L st : List Value) (M : am_M) : Prop := match st with
  | .retAddr m :: st => ∃ i, m = 2 * i + 2 ∧ i < E.2.1 ∧ (match j with
    | 0 => R (pc + 3) L (.int 0 :: st) M
    | 1 => R (pc + 3) L (.retAddr (m + 1) :: st) M
    | _ => False)
  | _ => False
def am_put (P : am_P) (own kn : Nat) (R : am_R) (f : Nat × Nat) (pc : Nat) (L st : List Value) (M : am_M) : Prop :=
  match (!(pFin P f.1 f.2)) || (Nat.beq kn 2 && Nat.beq own f.1) with
  | true => (match am_kd (pTy P f.1 f.2), st with
    | 0, .int x :: .ref k :: st => M.1.1[k]? = some (.inl f.1) ∧ am_fit (pTy P f.1 f.2) x ∧ R (pc + 3) L st (am_ui M k f.2 x)
    | 1, .long x :: .ref k :: st => M.1.1[k]? = some (.inl f.1) ∧ R (pc + 3) L st (am_ul M k f.2 x)
    | 2, .ref x :: .ref k :: st => M.1.1[k]? = some (.inl f.1) ∧ R (pc + 3) L st (am_ur M k f.2 x)
    | _, _ => False)
  | false => False
def am_tsw (pc : Nat) (d lo hi : Int) (o : Array Int) (x : Int32) (t : Nat) : Prop := ((x.toInt < lo ∨ hi < x.toInt) ∧ (pc : Int) + d = (t : Int)) ∨ (¬ x.toInt < lo ∧ ¬ hi < x.toInt ∧ ∃ off, o[(x.toInt - lo).toNat]? = some off ∧ (pc : Int) + off = (t : Int))
def am_step (P : am_P) (E : am_E) (own kn : Nat) (ret : Option FieldType) (lim : Nat × Nat) (C : am_C) (K : am_K) (R : am_R) (i : Instr) (t pc : Nat) (L st : List Value) (M : am_M) : Prop := match i with
  | .iconst n => R (pc + 1) L (.int (Int32.ofInt n) :: st) M
  | .bipush n => R (pc + 2) L (.int (Int8.ofInt n).toInt32 :: st) M
  | .sipush n => R (pc + 3) L (.int (Int16.ofInt n).toInt32 :: st) M
  | .lconst n => R (pc + 1) L (.long (Int64.ofNat (n : Nat)) :: st) M
  | .iload_n k => am_ldI L k (fun v => R (pc + 1) L (v :: st) M)
  | .iload k => am_ldI L k (fun v => R (pc + 2) L (v :: st) M)
  | .lload_n k => am_ldL L k (fun v => R (pc + 1) L (v :: st) M)
  | .lload k => am_ldL L k (fun v => R (pc + 2) L (v :: st) M)
  | .aload_n k => am_ldA L k (fun v => R (pc + 1) L (v :: st) M)
  | .aload k => am_ldA L k (fun v => R (pc + 2) L (v :: st) M)
  | .istore_n k => am_stI L k st (fun L st => R (pc + 1) L st M)
  | .istore k => am_stI L k st (fun L st => R (pc + 2) L st M)
  | .lstore_n k => am_stL L k st (fun L st => R (pc + 1) L st M)
  | .lstore k => am_stL L k st (fun L st => R (pc + 2) L st M)
  | .astore_n k => am_stA L k st (fun L st => R (pc + 1) L st M)
  | .astore k => am_stA L k st (fun L st => R (pc + 2) L st M)
  | .iinc k n => (match Nat.blt k L.length, L[k]? with
    | true, some (.int x) => R (pc + 3) (am_set L k (.int (x + Int32.ofInt n))) st M
    | _, _ => False)
  | .iadd => am_i2 st (fun x y st => R (pc + 1) L (.int (x + y) :: st) M)
  | .isub => am_i2 st (fun x y st => R (pc + 1) L (.int (x - y) :: st) M)
  | .imul => am_i2 st (fun x y st => R (pc + 1) L (.int (x * y) :: st) M)
  | .iand => am_i2 st (fun x y st => R (pc + 1) L (.int (x &&& y) :: st) M)
  | .ior => am_i2 st (fun x y st => R (pc + 1) L (.int (x ||| y) :: st) M)
  | .ixor => am_i2 st (fun x y st => R (pc + 1) L (.int (x ^^^ y) :: st) M)
  | .ishl => am_i2 st (fun x y st => R (pc + 1) L (.int (x <<< (y &&& 31)) :: st) M)
  | .ishr => am_i2 st (fun x y st => R (pc + 1) L (.int (x >>> (y &&& 31)) :: st) M)
  | .iushr => am_i2 st (fun x y st => R (pc + 1) L (.int ((x.toUInt32 >>> (y.toUInt32 &&& Int32.toUInt32 31)).toInt32) :: st) M)
  | .idiv => am_i2 st (fun x y st => ¬ y = 0 ∧ R (pc + 1) L (.int (x / y) :: st) M)
  | .irem => am_i2 st (fun x y st => ¬ y = 0 ∧ R (pc + 1) L (.int (x - x / y * y) :: st) M)
  | .ladd => am_l2 st (fun x y st => R (pc + 1) L (.long (x + y) :: st) M)
  | .lsub => am_l2 st (fun x y st => R (pc + 1) L (.long (x - y) :: st) M)
  | .lmul => am_l2 st (fun x y st => R (pc + 1) L (.long (x * y) :: st) M)
  | .land => am_l2 st (fun x y st => R (pc + 1) L (.long (x &&& y) :: st) M)
  | .lor => am_l2 st (fun x y st => R (pc + 1) L (.long (x ||| y) :: st) M)
  | .ldiv => am_l2 st (fun x y st => ¬ y = 0 ∧ R (pc + 1) L (.long (x / y) :: st) M)
  | .lrem => am_l2 st (fun x y st => ¬ y = 0 ∧ R (pc + 1) L (.long (x - x / y * y) :: st) M)
  | .lshl => am_li st (fun x y st => R (pc + 1) L (.long (x <<< (y.toInt64 &&& 63)) :: st) M)
  | .lcmp => am_l2 st (fun x y st => R (pc + 1) L (.int (lg_cmp x y) :: st) M)
  | .i2l => am_i1 st (fun x st => R (pc + 1) L (.long x.toInt64 :: st) M)
  | .i2b => am_i1 st (fun x st => R (pc + 1) L (.int x.toInt8.toInt32 :: st) M)
  | .i2s => am_i1 st (fun x st => R (pc + 1) L (.int x.toInt16.toInt32 :: st) M)
  | .i2c => am_i1 st (fun x st => R (pc + 1) L (.int (x.toUInt32 % 65536).toInt32 :: st) M)
  | .l2i => am_l1 st (fun x st => R (pc + 1) L (.int x.toInt32 :: st) M)
  | .dup => (match st with
    | .int x :: st => R (pc + 1) L (.int x :: .int x :: st) M
    | .ref x :: st => R (pc + 1) L (.ref x :: .ref x :: st) M
    | _ => False)
  | .dup2 => (match st with
    | .int x :: .ref k :: st => R (pc + 1) L (.int x :: .ref k :: .int x :: .ref k :: st) M
    | .int x :: .int y :: st => R (pc + 1) L (.int x :: .int y :: .int x :: .int y :: st) M
    | _ => False)
  | .pop => (match st with
    | .int _ :: st => R (pc + 1) L st M
    | .ref _ :: st => R (pc + 1) L st M
    | _ => False)
  | .goto _ => R t L st M
  | .ifCond c _ => am_i1 st (fun x st => (am_cnd c x 0 → R t L st M) ∧ (¬ am_cnd c x 0 → R (pc + 3) L st M))
  | .if_icmp c _ => am_i2 st (fun x y st => (am_cnd c x y → R t L st M) ∧ (¬ am_cnd c x y → R (pc + 3) L st M))
  | .tableswitch d lo hi o => am_i1 st (fun x st => ∃ t' : Nat, am_tsw pc d lo hi o x t' ∧ R t' L st M)
  | .lookupswitch d ps => am_i1 st (fun x st => ∃ t' : Nat, ((ps.toList.zip (ps.toList.drop 1)).all (fun (a, next) => a.1 < next.1) = true) ∧ (pc : Int) + Op.lookupswitch.offset ps.toList d x.toInt = (t' : Int) ∧ R t' L st M)
  | .ldc k => (match pCst P own k with
    | some (.int v) => R (pc + 2) L (.int v :: st) M
    | some (.retAddr v) => R (pc + 2) L (.retAddr v :: st) M
    | _ => False)
  | .ldc_w k => (match pCst P own k with
    | some (.int v) => R (pc + 3) L (.int v :: st) M
    | _ => False)
  | .ldc2_w k => (match pCst P own k with
    | some (.long v) => R (pc + 3) L (.long v :: st) M
    | _ => False)
  | .getstatic k => (match pCst P own k with
    | some (.double 1) => R (pc + 3) L (.int 1 :: st) M
    | some (.double 2) => R (pc + 3) L (.retAddr 1 :: st) M
    | _ => False)
  | .getfield k => (match pFld P own k, pCst P own k with
    | some f, _ => am_get P E R f pc L st M
    | none, some (.float 1) => am_getS E R 0 pc L st M
    | none, some (.float 2) => am_getS E R 1 pc L st M
    | _, _ => False)
  | .putfield k => (match pFld P own k with
    | some f => am_put P own kn R f pc L st M
    | none => False)
  | .iaload => (match st with
    | .int i :: .ref k :: st => ∃ n, M.1.1[k]? = some (.inr (.int, n)) ∧ vp_in i n ∧ R (pc + 1) L (.int (M.2.1 k i.toNatClampNeg) :: st) M
    | .int i :: .retAddr 0 :: st => vp_in i E.1.1 ∧ R (pc + 1) L (.int (E.1.2 i.toNatClampNeg) :: st) M
    | _ => False)
  | .laload => (match st with
    | .int i :: .ref k :: st => ∃ n, M.1.1[k]? = some (.inr (.long, n)) ∧ vp_in i n ∧ R (pc + 1) L (.long (M.2.2 k i.toNatClampNeg) :: st) M
    | _ => False)
  | .baload => (match st with
    | .int i :: .ref k :: st => ∃ n ty, (ty = .byte ∨ ty = .boolean) ∧ M.1.1[k]? = some (.inr (ty, n)) ∧ vp_in i n ∧ R (pc + 1) L (.int (M.2.1 k i.toNatClampNeg) :: st) M
    | .int i :: .retAddr m :: st => ∃ j, m = 2 * j + 3 ∧ j < E.2.1 ∧ vp_in i (E.2.2.1 j) ∧ R (pc + 1) L (.int (E.2.2.2 j i.toNatClampNeg) :: st) M
    | _ => False)
  | .aaload => (match st with
    | .int i :: .ref k :: st => ∃ n ty a, am_kd ty = 2 ∧ M.1.1[k]? = some (.inr (ty, n)) ∧ vp_in i n ∧ M.1.2 k i.toNatClampNeg = some a ∧ R (pc + 1) L (.ref a :: st) M
    | _ => False)
  | .iastore => (match st with
    | .int x :: .int i :: .ref k :: st => ∃ n, M.1.1[k]? = some (.inr (.int, n)) ∧ vp_in i n ∧ R (pc + 1) L st (am_ui M k i.toNatClampNeg x)
    | _ => False)
  | .lastore => (match st with
    | .long x :: .int i :: .ref k :: st => ∃ n, M.1.1[k]? = some (.inr (.long, n)) ∧ vp_in i n ∧ R (pc + 1) L st (am_ul M k i.toNatClampNeg x)
    | _ => False)
  | .bastore => (match st with
    | .int x :: .int i :: .ref k :: st => ∃ n ty, (ty = .byte ∨ ty = .boolean) ∧ M.1.1[k]? = some (.inr (ty, n)) ∧ vp_in i n ∧ R (pc + 1) L st (am_ui M k i.toNatClampNeg (vp_nar ty x))
    | _ => False)
  | .aastore => (match st with
    | .ref x :: .int i :: .ref k :: st => ∃ n ci, M.1.1[k]? = some (.inr (.object (pNm P ci), n)) ∧ M.1.1[x]? = some (.inl ci) ∧ vp_in i n ∧ R (pc + 1) L st (am_ur M k i.toNatClampNeg x)
    | _ => False)
  | .arraylength => (match st with
    | .ref k :: st => ∃ n ty, M.1.1[k]? = some (.inr (ty, n)) ∧ R (pc + 1) L (.int (Int32.ofNat n) :: st) M
    | .retAddr m :: st => (m = 0 ∧ R (pc + 1) L (.int (Int32.ofNat E.1.1) :: st) M) ∨ ∃ j, m = 2 * j + 3 ∧ j < E.2.1 ∧ R (pc + 1) L (.int (Int32.ofNat (E.2.2.1 j)) :: st) M
    | _ => False)
  | .new k => (match pCls P own k with
    | some ci => M.1.1.length + 1 ≤ lim.1 ∧ am_sz P M + pNf P ci ≤ lim.2 ∧ R (pc + 3) L (.ref M.1.1.length :: st) (am_push M (.inl ci))
    | none => False)
  | .newarray a => am_i1 st (fun n st => ¬ n < 0 ∧ n.toNatClampNeg ≤ 100000 ∧ M.1.1.length + 1 ≤ lim.1 ∧ am_sz P M + n.toNatClampNeg ≤ lim.2 ∧ R (pc + 2) L (.ref M.1.1.length :: st) (am_push M (.inr (newarray.typeOf a, n.toNatClampNeg))))
  | .anewarray k => (match pCls P own k with
    | some ci => am_i1 st (fun n st => ¬ n < 0 ∧ n.toNatClampNeg ≤ 100000 ∧ M.1.1.length + 1 ≤ lim.1 ∧ am_sz P M + n.toNatClampNeg ≤ lim.2 ∧ R (pc + 3) L (.ref M.1.1.length :: st) (am_push M (.inr (.object (pNm P ci), n.toNatClampNeg))))
    | none => False)
  | .multianewarray k j => (match Nat.beq j 2, pCst P own k with
    | true, some (.double 3) => am_i2 st (fun n m st => ¬ n < 0 ∧ ¬ m < 0 ∧ n.toNatClampNeg ≤ 1000 ∧ m.toNatClampNeg ≤ 1000 ∧ M.1.1.length + (1 + n.toNatClampNeg) ≤ lim.1 ∧ am_sz P M + (n.toNatClampNeg + n.toNatClampNeg * m.toNatClampNeg) ≤ lim.2 ∧
        R (pc + 4) L (.ref M.1.1.length :: st) ((M.1.1 ++ (.inr (.array .long, n.toNatClampNeg) :: List.replicate n.toNatClampNeg (.inr (.long, m.toNatClampNeg))), fun a i => if a = M.1.1.length then (if i < n.toNatClampNeg then some (M.1.1.length + 1 + i) else none) else M.1.2 a i), M.2))
    | _, _ => False)
  | .invokestatic k => (match pMth P own k with
    | some 1 => am_cpy R pc L st M
    | some 2 => am_mm R (fun x y => if x < y then y else x) pc L st M
    | some 3 => am_mm R (fun x y => if y < x then y else x) pc L st M
    | some y => am_inv P E lim C R y 0 pc L st M
    | none => False)
  | .invokevirtual k => (match pMth P own k with
    | some y => am_inv P E lim C R y 1 pc L st M
    | none => False)
  | .invokespecial k => (match pMth P own k with
    | some 0 => am_obj R pc L st M
    | some y => am_inv P E lim C R y 2 pc L st M
    | none => False)
  | .ireturn => (match ret, st with
    | some ty, [.int x] => am_fit ty x ∧ K (some (.int x)) M
    | _, _ => False)
  | .lreturn => (match ret, st with
    | some .long, [.long x] => K (some (.long x)) M
    | _, _ => False)
  | .return_ => (match ret, st with
    | none, [] => K none M
    | _, _ => False)
  | _ => False
/-- a body's meaning: the least fixed point of the steps -/
def am_wp (P : am_P) (E : am_E) (y : Nat) (lim : Nat × Nat) (C : am_C) (K : am_K) : am_R := fun pc L st M =>
  ∀ R : am_R, (∀ pc L st M i n t, pCode P y pc = some (i, n, t) → am_step P E (iOwn (pInf P y)) (iKnd (pInf P y)) (iRet (pInf P y)) lim C K R i t pc L st M → R pc L st M) → R pc L st M
def am_sl : List Value → List Value
  | [] => []
  | .long x :: t => .long x :: am_mk :: am_sl t
  | v :: t => v :: am_sl t
def am_ent (n : Nat) (as : List Value) : List Value := am_sl as ++ List.replicate (n - (am_sl as).length) am_mk
def am_call (P : am_P) (E : am_E) : Nat → am_C
  | 0, _, _, _, _ => False
  | d + 1, y, as, M, K => (am_sl as).length ≤ iMax (pInf P y) ∧ as.length = iArg (pInf P y) ∧ as.all am_isv = true ∧
      am_wp P E y (M.1.1.length + iCel (pInf P y), am_sz P M + iSlt (pInf P y)) (am_call P E d) (fun r M' => M'.1.1.length = M.1.1.length + iCel (pInf P y) ∧ am_sz P M' = am_sz P M + iSlt (pInf P y) ∧ K r M') 0 (am_ent (iMax (pInf P y)) as) [] M
end
section
def am_mC (C : am_C) : Prop := ∀ (y : Nat) (as : List Value) (M : am_M) (K K' : am_K), (∀ r M', K r M' → K' r M') → C y as M K → C y as M K'
section
variable {P : am_P} {E : am_E} {own kn : Nat} {ret : Option FieldType} {lim : Nat × Nat} {C : am_C} {K K' : am_K} {R R' : am_R}
theorem am_ldI_mono {L : List Value} {k : Nat} {F F' : Value → Prop} (h : ∀ v, F v → F' v) : am_ldI L k F → am_ldI L k F' := by
  unfold am_ldI; split
  · exact h _
  · exact id
theorem am_ldL_mono {L : List Value} {k : Nat} {F F' : Value → Prop} (h : ∀ v, F v → F' v) : am_ldL L k F → am_ldL L k F' := by
  unfold am_ldL; split
  · exact h _
  · exact id
theorem am_ldA_mono {L : List Value} {k : Nat} {F F' : Value → Prop} (h : ∀ v, F v → F' v) : am_ldA L k F → am_ldA L k F' := by
  unfold am_ldA; split
  · exact h _
  · exact h _
  · exact id
theorem am_stI_mono {L st : List Value} {k : Nat} {F F' : List Value → List Value → Prop} (h : ∀ a b, F a b → F' a b) : am_stI L k st F → am_stI L k st F' := by
  unfold am_stI; split
  · exact h _ _
  · exact id
theorem am_stL_mono {L st : List Value} {k : Nat} {F F' : List Value → List Value → Prop} (h : ∀ a b, F a b → F' a b) : am_stL L k st F → am_stL L k st F' := by
  unfold am_stL; split
  · exact h _ _
  · exact id
theorem am_stA_mono {L st : List Value} {k : Nat} {F F' : List Value → List Value → Prop} (h : ∀ a b, F a b → F' a b) : am_stA L k st F → am_stA L k st F' := by
  unfold am_stA; split
  · exact h _ _
  · exact h _ _
  · exact id
theorem am_i1_mono {st : List Value} {F F' : Int32 → List Value → Prop} (h : ∀ a b, F a b → F' a b) : am_i1 st F → am_i1 st F' := by
  unfold am_i1; split
  · exact h _ _
  · exact id
theorem am_i2_mono {st : List Value} {F F' : Int32 → Int32 → List Value → Prop} (h : ∀ a b c, F a b c → F' a b c) : am_i2 st F → am_i2 st F' := by
  unfold am_i2; split
  · exact h _ _ _
  · exact id
theorem am_l1_mono {st : List Value} {F F' : Int64 → List Value → Prop} (h : ∀ a b, F a b → F' a b) : am_l1 st F → am_l1 st F' := by
  unfold am_l1; split
  · exact h _ _
  · exact id
theorem am_l2_mono {st : List Value} {F F' : Int64 → Int64 → List Value → Prop} (h : ∀ a b c, F a b c → F' a b c) : am_l2 st F → am_l2 st F' := by
  unfold am_l2; split
  · exact h _ _ _
  · exact id
theorem am_li_mono {st : List Value} {F F' : Int64 → Int32 → List Value → Prop} (h : ∀ a b c, F a b c → F' a b c) : am_li st F → am_li st F' := by
  unfold am_li; split
  · exact h _ _ _
  · exact id
theorem am_inv_mono (hC : am_mC C) (hR : ∀ pc L st M, R pc L st M → R' pc L st M) {y kn pc : Nat} {L st : List Value} {M : am_M} : am_inv P E lim C R y kn pc L st M → am_inv P E lim C R' y kn pc L st M := by
  unfold am_inv; split
  · rintro ⟨h1, h2, h3⟩
    exact ⟨h1, h2, hC _ _ _ _ _ (fun r M' h => hR _ _ _ _ h) h3⟩
  · exact id
theorem am_obj_mono (hR : ∀ pc L st M, R pc L st M → R' pc L st M) {pc : Nat} {L st : List Value} {M : am_M} : am_obj R pc L st M → am_obj R' pc L st M := by
  unfold am_obj; split
  · split
    · exact hR _ _ _ _
    · exact id
  · exact id
theorem am_cpy_mono (hR : ∀ pc L st M, R pc L st M → R' pc L st M) {pc : Nat} {L st : List Value} {M : am_M} : am_cpy R pc L st M → am_cpy R' pc L st M := by
  unfold am_cpy; split
  · split
    · rintro ⟨h1, h2, h3, h4⟩
      refine ⟨h1, h2, h3, ?_⟩
      rcases h4 with ⟨n0, n1, a, b, c, d, e⟩ | ⟨n0, n1, a, b, c, d, e⟩
      · exact Or.inl ⟨n0, n1, a, b, c, d, hR _ _ _ _ e⟩
      · exact Or.inr ⟨n0, n1, a, b, c, d, hR _ _ _ _ e⟩
    · exact id
  · exact id
theorem am_mm_mono (hR : ∀ pc L st M, R pc L st M → R' pc L st M) {f : Int32 → Int32 → Int32} {pc : Nat} {L st : List Value} {M : am_M} : am_mm R f pc L st M → am_mm R' f pc L st M := by
  unfold am_mm; split
  · split
    · exact hR _ _ _ _
    · exact id
  · exact id
theorem am_get_mono (hR : ∀ pc L st M, R pc L st M → R' pc L st M) {f : Nat × Nat} {pc : Nat} {L st : List Value} {M : am_M} : am_get P E R f pc L st M → am_get P E R' f pc L st M := by
  unfold am_get; split
  · rintro ⟨h1, h2⟩
    refine ⟨h1, ?_⟩
    revert h2
    split
    · exact hR _ _ _ _
    · exact hR _ _ _ _
    · rintro ⟨a, h, h3⟩; exact ⟨a, h, hR _ _ _ _ h3⟩
    · exact id
  · exact id
theorem am_getS_mono (hR : ∀ pc L st M, R pc L st M → R' pc L st M) {j pc : Nat} {L st : List Value} {M : am_M} : am_getS E R j pc L st M → am_getS E R' j pc L st M := by
  unfold am_getS; split
  · rintro ⟨i, h1, h2, h3⟩
    refine ⟨i, h1, h2, ?_⟩
    revert h3
    split
    · exact hR _ _ _ _
    · exact hR _ _ _ _
    · exact id
  · exact id
theorem am_put_mono (hR : ∀ pc L st M, R pc L st M → R' pc L st M) {f : Nat × Nat} {pc : Nat} {L st : List Value} {M : am_M} : am_put P own kn R f pc L st M → am_put P own kn R' f pc L st M := by
  unfold am_put; split
  · split
    · rintro ⟨h1, h2, h3⟩; exact ⟨h1, h2, hR _ _ _ _ h3⟩
    · rintro ⟨h1, h3⟩; exact ⟨h1, hR _ _ _ _ h3⟩
    · rintro ⟨h1, h3⟩; exact ⟨h1, hR _ _ _ _ h3⟩
    · exact id
  · exact id
theorem am_step_mono (hC : am_mC C) (hK : ∀ r M, K r M → K' r M) (hR : ∀ pc L st M, R pc L st M → R' pc L st M) {i : Instr} {t pc : Nat} {L st : List Value} {M : am_M} :
    am_step P E own kn ret lim C K R i t pc L st M → am_step P E own kn ret lim C K' R' i t pc L st M := by
  unfold am_step
  split
  case _ => exact hR _ _ _ _
  case _ => exact hR _ _ _ _
  case _ => exact hR _ _ _ _
  case _ => exact hR _ _ _ _
  case _ => exact am_ldI_mono fun _ => hR _ _ _ _
  case _ => exact am_ldI_mono fun _ => hR _ _ _ _
  case _ => exact am_ldL_mono fun _ => hR _ _ _ _
  case _ => exact am_ldL_mono fun _ => hR _ _ _ _
  case _ => exact am_ldA_mono fun _ => hR _ _ _ _
  case _ => exact am_ldA_mono fun _ => hR _ _ _ _
  case _ => exact am_stI_mono fun _ _ => hR _ _ _ _
  case _ => exact am_stI_mono fun _ _ => hR _ _ _ _
  case _ => exact am_stL_mono fun _ _ => hR _ _ _ _
  case _ => exact am_stL_mono fun _ _ => hR _ _ _ _
  case _ => exact am_stA_mono fun _ _ => hR _ _ _ _
  case _ => exact am_stA_mono fun _ _ => hR _ _ _ _
  all_goals first
    | exact am_i2_mono fun _ _ _ => hR _ _ _ _
    | exact am_i2_mono fun _ _ _ h => ⟨h.1, hR _ _ _ _ h.2⟩
    | exact am_l2_mono fun _ _ _ => hR _ _ _ _
    | exact am_l2_mono fun _ _ _ h => ⟨h.1, hR _ _ _ _ h.2⟩
    | exact am_li_mono fun _ _ _ => hR _ _ _ _
    | exact am_i1_mono fun _ _ => hR _ _ _ _
    | exact am_l1_mono fun _ _ => hR _ _ _ _
    | exact hR _ _ _ _
    | exact am_i1_mono fun _ _ h => ⟨fun c => hR _ _ _ _ (h.1 c), fun c => hR _ _ _ _ (h.2 c)⟩
    | exact am_i2_mono fun _ _ _ h => ⟨fun c => hR _ _ _ _ (h.1 c), fun c => hR _ _ _ _ (h.2 c)⟩
    | exact am_i1_mono fun _ _ ⟨t', h1, h2⟩ => ⟨t', h1, hR _ _ _ _ h2⟩
    | exact am_i1_mono fun _ _ ⟨t', h1, h2, h3⟩ => ⟨t', h1, h2, hR _ _ _ _ h3⟩
    | exact am_i1_mono fun _ _ ⟨h1, h2, h3, h4, h5⟩ => ⟨h1, h2, h3, h4, hR _ _ _ _ h5⟩
    | (split <;> first | exact hR _ _ _ _ | exact id)
    | (split <;> first
        | exact am_get_mono hR
        | exact am_getS_mono hR
        | exact am_put_mono hR
        | exact am_cpy_mono hR
        | exact am_mm_mono hR
        | exact am_obj_mono hR
        | exact am_inv_mono hC hR
        | exact id)
    | (split <;> first
        | (rintro ⟨n, h1, h2, h3⟩; exact ⟨n, h1, h2, hR _ _ _ _ h3⟩)
        | (rintro ⟨h1, h2⟩; exact ⟨h1, hR _ _ _ _ h2⟩)
        | (rintro ⟨h1, h2, h3⟩; exact ⟨h1, h2, hR _ _ _ _ h3⟩)
        | (rintro ⟨n, ty, h1, h2⟩; exact ⟨n, ty, h1, hR _ _ _ _ h2⟩)
        | (rintro ⟨n, ty, h1, h2, h3, h4⟩; exact ⟨n, ty, h1, h2, h3, hR _ _ _ _ h4⟩)
        | (rintro ⟨n, ty, a, h1, h2, h3, h4, h5⟩; exact ⟨n, ty, a, h1, h2, h3, h4, hR _ _ _ _ h5⟩)
        | (rintro ⟨j, h1, h2, h3, h4⟩; exact ⟨j, h1, h2, h3, hR _ _ _ _ h4⟩)
        | (rintro (⟨h1, h2⟩ | ⟨j, h1, h2, h3⟩); exact Or.inl ⟨h1, hR _ _ _ _ h2⟩; exact Or.inr ⟨j, h1, h2, hR _ _ _ _ h3⟩)
        | exact am_i1_mono fun _ _ ⟨h1, h2, h3, h4, h5⟩ => ⟨h1, h2, h3, h4, hR _ _ _ _ h5⟩
        | exact am_i2_mono fun _ _ _ ⟨h1, h2, h3, h4, h5, h6, h7⟩ => ⟨h1, h2, h3, h4, h5, h6, hR _ _ _ _ h7⟩
        | exact id)
    | (split <;> first
        | exact hK _ _
        | (rintro ⟨h1, h2⟩; exact ⟨h1, hK _ _ h2⟩)
        | exact id)
    | exact id
/-- one step back -/
theorem am_wp_step {y : Nat} (hC : am_mC C) {pc : Nat} {L st : List Value} {M : am_M} {i : Instr} {n t : Nat} (hc : pCode P y pc = some (i, n, t))
    (h : am_step P E (iOwn (pInf P y)) (iKnd (pInf P y)) (iRet (pInf P y)) lim C K (am_wp P E y lim C K) i t pc L st M) : am_wp P E y lim C K pc L st M := by
  intro R hR
  exact hR _ _ _ _ _ _ _ hc (am_step_mono hC (fun _ _ h => h) (fun pc L st M h => h R hR) h)
theorem am_wp_mono {y : Nat} (hC : am_mC C) (hK : ∀ r M, K r M → K' r M) {pc : Nat} {L st : List Value} {M : am_M} (h : am_wp P E y lim C K pc L st M) : am_wp P E y lim C K' pc L st M := by
  intro R hR
  exact h R fun pc L st M i n t hc hs => hR _ _ _ _ _ _ _ hc (am_step_mono hC hK (fun _ _ _ _ h => h) hs)
theorem am_call_mono : ∀ d : Nat, am_mC (am_call P E d)
  | 0 => fun _ _ _ _ _ _ h => h
  | d + 1 => fun y as M K K' hK h => ⟨h.1, h.2.1, h.2.2.1, am_wp_mono (am_call_mono d) (fun r M' h => ⟨h.1, h.2.1, hK _ _ h.2.2⟩) h.2.2.2⟩
end
end
section
/-! What the small machine's memory is on the heap. -/
def am_cv (base : Nat) (tv : Nat → Value) (v : Value) : Value := match v with
  | .ref k => .ref (base + k)
  | .retAddr n => tv n
  | v => v
def am_val (base : Nat) (ty : FieldType) (M : am_M) (k j : Nat) : Value := match am_kd ty with
  | 0 => .int (M.2.1 k j)
  | 1 => .long (M.2.2 k j)
  | _ => match M.1.2 k j with
    | some a => .ref (base + a)
    | none => .null
def am_at (base : Nat) (D : va_G) (cl : List vw_C) (aC : FieldType → Option ClassId) (P : am_P) (M : am_M) (H : Heap) (k : Nat) (q : am_Shp) : Prop := match q with
  | .inl ci => ∃ r : vw_C, cl[ci]? = some r ∧ t_OB (base + k) (D.1 ci) r.2.2 (D.2 ci) H (fun j => am_val base (pTy P ci j) M k j)
  | .inr (ty, n) => ∃ cA, aC ty = some cA ∧ H[base + k]? = some (arrV cA n (fun j => am_val base ty M k j))
def am_Rep (base : Nat) (D : va_G) (cl : List vw_C) (aC : FieldType → Option ClassId) (P : am_P) (M : am_M) (H : Heap) : Prop :=
  H.size = base + M.1.1.length ∧ (∀ (k : Nat) (q : am_Shp), M.1.1[k]? = some q → am_at base D cl aC P M H k q) ∧ ∀ k, M.1.1.length ≤ k → ∀ j, M.2.1 k j = 0 ∧ M.2.2 k j = 0 ∧ M.1.2 k j = none
theorem am_val_congr {base : Nat} {ty : FieldType} {M M' : am_M} {k j : Nat} (h1 : M'.2.1 k j = M.2.1 k j) (h2 : M'.2.2 k j = M.2.2 k j) (h3 : M'.1.2 k j = M.1.2 k j) : am_val base ty M' k j = am_val base ty M k j := by
  unfold am_val; rw [h1, h2, h3]
theorem am_at_congr {base : Nat} {D : va_G} {cl : List vw_C} {aC : FieldType → Option ClassId} {P : am_P} {M M' : am_M} {H H' : Heap} {k : Nat} {q : am_Shp} (h : am_at base D cl aC P M H k q) (hH : H'[base + k]? = H[base + k]?) (hv : ∀ j, M'.2.1 k j = M.2.1 k j ∧ M'.2.2 k j = M.2.2 k j ∧ M'.1.2 k j = M.1.2 k j) : am_at base D cl aC P M' H' k q := by
  have e : ∀ (ty : FieldType) (j : Nat), am_val base ty M' k j = am_val base ty M k j := fun ty j => am_val_congr (hv j).1 (hv j).2.1 (hv j).2.2
  cases q with
  | inl ci =>
    obtain ⟨r, h1, h2⟩ := h
    exact ⟨r, h1, (h2.kept hH).to fun j _ => (e _ j).symm⟩
  | inr a =>
    obtain ⟨ty, n⟩ := a
    obtain ⟨cA, h1, h2⟩ := h
    refine ⟨cA, h1, ?_⟩
    rw [hH, h2]
    congr 2
    funext j
    exact (e ty j).symm
/-- one cell is written -/
theorem am_Rep.put {base : Nat} {D : va_G} {cl : List vw_C} {aC : FieldType → Option ClassId} {P : am_P} {M M' : am_M} {H H' : Heap} {k0 : Nat} {q0 : am_Shp} (h : am_Rep base D cl aC P M H) (hs : M'.1.1 = M.1.1) (hq : M.1.1[k0]? = some q0)
    (hv : ∀ k, k ≠ k0 → ∀ j, M'.2.1 k j = M.2.1 k j ∧ M'.2.2 k j = M.2.2 k j ∧ M'.1.2 k j = M.1.2 k j) (hz : H'.size = H.size) (ho : ∀ q, q ≠ base + k0 → H'[q]? = H[q]?) (ha : am_at base D cl aC P M' H' k0 q0) : am_Rep base D cl aC P M' H' := by
  obtain ⟨h1, h2, h3⟩ := h
  refine ⟨by rw [hz, h1, hs], fun k q hk => ?_, fun k hk j => ?_⟩
  · rw [hs] at hk
    by_cases e : k = k0
    · subst e
      cases hq.symm.trans hk
      exact ha
    · exact am_at_congr (h2 k q hk) (ho _ (by omega)) (hv k e)
  · rw [hs] at hk
    have hlt : k0 < M.1.1.length := (List.getElem?_eq_some_iff.mp hq).1
    have e : k ≠ k0 := by omega
    obtain ⟨a, b, c⟩ := hv k e j
    obtain ⟨a', b', c'⟩ := h3 k hk j
    exact ⟨a.trans a', b.trans b', c.trans c'⟩
/-- one cell is made -/
theorem am_Rep.new {base : Nat} {D : va_G} {cl : List vw_C} {aC : FieldType → Option ClassId} {P : am_P} {M : am_M} {H H' : Heap} {q0 : am_Shp} (h : am_Rep base D cl aC P M H) (hz : H'.size = H.size + 1) (ho : ∀ q, q < H.size → H'[q]? = H[q]?) (ha : am_at base D cl aC P M H' M.1.1.length q0) : am_Rep base D cl aC P (am_push M q0) H' := by
  obtain ⟨h1, h2, h3⟩ := h
  refine ⟨by simp [am_push, hz, h1]; omega, fun k q hk => ?_, fun k hk j => ?_⟩
  · have hk' : (M.1.1 ++ [q0])[k]? = some q := hk
    by_cases e : k < M.1.1.length
    · rw [List.getElem?_append_left e] at hk'
      exact am_at_congr (h2 k q hk') (ho _ (by omega)) (fun j => ⟨rfl, rfl, rfl⟩)
    · have hl : k < (M.1.1 ++ [q0]).length := (List.getElem?_eq_some_iff.mp hk').1
      simp at hl
      have e2 : k = M.1.1.length := by omega
      subst e2
      simp at hk'
      subst hk'
      exact am_at_congr ha rfl (fun j => ⟨rfl, rfl, rfl⟩)
  · have hk' : (M.1.1 ++ [q0]).length ≤ k := hk
    simp at hk'
    exact h3 k (by omega) j
theorem am_sz_push (P : am_P) (M : am_M) (q : am_Shp) : am_sz P (am_push M q) = am_sz P M + am_szq P q := by
  simp [am_sz, am_push]
/-! locals -/
def am_LH (base : Nat) (tv : Nat → Value) (ls : Array Slot) (L : List Value) : Prop := ls.size = L.length ∧ lv_wf ls ∧ ∀ (i : Nat) (v : Value), L[i]? = some v → am_isv v = true → ls[i]? = some (.val (am_cv base tv v))
def am_tvok (tv : Nat → Value) : Prop := ∀ n, tv n = .null ∨ ∃ a, tv n = .ref a
theorem am_cat1 {base : Nat} {tv : Nat → Value} (ht : am_tvok tv) {v : Value} (hv : am_isv v = true) (hl : ∀ x, v ≠ .long x) : (am_cv base tv v).category = 1 := by
  cases v with
  | int x => rfl
  | long x => exact absurd rfl (hl x)
  | ref x => rfl
  | retAddr n =>
    show (tv n).category = 1
    rcases ht n with h | ⟨a, h⟩ <;> rw [h] <;> rfl
  | _ => cases hv
def am_prs (base : Nat) (tv : Nat → Value) (L : List Value) : List (Nat × Value) := (List.range L.length).filterMap fun i => match L[i]? with
  | some v => if am_isv v = true then some (i, am_cv base tv v) else none
  | none => none
theorem am_prs_mem {base : Nat} {tv : Nat → Value} {L : List Value} {i : Nat} {v : Value} (h : L[i]? = some v) (hv : am_isv v = true) : (i, am_cv base tv v) ∈ am_prs base tv L := by
  refine List.mem_filterMap.mpr ⟨i, List.mem_range.mpr (List.getElem?_eq_some_iff.mp h).1, ?_⟩
  simp [h, hv]
theorem am_LH.has {base : Nat} {tv : Nat → Value} {ls : Array Slot} {L : List Value} (h : am_LH base tv ls L) : lv_has ls L.length (am_prs base tv L) := by
  refine ⟨h.1, h.2.1, fun q hq => ?_⟩
  obtain ⟨i, -, hi⟩ := List.mem_filterMap.mp hq
  split at hi
  · next v hv =>
    split at hi
    · next hs => cases hi; exact h.2.2 i v hv hs
    · cases hi
  · cases hi
theorem am_LH.set {base : Nat} {tv : Nat → Value} {ls' : Array Slot} {L : List Value} {k : Nat} {v : Value} (ht : am_tvok tv) (hv : am_isv v = true)
    (h : lv_has ls' L.length ((k, am_cv base tv v) :: (am_prs base tv L).filter (fun q => !(q.1 == k) && !(q.1 + 1 == k && q.2.category == 2)))) : am_LH base tv ls' (am_set L k v) := by
  have hlen : (am_set L k v).length = L.length := by
    unfold am_set; split
    · simp
    · split <;> simp
  refine ⟨by rw [hlen]; exact h.1, h.2.1, fun i u hi hu => ?_⟩
  have head : ls'[k]? = some (.val (am_cv base tv v)) := h.2.2 (k, am_cv base tv v) List.mem_cons_self
  have rest : L[i]? = some u → i ≠ k → ¬ (i + 1 = k ∧ (am_cv base tv u).category = 2) → ls'[i]? = some (.val (am_cv base tv u)) := fun h1 h2 h3 => by
    refine h.2.2 (i, am_cv base tv u) (List.mem_cons_of_mem _ (List.mem_filter.mpr ⟨am_prs_mem h1 hu, ?_⟩))
    simp only [Bool.and_eq_true, Bool.not_eq_true', beq_eq_false_iff_ne]
    refine ⟨h2, ?_⟩
    by_cases e : i + 1 = k
    · have : ¬ (am_cv base tv u).category = 2 := fun z => h3 ⟨e, z⟩
      simp [e, this]
    · simp [e]
  unfold am_set at hi
  split at hi
  · by_cases e : i = 0
    · subst e
      rw [List.getElem?_set] at hi
      simp at hi
      obtain ⟨-, rfl⟩ := hi
      exact head
    · rw [List.getElem?_set_ne (by omega)] at hi
      exact rest hi (by omega) (by omega)
  · next j =>
    split at hi
    · by_cases e : i = j + 1
      · subst e
        rw [List.getElem?_set] at hi
        simp at hi
        obtain ⟨-, rfl⟩ := hi
        exact head
      · rw [List.getElem?_set_ne (by omega)] at hi
        by_cases e2 : i = j
        · subst e2
          rw [List.getElem?_set] at hi
          simp at hi
          obtain ⟨-, rfl⟩ := hi
          cases hu
        · rw [List.getElem?_set_ne (by omega)] at hi
          exact rest hi e (by omega)
    · next hno =>
      by_cases e : i = j + 1
      · subst e
        rw [List.getElem?_set] at hi
        simp at hi
        obtain ⟨-, rfl⟩ := hi
        exact head
      · rw [List.getElem?_set_ne (by omega)] at hi
        refine rest hi e fun ⟨z, z2⟩ => ?_
        have e2 : i = j := by omega
        subst e2
        have hl : ∀ x, u ≠ .long x := fun x hx => hno x (by rw [hi, hx])
        have := am_cat1 (base := base) ht hu hl
        omega
theorem am_LH.set2 {base : Nat} {tv : Nat → Value} {ls' : Array Slot} {L : List Value} {k : Nat} {v : Value} (ht : am_tvok tv) (hv : am_isv v = true)
    (h : lv_has ls' L.length ((k, am_cv base tv v) :: (am_prs base tv L).filter (fun q => !(q.1 == k) && (!(q.1 == k + 1) && !(q.1 + 1 == k && q.2.category == 2))))) : am_LH base tv ls' (am_set2 L k v) := by
  have hlen : (am_set L k v).length = L.length := by
    unfold am_set; split
    · simp
    · split <;> simp
  refine ⟨by simp [am_set2, hlen]; exact h.1, h.2.1, fun i u hi hu => ?_⟩
  have head : ls'[k]? = some (.val (am_cv base tv v)) := h.2.2 (k, am_cv base tv v) List.mem_cons_self
  have rest : L[i]? = some u → i ≠ k → i ≠ k + 1 → ¬ (i + 1 = k ∧ (am_cv base tv u).category = 2) → ls'[i]? = some (.val (am_cv base tv u)) := fun h1 h2 h4 h3 => by
    refine h.2.2 (i, am_cv base tv u) (List.mem_cons_of_mem _ (List.mem_filter.mpr ⟨am_prs_mem h1 hu, ?_⟩))
    simp only [Bool.and_eq_true, Bool.not_eq_true', beq_eq_false_iff_ne]
    refine ⟨h2, h4, ?_⟩
    by_cases e : i + 1 = k
    · have : ¬ (am_cv base tv u).category = 2 := fun z => h3 ⟨e, z⟩
      simp [e, this]
    · simp [e]
  unfold am_set2 at hi
  by_cases ek : i = k + 1
  · subst ek
    rw [List.getElem?_set] at hi
    simp at hi
    obtain ⟨-, rfl⟩ := hi
    cases hu
  rw [List.getElem?_set_ne (by omega)] at hi
  unfold am_set at hi
  split at hi
  · by_cases e : i = 0
    · subst e
      rw [List.getElem?_set] at hi
      simp at hi
      obtain ⟨-, rfl⟩ := hi
      exact head
    · rw [List.getElem?_set_ne (by omega)] at hi
      exact rest hi (by omega) ek (by omega)
  · next j =>
    split at hi
    · by_cases e : i = j + 1
      · subst e
        rw [List.getElem?_set] at hi
        simp at hi
        obtain ⟨-, rfl⟩ := hi
        exact head
      · rw [List.getElem?_set_ne (by omega)] at hi
        by_cases e2 : i = j
        · subst e2
          rw [List.getElem?_set] at hi
          simp at hi
          obtain ⟨-, rfl⟩ := hi
          cases hu
        · rw [List.getElem?_set_ne (by omega)] at hi
          exact rest hi e ek (by omega)
    · next hno =>
      by_cases e : i = j + 1
      · subst e
        rw [List.getElem?_set] at hi
        simp at hi
        obtain ⟨-, rfl⟩ := hi
        exact head
      · rw [List.getElem?_set_ne (by omega)] at hi
        refine rest hi e ek fun ⟨z, z2⟩ => ?_
        have e2 : i = j := by omega
        subst e2
        have hl : ∀ x, u ≠ .long x := fun x hx => hno x (by rw [hi, hx])
        have := am_cat1 (base := base) ht hu hl
        omega
theorem am_sl_lg {base : Nat} {tv : Nat → Value} (ht : am_tvok tv) : ∀ as : List Value, as.all am_isv = true → (am_sl as).length = (lg_sl (as.map (am_cv base tv))).length ∧ ∀ (i : Nat) (v : Value), (am_sl as)[i]? = some v → am_isv v = true → (lg_sl (as.map (am_cv base tv)))[i]? = some (.val (am_cv base tv v))
  | [], _ => ⟨rfl, fun i v h => by simp [am_sl] at h⟩
  | a :: as, h => by
    simp only [List.all_cons, Bool.and_eq_true] at h
    obtain ⟨ha, hs⟩ := h
    obtain ⟨i1, i2⟩ := am_sl_lg (base := base) ht as hs
    have hcons : lg_sl ((a :: as).map (am_cv base tv)) = (if (am_cv base tv a).category = 2 then [.val (am_cv base tv a), .second] else [.val (am_cv base tv a)]) ++ lg_sl (as.map (am_cv base tv)) := by simp [lg_sl]
    by_cases hl : ∃ x, a = .long x
    · obtain ⟨x, rfl⟩ := hl
      have e1 : (am_cv base tv (.long x)).category = 2 := rfl
      rw [hcons, if_pos e1]
      have e2 : am_sl (.long x :: as) = .long x :: am_mk :: am_sl as := rfl
      rw [e2]
      refine ⟨by simp [i1], fun i v hi hv => ?_⟩
      match i, hi with
      | 0, hi => simp at hi; subst hi; rfl
      | 1, hi => simp at hi; subst hi; cases hv
      | i + 2, hi =>
        simp at hi
        simp
        exact i2 i v hi hv
    · have hl' : ∀ x, a ≠ .long x := fun x e => hl ⟨x, e⟩
      have e1 := am_cat1 (base := base) ht ha hl'
      rw [hcons, if_neg (by omega)]
      have e2 : am_sl (a :: as) = a :: am_sl as := by
        cases a <;> first | rfl | exact absurd rfl (hl' _)
      rw [e2]
      refine ⟨by simp [i1], fun i v hi hv => ?_⟩
      match i, hi with
      | 0, hi => simp at hi; subst hi; rfl
      | i + 1, hi =>
        simp at hi
        simp
        exact i2 i v hi hv
theorem am_LH.ent {base : Nat} {tv : Nat → Value} (ht : am_tvok tv) {as : List Value} {n : Nat} (h : as.all am_isv = true) (hn : (am_sl as).length ≤ n) : am_LH base tv ((lg_sl (as.map (am_cv base tv)) ++ List.replicate (n - (lg_sl (as.map (am_cv base tv))).length) Slot.unset).toArray) (am_ent n as) := by
  obtain ⟨i1, i2⟩ := am_sl_lg (base := base) ht as h
  have he := lv_entry (as.map (am_cv base tv)) (n := n) (by rw [← i1]; exact hn)
  refine ⟨?_, he.2.1, fun i v hi hv => ?_⟩
  · rw [he.1]
    simp [am_ent]; omega
  · unfold am_ent at hi
    by_cases e : i < (am_sl as).length
    · rw [List.getElem?_append_left e] at hi
      rw [List.getElem?_toArray, List.getElem?_append_left (by rw [← i1]; exact e)]
      exact i2 i v hi hv
    · rw [List.getElem?_append_right (by omega)] at hi
      have := List.mem_replicate.mp (List.mem_of_getElem? hi)
      rw [this.2] at hv
      cases hv
end
section
/-! The world around the small machine (what the tables and the old heap give), the program's tables, the contract. -/
/-- base, classes' numbers and slots, array classes, what tokens stand for, texts and their bytes by place, the script's place, the world outside -/
abbrev am_X : Type := Nat × va_G × (FieldType → Option ClassId) × (Nat → Value) × (Nat → Nat) × (Nat → Nat) × Nat × am_E
abbrev xB (X : am_X) : Nat := X.1
abbrev xD (X : am_X) : va_G := X.2.1
abbrev xA (X : am_X) : FieldType → Option ClassId := X.2.2.1
abbrev xV (X : am_X) : Nat → Value := X.2.2.2.1
abbrev xK (X : am_X) : Nat → Nat := X.2.2.2.2.1
abbrev xW (X : am_X) : Nat → Nat := X.2.2.2.2.2.1
abbrev xb (X : am_X) : Nat := X.2.2.2.2.2.2.1
abbrev xE (X : am_X) : am_E := X.2.2.2.2.2.2.2
/-- the program, its classes, the words, methods' bytes and names, texts' lengths and bytes, nest links, classes of which arrays are made -/
abbrev am_T : Type := am_P × List vw_C × List Cond × (Nat → ByteArray) × (Nat → MethodName) × List Nat × List (List Int32) × List (String × Nat × MethodName × String) × List String
abbrev tP (T : am_T) : am_P := T.1
abbrev tC (T : am_T) : List vw_C := T.2.1
abbrev tW (T : am_T) : List Cond := T.2.2.1
abbrev tB (T : am_T) : Nat → ByteArray := T.2.2.2.1
abbrev tN (T : am_T) : Nat → MethodName := T.2.2.2.2.1
abbrev tL (T : am_T) : List Nat := T.2.2.2.2.2.1
abbrev tY (T : am_T) : List (List Int32) := T.2.2.2.2.2.2.1
abbrev tH (T : am_T) : List (String × Nat × MethodName × String) := T.2.2.2.2.2.2.2.1
abbrev tO (T : am_T) : List String := T.2.2.2.2.2.2.2.2
abbrev xNew (X : am_X) : Nat → Prop := fun q => xB X ≤ q
abbrev xcv (X : am_X) : Value → Value := am_cv (xB X) (xV X)
abbrev xRep (X : am_X) (T : am_T) : am_M → Heap → Prop := am_Rep (xB X) (xD X) (tC T) (xA X) (tP T)
def am_Wd (X : am_X) (T : am_T) (U : State) (H : Heap) : Prop :=
  (∀ (c : Nat) (q : vw_C), (tC T)[c]? = some q → u_Kn U q.1 q.2.1 q.2.2 ((xD X).1 c) ((xD X).2 c)) ∧
  (∀ (ty : FieldType) (cA : ClassId), xA X ty = some cA → ArrOfT U cA ty ∧ va_RA U cA ty) ∧
  (∀ (own k n : Nat), pCst (tP T) own k = some (.retAddr n) → ∃ tx a, vk_R (pNm (tP T) own) k tx a U ∧ xV X n = .ref a) ∧
  vk_S (xE X).2.1 (tL T) (tY T) (xK X) (xW X) (xNew X) U H ∧
  va_Z "java/lang/String" "COMPACT_STRINGS" "Z" (.int 1) (xNew X) U H ∧
  va_Z "jdk/internal/util/Preconditions" "SIOOBE_FORMATTER" "Ljava/util/function/BiFunction;" (xV X 1) (xNew X) U H ∧
  va_X (xb X) (xE X).1.1 (xE X).1.2 U H ∧
  (∀ C ∈ tO T, va_AO C U) ∧
  (∀ w ∈ tH T, va_Nw (.methodLinkNest w.1 w.2.1 w.2.2.1 w.2.2.2) U)
theorem am_Wd.mv {X : am_X} {T : am_T} {s U : State} {H : Heap} (hW : s.WarmedH U.vm) (h : am_Wd X T s H) : am_Wd X T U H := by
  obtain ⟨h1, h2, h3, h4, h5, h6, h7, h8, h9⟩ := h
  refine ⟨fun c q hq => u_Kn_moved hW.alike (h1 c q hq), fun ty cA hA => ⟨arrOfT_moved hW.alike (h2 ty cA hA).1, (h2 ty cA hA).2.moved hW.alike⟩, fun own k n hk => ?_, vk_S.moved hW.alike h4, va_Z.moved hW.alike h5, va_Z.moved hW.alike h6, ?_, fun C hC => va_AO.moved hW.alike (h8 C hC), fun w hw => va_Nw.warmM hW (h9 w hw)⟩
  · obtain ⟨tx, a, q1, q2⟩ := h3 own k n hk
    exact ⟨tx, a, vk_R.warm hW q1, q2⟩
  · obtain ⟨scr, q1, q2, q3⟩ := h7
    exact ⟨scr, q1, State.isArrayOf_alike hW.alike q2, q3⟩
theorem am_Wd.kept {X : am_X} {T : am_T} {U : State} {H H1 : Heap} (hb : xb X < xB X) (h : am_Wd X T U H) (hq : ∀ a : Nat, a < H.size → ¬ xNew X a → H1[a]? = H[a]?) : am_Wd X T U H1 := by
  obtain ⟨h1, h2, h3, h4, h5, h6, h7, h8, h9⟩ := h
  refine ⟨h1, h2, h3, h4.kept hq, h5.kept hq, h6.kept hq, ?_, h8, h9⟩
  obtain ⟨scr, q1, q3⟩ := h7
  exact ⟨scr, by rw [hq _ (Array.getElem?_eq_some_iff.mp q1).1 (Nat.not_le.mpr hb)]; exact q1, q3⟩
/-- what is so of the names, whatever the state -/
def am_Xok (X : am_X) (T : am_T) : Prop :=
  am_tvok (xV X) ∧ xV X 0 = .ref (xb X) ∧ xb X < xB X ∧ (∀ i, i < (xE X).2.1 → xV X (2 * i + 2) = .ref (xK X i) ∧ xV X (2 * i + 3) = .ref (xW X i) ∧ (xE X).2.2.1 i = (tL T).getD i 0 ∧ ∀ j, (xE X).2.2.2 i j = ((tY T).getD i []).getD j 0) ∧
  (∀ ty, Cond.arrayClass ty ∈ tW T → ∃ cA, xA X ty = some cA) ∧ (∀ C ∈ tO T, ∃ cA, xA X (.object C) = some cA)
def am_ln (i : Instr) : Option Nat := match i with
  | .tableswitch _ _ _ _ => none
  | .lookupswitch _ _ => none
  | .bipush _ => some 2
  | .sipush _ => some 3
  | .iload _ => some 2
  | .lload _ => some 2
  | .aload _ => some 2
  | .istore _ => some 2
  | .lstore _ => some 2
  | .astore _ => some 2
  | .iinc _ _ => some 3
  | .goto _ => some 3
  | .ifCond _ _ => some 3
  | .if_icmp _ _ => some 3
  | .ldc _ => some 2
  | .ldc_w _ => some 3
  | .ldc2_w _ => some 3
  | .getstatic _ => some 3
  | .getfield _ => some 3
  | .putfield _ => some 3
  | .new _ => some 3
  | .newarray _ => some 2
  | .anewarray _ => some 3
  | .multianewarray _ _ => some 4
  | .invokestatic _ => some 3
  | .invokevirtual _ => some 3
  | .invokespecial _ => some 3
  | _ => some 1
def am_tg (i : Instr) (pc t : Nat) : Prop := match i with
  | .goto off => (pc : Int) + off = (t : Int)
  | .ifCond _ off => (pc : Int) + off = (t : Int)
  | .if_icmp _ off => (pc : Int) + off = (t : Int)
  | _ => True
def am_cok (T : am_T) (own k : Nat) (v : Value) : Prop := match v with
  | .int x => Cond.constant (pNm (tP T) own) k x ∈ tW T
  | .long x => Cond.constantLong (pNm (tP T) own) k x ∈ tW T
  | .double 1 => Cond.fieldLink (pNm (tP T) own) k "java/lang/String" "COMPACT_STRINGS" "Z" ∈ tW T
  | .double 2 => Cond.fieldLink (pNm (tP T) own) k "jdk/internal/util/Preconditions" "SIOOBE_FORMATTER" "Ljava/util/function/BiFunction;" ∈ tW T
  | .float 1 => Cond.fieldLink (pNm (tP T) own) k "java/lang/String" "coder" "B" ∈ tW T
  | .float 2 => Cond.fieldLink (pNm (tP T) own) k "java/lang/String" "value" "[B" ∈ tW T
  | _ => True
/-- how a method is linked from a class: by kind -/
def am_lnk (T : am_T) (own k y : Nat) : Prop := match y with
  | 0 => Cond.methodLink (pNm (tP T) own) k objectInit ∈ tW T ∧ Cond.instanceMethod objectInit ∈ tW T ∧ Cond.code objectInit ⟨#[0xb1]⟩ 1 none ∈ tW T
  | 1 => Cond.methodLink (pNm (tP T) own) k arraycopyName ∈ tW T ∧ Cond.native arraycopyName ∈ tW T ∧ Cond.static arraycopyName ∈ tW T ∧ Cond.initialized "java/lang/System" ∈ tW T
  | 2 => Cond.methodLink (pNm (tP T) own) k Lib.Math.max.name ∈ tW T ∧ Cond.static Lib.Math.max.name ∈ tW T ∧ Cond.initialized "java/lang/Math" ∈ tW T ∧ Cond.code Lib.Math.max.name Lib.Math.max.code 2 (some .int) ∈ tW T
  | 3 => Cond.methodLink (pNm (tP T) own) k Lib.Math.min.name ∈ tW T ∧ Cond.static Lib.Math.min.name ∈ tW T ∧ Cond.initialized "java/lang/Math" ∈ tW T ∧ Cond.code Lib.Math.min.name Lib.Math.min.code 2 (some .int) ∈ tW T
  | y => (Cond.methodLink (pNm (tP T) own) k (tN T y) ∈ tW T ∨ (iKnd (pInf (tP T) y) = 2 ∧ ∃ host, (pNm (tP T) own, k, tN T y, host) ∈ tH T))
def am_mok (T : am_T) (y : Nat) : Prop :=
  Cond.code (tN T y) (tB T y) (iMax (pInf (tP T) y)) (iRet (pInf (tP T) y)) ∈ tW T ∧ Cond.initialized (tN T y).cls ∈ tW T ∧ (tN T y).cls = pNm (tP T) (iOwn (pInf (tP T) y)) ∧ iMax (pInf (tP T) y) ≤ 13 ∧ plainName (tN T y).cls = true ∧
  ((tN T y).cls ≠ "java/lang/invoke/MethodHandle" ∧ (tN T y).cls ≠ "java/lang/invoke/VarHandle" ∧ (parseMethodDescriptor (tN T y).desc).map (fun d => d.parameters.length) = some (if iKnd (pInf (tP T) y) = 0 then iArg (pInf (tP T) y) else iArg (pInf (tP T) y) - 1)) ∧
  (match iKnd (pInf (tP T) y) with
    | 0 => Cond.static (tN T y) ∈ tW T
    | 1 => 0 < iArg (pInf (tP T) y) ∧ Cond.instanceMethod (tN T y) ∈ tW T ∧ Cond.selects (tN T y).cls (tN T y) (tN T y) ∈ tW T
    | 2 => 0 < iArg (pInf (tP T) y) ∧ Cond.instanceMethod (tN T y) ∈ tW T ∧ (tN T y).name = "<init>" ∧ iRet (pInf (tP T) y) = none
    | _ => False)
/-- the program's tables are as the words have them -/
def am_G (T : am_T) : Prop :=
  (∀ y pc i n t, pCode (tP T) y pc = some (i, n, t) → decode (tB T y) pc = .ok (i, (am_ln i).getD n) ∧ am_tg i pc t) ∧
  (∀ own k f, pFld (tP T) own k = some f → ∃ (F : u_T) (N : Nat), (tC T)[f.1]? = some (pNm (tP T) f.1, F, N) ∧ f.2 < N ∧ Cond.fieldLink (pNm (tP T) own) k (F f.2).1 (F f.2).2.1 (F f.2).2.2.1 ∈ tW T ∧ pFin (tP T) f.1 f.2 = (F f.2).2.2.2 ∧ (F f.2).1 = pNm (tP T) f.1) ∧
  (∀ (ci : Nat) (C : String) (F : u_T) (N : Nat), (tC T)[ci]? = some (C, F, N) → C = pNm (tP T) ci ∧ N = pNf (tP T) ci ∧ (∀ w ∈ u_ws C F N, w ∈ tW T) ∧ (∀ k, k < N → parseFieldDescriptor (F k).2.2.1 = some (pTy (tP T) ci k)) ∧ (∀ a, a < N → ∀ b, b < N → a ≠ b → (F a).2.1 ≠ (F b).2.1) ∧ Cond.instantiable C N ∈ tW T ∧ Cond.initialized C ∈ tW T) ∧
  (∀ own k v, pCst (tP T) own k = some v → am_cok T own k v) ∧
  (∀ own k ci, pCls (tP T) own k = some ci → ∃ (F : u_T) (N : Nat), (tC T)[ci]? = some (pNm (tP T) ci, F, N) ∧ Cond.classLink (pNm (tP T) own) k (pNm (tP T) ci) ∈ tW T) ∧
  (∀ own k y, pMth (tP T) own k = some y → am_lnk T own k y) ∧
  (∀ own k y, pMth (tP T) own k = some y → 4 ≤ y → am_mok T y) ∧
  (∀ w ∈ tW T, goodWord w = true) ∧
  (∀ y pc k n t ci, pCode (tP T) y pc = some (.anewarray k, n, t) → pCls (tP T) (iOwn (pInf (tP T) y)) k = some ci → pNm (tP T) ci ∈ tO T) ∧
  (∀ y pc a n t, pCode (tP T) y pc = some (.newarray a, n, t) → Cond.arrayClass (newarray.typeOf a) ∈ tW T)
def am_rm (d : Nat) (i : am_I) : Room := { frames := d, cells := iCel i, slots := iSlt i, locals := 32 * d }
def am_Pc (X : am_X) (T : am_T) (as : List Value) (M : am_M) : Array Value → State → Prop := fun a U => a = (as.map (xcv X)).toArray ∧ xRep X T M U.heap ∧ am_Wd X T U U.heap
def am_Qc (X : am_X) (T : am_T) (y : Nat) (M : am_M) (K : am_K) : Array Value → State → Outcome → State → Prop := fun _ st o t =>
  (∃ (r : Option Value) (M' : am_M), o = .returned (r.map (xcv X)) ∧ K r M' ∧ M'.1.1.length = M.1.1.length + iCel (pInf (tP T) y) ∧ am_sz (tP T) M' = am_sz (tP T) M + iSlt (pInf (tP T) y) ∧ xRep X T M' t.heap) ∧ va_F (xNew X) st t
abbrev am_ws (T : am_T) (y : Nat) : List Cond := Cond.code (tN T y) (tB T y) (iMax (pInf (tP T) y)) (iRet (pInf (tP T) y)) :: tW T
def am_Met (X : am_X) (T : am_T) (l : Launch) (d y : Nat) (as : List Value) (M : am_M) (K : am_K) : Prop :=
  Met l (tN T y) (am_ws T y) (am_rm d (pInf (tP T) y)) (am_Pc X T as M) (am_Qc X T y M K) (iCel (pInf (tP T) y)) (iSlt (pInf (tP T) y)) (xNew X)
theorem am_blind (X : am_X) (T : am_T) (as : List Value) (M : am_M) : FrameBlind (am_Pc X T as M) := by
  intro a U g mk h
  exact ⟨h.1, h.2.1, am_Wd.mv (s := U) (U := U.calling g mk a) (State.WarmedH.refl U) h.2.2⟩
section
variable {p : Program} {l : Launch} {e : Env} {R : Room} {s : State} {m : MethodId} {args : Array Value} {below : List Frame} {meth : Method} {c : Code} {H : Heap} {locs : List Loc} {cells slots : Nat} {Q : State → Prop}
theorem am_mva {X : am_X} {A0 H1 : Heap} (hS : va_S (xNew X) A0 H locs) : ∀ a : Nat, a < A0.size → ¬ xNew X a → H[a]? = A0[a]? := hS.2.1
/-- behind a call -/
theorem am_after {X : am_X} {T : am_T} {y : Nat} {M : am_M} {K : am_K} {mc ms pc : Nat} {ls : Array Slot} {st0 rest : List Value} {a : Array Value}
    (hr : va_Run p l e R s m args below meth c H locs cells slots mc ms (F0 m pc ls st0) rest (am_Qc X T y M K a) (xNew X)) (hS : va_S (xNew X) s.heap H locs)
    (kk : ∀ (r : Option Value) (M' : am_M) (H1 : Heap) (locs1 : List Loc), K r M' → M'.1.1.length = M.1.1.length + iCel (pInf (tP T) y) → am_sz (tP T) M' = am_sz (tP T) M + iSlt (pInf (tP T) y) → xRep X T M' H1 → va_S (xNew X) s.heap H1 locs1 →
      W p l e R s m args below meth c H1 locs1 (cells + mc) (slots + ms) Q (F0 m (pc + 3) ls ((r.map (xcv X)).toList ++ rest))) : W p l e R s m args below meth c H locs cells slots Q (F0 m pc ls st0) := by
  intro T0 hT X0
  obtain ⟨v, st₀, t, T', L, h0, X', hL, e1, e2, ⟨⟨r, M', hv, hk, hn, hz0, hrep⟩, hz, ho⟩, st⟩ := hr T0 hT X0
  cases hv
  rw [h0] at hz ho
  obtain ⟨t2, a1, b1⟩ := kk r M' T'.heap (locs ++ L) hk hn hz0 (by rw [e1]; exact hrep)
    ⟨Nat.le_trans hS.1 (by rw [e1]; exact hz), fun q h1 h2 => by rw [e1, ho q (Nat.lt_of_lt_of_le h1 hS.1) h2]; exact hS.2.1 q h1 h2, fun q hq => by
      rcases List.mem_append.mp hq with h | h
      · exact hS.2.2 q h
      · exact hL q h⟩ T' rfl X'
  exact ⟨t2, st t2 a1, b1⟩
/-- System.arraycopy between two arrays of one kind of number -/
theorem am_Wcopy {cc : ByteArray} {pc : Nat} {ls : Array Slot} {rest : List Value} {α : Type} (mk : α → Value) (ty : FieldType) (hprim : refKind ty = false) (hfits : ∀ z : α, fits ty (mk z) = true) (htk : ∀ (U : State) (dc : ClassId) (z : α), U.takes dc (mk z)) (hexec : p.tables.exec = Jvm.exec) (hb : c.code = cc) (hml : c.maxLocals = ls.size) {own : String} {index : Nat} (hown : s.vm.findClass own = some m.cls) (hlink : (Cond.methodLink own index arraycopyName).before args s = true) (hnat : (Cond.native arraycopyName).before args s = true) (hstat : (Cond.static arraycopyName).before args s = true) (hini : (Cond.initialized "java/lang/System").before args s = true)
    {a0 a : Nat} {cA : ClassId} {n0 n1 : Nat} {f g : Nat → α} (hA : ArrOfT s cA ty) (hc0 : H[a0]? = some (arrV cA n0 (fun j => mk (f j)))) (hc1 : H[a]? = some (arrV cA n1 (fun j => mk (g j))))
    {sp dp n : Int32} (h1 : ¬ sp < 0) (h2 : ¬ dp < 0) (h3 : ¬ n < 0) (h4 : sp.toNatClampNeg + n.toNatClampNeg ≤ n0) (h5 : dp.toNatClampNeg + n.toNatClampNeg ≤ n1)
    (hframes : 1 ≤ R.frames) (hlocals : (rest.map fun v => v.category).sum + (nativeFrameWords "java/lang/System" "arraycopy" 5 + 11) ≤ R.locals) (hdg : decode cc pc = .ok (.invokestatic index, 3))
    (kk : ∀ (H1 : Heap) (locs1 : List Loc), H1[a]? = some (arrV cA n1 (fun j => mk (va_cpy f g sp.toNatClampNeg dp.toNatClampNeg n.toNatClampNeg j))) → H1.size = H.size → (∀ q : Nat, q ≠ a → H1[q]? = H[q]?) → (∀ q ∈ locs1, q ∈ locs ∨ q.base = a) → W p l e R s m args below meth c H1 locs1 cells slots Q (F0 m (pc + 3) ls rest)) : W p l e R s m args below meth c H locs cells slots Q (F0 m pc ls (.int n :: .int dp :: .ref a :: .int sp :: .ref a0 :: rest)) := by
  have nn : ∀ z : Int32, ¬ z < 0 → z.toInt = (z.toNatClampNeg : Int) := by
    intro z hz
    have hz0 : (0 : Int) ≤ z.toInt := by
      have := Int32.not_lt.mp hz
      simpa using Int32.le_iff_toInt_le.mp this
    show z.toInt = ((z.toInt.toNat : Nat) : Int)
    omega
  intro T hT X
  obtain ⟨-, k0, hk0, cm0, hkk0⟩ := hA n0 (fun j => mk (f j))
  obtain ⟨-, k1, hk1, cm1, hkk1⟩ := hA n1 (fun j => mk (g j))
  obtain ⟨vm', X', step⟩ := X.arraycopy hexec hown hlink hnat hstat hini (src := a0) (dst := a) (cs := arrV cA n0 (fun j => mk (f j))) (cd := arrV cA n1 (fun j => mk (g j))) (srcPos := sp) (destPos := dp) (n := n) (by rw [hT]; exact hc0) (by rw [hT]; exact hc1)
    (fun _ h => by cases h) (fun _ h => by cases h) (fun h => by cases h) (fun h => by cases h) hk0 hk1 hkk0 hkk1 (by simp [hprim]) h1 h2 h3
    (by rw [nn sp h1, nn n h3, arrV_size]; omega)
    (by rw [nn dp h2, nn n h3, arrV_size]; omega)
    (fun vm₁ _ i hi => by
      have e : (arrV cA n0 (fun j => mk (f j))).slots.getD (sp.toNatClampNeg + i) .null = mk (f (sp.toNatClampNeg + i)) := by
        rw [Array.getD_eq_getD_getElem?, arrV_read _ _ (by omega)]
        rfl
      rw [e]
      exact ⟨hfits _, htk _ _ _⟩)
    (g := F0 m pc ls (.int n :: .int dp :: .ref a :: .int sp :: .ref a0 :: rest)) rfl (by rw [hml]) (rest := rest) rfl (by rw [hb]; exact hdg) hframes (by show 2 * 0 + _ + _ ≤ _; omega)
  have e1 : copied (arrV cA n0 (fun j => mk (f j))) (arrV cA n1 (fun j => mk (g j))) sp dp n = arrV cA n1 (fun j => mk (va_cpy f g sp.toNatClampNeg dp.toNatClampNeg n.toNatClampNeg j)) := va_copied mk cA cA f g h4
  rw [e1] at X' step
  have hl : a < H.size := (Array.getElem?_eq_some_iff.mp hc1).1
  obtain ⟨t, a1, b1⟩ := kk (H.setIfInBounds a (arrV cA n1 (fun j => mk (va_cpy f g sp.toNatClampNeg dp.toNatClampNeg n.toNatClampNeg j)))) _ (by simp [Array.getElem?_setIfInBounds, hl]) (by simp) (fun q hq => by simp [Array.getElem?_setIfInBounds, Ne.symm hq]) (fun q hq => by
      rcases List.mem_append.mp hq with h | h
      · exact Or.inl h
      · obtain ⟨z, -, hz⟩ := List.mem_map.mp h
        rw [← hz]
        exact Or.inr rfl) _ (by rw [← hT]; rfl) X'
  exact ⟨t, step t a1, b1⟩
end
end
section
/-! Each step of the small machine is a step of the machine. -/
theorem am_ldI_inv {L : List Value} {k : Nat} {F : Value → Prop} (h : am_ldI L k F) : ∃ x, L[k]? = some (.int x) ∧ F (.int x) := by
  unfold am_ldI at h; split at h
  · next x hx => exact ⟨x, hx, h⟩
  · exact h.elim
theorem am_ldL_inv {L : List Value} {k : Nat} {F : Value → Prop} (h : am_ldL L k F) : ∃ x, L[k]? = some (.long x) ∧ F (.long x) := by
  unfold am_ldL at h; split at h
  · next x hx => exact ⟨x, hx, h⟩
  · exact h.elim
theorem am_ldA_inv {L : List Value} {k : Nat} {F : Value → Prop} (h : am_ldA L k F) : (∃ x, L[k]? = some (.ref x) ∧ F (.ref x)) ∨ ∃ x, L[k]? = some (.retAddr x) ∧ F (.retAddr x) := by
  unfold am_ldA at h; split at h
  · next x hx => exact Or.inl ⟨x, hx, h⟩
  · next x hx => exact Or.inr ⟨x, hx, h⟩
  · exact h.elim
theorem am_stI_inv {L st : List Value} {k : Nat} {F : List Value → List Value → Prop} (h : am_stI L k st F) : ∃ x st', k < L.length ∧ st = .int x :: st' ∧ F (am_set L k (.int x)) st' := by
  unfold am_stI at h; split at h
  · next x st' hb => exact ⟨x, st', by simpa [Nat.blt_eq] using hb, rfl, h⟩
  · exact h.elim
theorem am_stL_inv {L st : List Value} {k : Nat} {F : List Value → List Value → Prop} (h : am_stL L k st F) : ∃ x st', k + 1 < L.length ∧ st = .long x :: st' ∧ F (am_set2 L k (.long x)) st' := by
  unfold am_stL at h; split at h
  · next x st' hb => exact ⟨x, st', by simpa [Nat.blt_eq] using hb, rfl, h⟩
  · exact h.elim
theorem am_stA_inv {L st : List Value} {k : Nat} {F : List Value → List Value → Prop} (h : am_stA L k st F) : ∃ v st', k < L.length ∧ st = v :: st' ∧ ((∃ x, v = .ref x) ∨ ∃ x, v = .retAddr x) ∧ F (am_set L k v) st' := by
  unfold am_stA at h; split at h
  · next x st' hb => exact ⟨_, st', by simpa [Nat.blt_eq] using hb, rfl, Or.inl ⟨x, rfl⟩, h⟩
  · next x st' hb => exact ⟨_, st', by simpa [Nat.blt_eq] using hb, rfl, Or.inr ⟨x, rfl⟩, h⟩
  · exact h.elim
theorem am_i1_inv {st : List Value} {F : Int32 → List Value → Prop} (h : am_i1 st F) : ∃ x st', st = .int x :: st' ∧ F x st' := by
  unfold am_i1 at h; split at h
  · exact ⟨_, _, rfl, h⟩
  · exact h.elim
theorem am_i2_inv {st : List Value} {F : Int32 → Int32 → List Value → Prop} (h : am_i2 st F) : ∃ x y st', st = .int y :: .int x :: st' ∧ F x y st' := by
  unfold am_i2 at h; split at h
  · exact ⟨_, _, _, rfl, h⟩
  · exact h.elim
theorem am_l1_inv {st : List Value} {F : Int64 → List Value → Prop} (h : am_l1 st F) : ∃ x st', st = .long x :: st' ∧ F x st' := by
  unfold am_l1 at h; split at h
  · exact ⟨_, _, rfl, h⟩
  · exact h.elim
theorem am_l2_inv {st : List Value} {F : Int64 → Int64 → List Value → Prop} (h : am_l2 st F) : ∃ x y st', st = .long y :: .long x :: st' ∧ F x y st' := by
  unfold am_l2 at h; split at h
  · exact ⟨_, _, _, rfl, h⟩
  · exact h.elim
theorem am_li_inv {st : List Value} {F : Int64 → Int32 → List Value → Prop} (h : am_li st F) : ∃ x y st', st = .int y :: .long x :: st' ∧ F x y st' := by
  unfold am_li at h; split at h
  · exact ⟨_, _, _, rfl, h⟩
  · exact h.elim
section
variable {p : Program} {l : Launch} {e : Env} {R : Room} {s : State} {m : MethodId} {args : Array Value} {below : List Frame} {meth : Method} {c : Code} {Q : State → Prop}
/-- the machine goes on from here, whatever heap holds the memory -/
def am_WW (X : am_X) (T : am_T) (p : Program) (l : Launch) (e : Env) (R : Room) (s : State) (m : MethodId) (args : Array Value) (below : List Frame) (meth : Method) (c : Code) (n0 z0 : Nat) (lim : Nat × Nat) (Q : State → Prop) : am_R := fun pc L st M =>
  ∀ (H : Heap) (ls : Array Slot) (locs : List Loc) (cells slots : Nat), xRep X T M H → va_S (xNew X) s.heap H locs → am_LH (xB X) (xV X) ls L → L.length = c.maxLocals → n0 + cells = M.1.1.length → z0 + slots = am_sz (tP T) M → M.1.1.length ≤ lim.1 → am_sz (tP T) M ≤ lim.2 →
    W p l e R s m args below meth c H locs cells slots Q (F0 m pc ls (st.map (xcv X)))
/-- where a body runs -/
def am_Cx (X : am_X) (T : am_T) (p : Program) (s : State) (m : MethodId) (args : Array Value) (meth : Method) (c : Code) (y : Nat) : Prop :=
  p.tables.exec = Jvm.exec ∧ c.code = tB T y ∧ s.vm.findClass (pNm (tP T) (iOwn (pInf (tP T) y))) = some m.cls ∧ (∀ w ∈ tW T, w.before args s = true) ∧ meth.locks = false ∧ (iKnd (pInf (tP T) y) = 2 → meth.name = "<init>") ∧ am_Wd X T s s.heap ∧ meth.sig.returnType = iRet (pInf (tP T) y)
def am_prim (i : Instr) : Bool := match i with
  | .iconst _ | .bipush _ | .sipush _ | .lconst _ | .iload_n _ | .iload _ | .lload_n _ | .lload _ | .aload_n _ | .aload _ | .istore_n _ | .istore _ | .lstore_n _ | .lstore _ | .astore_n _ | .astore _ | .iinc _ _ => true
  | .iadd | .isub | .imul | .iand | .ior | .ixor | .ishl | .ishr | .iushr | .idiv | .irem | .ladd | .lsub | .lmul | .land | .lor | .ldiv | .lrem | .lshl | .lcmp | .i2l | .i2b | .i2s | .i2c | .l2i | .dup | .dup2 | .pop => true
  | .goto _ | .ifCond _ _ | .if_icmp _ _ | .tableswitch _ _ _ _ | .lookupswitch _ _ => true
  | _ => false
set_option maxHeartbeats 4000000 in
theorem am_sound1 {X : am_X} {T : am_T} {y n0 z0 : Nat} {lim : Nat × Nat} {C : am_C} {K : am_K} (hG : am_G T) (hX : am_Xok X T) (hcx : am_Cx X T p s m args meth c y) {pc : Nat} {L st : List Value} {M : am_M} {i : Instr} {n t : Nat} (hc : pCode (tP T) y pc = some (i, n, t)) (hp : am_prim i = true)
    (h : am_step (tP T) (xE X) (iOwn (pInf (tP T) y)) (iKnd (pInf (tP T) y)) (iRet (pInf (tP T) y)) lim C K (am_WW X T p l e R s m args below meth c n0 z0 lim Q) i t pc L st M) : am_WW X T p l e R s m args below meth c n0 z0 lim Q pc L st M := by
  intro H ls locs cells slots hR hS hL hN h1 h2 h3 h4
  obtain ⟨hx, hb, hown, hts, hlk, hin, hw, hret⟩ := hcx
  obtain ⟨hd, htg⟩ := hG.1 y pc i n t hc
  have ht := hX.1
  cases i <;> first | cases hp | skip
  case iconst v => exact lv_iconst hx hb hd rfl (h H ls locs cells slots hR hS hL hN h1 h2 h3 h4)
  case bipush v => exact lv_bipush hx hb hd rfl (h H ls locs cells slots hR hS hL hN h1 h2 h3 h4)
  case sipush v => exact lv_sipush hx hb hd rfl (h H ls locs cells slots hR hS hL hN h1 h2 h3 h4)
  case lconst v => exact lv_lconst hx hb hd rfl (h H ls locs cells slots hR hS hL hN h1 h2 h3 h4)
  case iload_n k =>
    obtain ⟨x, e1, h⟩ := am_ldI_inv (by unfold am_step at h; exact h)
    exact lv_iload_n hx hb hd rfl (hL.2.2 _ _ e1 rfl) (h H ls locs cells slots hR hS hL hN h1 h2 h3 h4)
  case iload k =>
    obtain ⟨x, e1, h⟩ := am_ldI_inv (by unfold am_step at h; exact h)
    exact lv_iload hx hb hd (hL.2.2 _ _ e1 rfl) (h H ls locs cells slots hR hS hL hN h1 h2 h3 h4)
  case lload_n k =>
    obtain ⟨x, e1, h⟩ := am_ldL_inv (by unfold am_step at h; exact h)
    exact lv_lload_n hx hb hd rfl (hL.2.2 _ _ e1 rfl) (h H ls locs cells slots hR hS hL hN h1 h2 h3 h4)
  case lload k =>
    obtain ⟨x, e1, h⟩ := am_ldL_inv (by unfold am_step at h; exact h)
    exact lv_lload hx hb hd (hL.2.2 _ _ e1 rfl) (h H ls locs cells slots hR hS hL hN h1 h2 h3 h4)
  case aload_n k =>
    rcases am_ldA_inv (by unfold am_step at h; exact h) with ⟨x, e1, h⟩ | ⟨x, e1, h⟩
    · exact lv_aload_n hx hb hd rfl (hL.2.2 _ _ e1 rfl) (h H ls locs cells slots hR hS hL hN h1 h2 h3 h4)
    · have g := h H ls locs cells slots hR hS hL hN h1 h2 h3 h4
      have e2 := hL.2.2 _ _ e1 rfl
      have e3 : (.retAddr x :: st).map (xcv X) = xV X x :: st.map (xcv X) := rfl
      have e4 : am_cv (xB X) (xV X) (.retAddr x) = xV X x := rfl
      rw [e3] at g
      rw [e4] at e2
      rcases ht x with z | ⟨a, z⟩
      · rw [z] at g e2
        exact lv_aload_nN hx hb hd rfl e2 g
      · rw [z] at g e2
        exact lv_aload_n hx hb hd rfl e2 g
  case aload k =>
    rcases am_ldA_inv (by unfold am_step at h; exact h) with ⟨x, e1, h⟩ | ⟨x, e1, h⟩
    · exact lv_aload hx hb hd (hL.2.2 _ _ e1 rfl) (h H ls locs cells slots hR hS hL hN h1 h2 h3 h4)
    · have g := h H ls locs cells slots hR hS hL hN h1 h2 h3 h4
      have e2 := hL.2.2 _ _ e1 rfl
      have e3 : (.retAddr x :: st).map (xcv X) = xV X x :: st.map (xcv X) := rfl
      have e4 : am_cv (xB X) (xV X) (.retAddr x) = xV X x := rfl
      rw [e3] at g
      rw [e4] at e2
      rcases ht x with z | ⟨a, z⟩
      · rw [z] at g e2
        exact lv_aloadN hx hb hd e2 g
      · rw [z] at g e2
        exact lv_aload hx hb hd e2 g
  case istore_n k =>
    obtain ⟨x, st, hk, rfl, hh⟩ := am_stI_inv (by unfold am_step at h; exact h)
    exact lv_istore_n hx hb hd rfl hL.has hk rfl (fun ls' hl => hh H ls' locs cells slots hR hS (am_LH.set (v := .int x) ht rfl hl) ((by unfold am_set; split; simp; split <;> simp : (am_set L k (.int x)).length = L.length).trans hN) h1 h2 h3 h4)
  case istore k =>
    obtain ⟨x, st, hk, rfl, hh⟩ := am_stI_inv (by unfold am_step at h; exact h)
    exact lv_istore hx hb hd hL.has hk rfl (fun ls' hl => hh H ls' locs cells slots hR hS (am_LH.set (v := .int x) ht rfl hl) ((by unfold am_set; split; simp; split <;> simp : (am_set L k (.int x)).length = L.length).trans hN) h1 h2 h3 h4)
  case lstore_n k =>
    obtain ⟨x, st, hk, rfl, hh⟩ := am_stL_inv (by unfold am_step at h; exact h)
    exact lv_lstore_n hx hb hd rfl hL.has hk rfl (fun ls' hl => hh H ls' locs cells slots hR hS (am_LH.set2 (v := .long x) ht rfl hl) ((by unfold am_set2 am_set; split; simp; split <;> simp : (am_set2 L k (.long x)).length = L.length).trans hN) h1 h2 h3 h4)
  case lstore k =>
    obtain ⟨x, st, hk, rfl, hh⟩ := am_stL_inv (by unfold am_step at h; exact h)
    exact lv_lstore hx hb hd hL.has hk rfl (fun ls' hl => hh H ls' locs cells slots hR hS (am_LH.set2 (v := .long x) ht rfl hl) ((by unfold am_set2 am_set; split; simp; split <;> simp : (am_set2 L k (.long x)).length = L.length).trans hN) h1 h2 h3 h4)
  case astore_n k =>
    obtain ⟨v, st, hk, rfl, hv, hh⟩ := am_stA_inv (by unfold am_step at h; exact h)
    have hlen : (am_set L k v).length = L.length := by unfold am_set; split; simp; split <;> simp
    rcases hv with ⟨x, rfl⟩ | ⟨x, rfl⟩
    · exact lv_astore_n hx hb hd rfl hL.has hk rfl (fun ls' hl => hh H ls' locs cells slots hR hS (am_LH.set (v := .ref x) ht rfl hl) (hlen.trans hN) h1 h2 h3 h4)
    · have e3 : (.retAddr x :: st).map (xcv X) = xV X x :: st.map (xcv X) := rfl
      have key := fun (ls' : Array Slot) hl => hh H ls' locs cells slots hR hS (am_LH.set (v := .retAddr x) ht rfl hl) (hlen.trans hN) h1 h2 h3 h4
      have e4 : am_cv (xB X) (xV X) (.retAddr x) = xV X x := rfl
      rw [e4] at key
      rw [e3]
      rcases ht x with z | ⟨a, z⟩
      · rw [z] at key ⊢
        exact lv_astore_nN hx hb hd rfl hL.has hk rfl key
      · rw [z] at key ⊢
        exact lv_astore_n hx hb hd rfl hL.has hk rfl key
  case astore k =>
    obtain ⟨v, st, hk, rfl, hv, hh⟩ := am_stA_inv (by unfold am_step at h; exact h)
    have hlen : (am_set L k v).length = L.length := by unfold am_set; split; simp; split <;> simp
    rcases hv with ⟨x, rfl⟩ | ⟨x, rfl⟩
    · exact lv_astore hx hb hd hL.has hk rfl (fun ls' hl => hh H ls' locs cells slots hR hS (am_LH.set (v := .ref x) ht rfl hl) (hlen.trans hN) h1 h2 h3 h4)
    · have e3 : (.retAddr x :: st).map (xcv X) = xV X x :: st.map (xcv X) := rfl
      have key := fun (ls' : Array Slot) hl => hh H ls' locs cells slots hR hS (am_LH.set (v := .retAddr x) ht rfl hl) (hlen.trans hN) h1 h2 h3 h4
      have e4 : am_cv (xB X) (xV X) (.retAddr x) = xV X x := rfl
      rw [e4] at key
      rw [e3]
      rcases ht x with z | ⟨a, z⟩
      · rw [z] at key ⊢
        exact lv_astoreN hx hb hd hL.has hk rfl key
      · rw [z] at key ⊢
        exact lv_astore hx hb hd hL.has hk rfl key
  case iinc k v =>
    have h' : (match Nat.blt k L.length, L[k]? with
      | true, some (.int x) => am_WW X T p l e R s m args below meth c n0 z0 lim Q (pc + 3) (am_set L k (.int (x + Int32.ofInt v))) st M
      | _, _ => False) := h
    split at h'
    · next x hk hx' =>
      have hk : k < L.length := by simpa [Nat.blt_eq] using hk
      have hmem := am_prs_mem (base := xB X) (tv := xV X) hx' rfl
      obtain ⟨q, hq⟩ := List.getElem?_of_mem hmem
      exact lv_iinc hx hb hd hL.has hq rfl hk rfl (fun ls' hl => h' H ls' locs cells slots hR hS (am_LH.set (v := .int (x + Int32.ofInt v)) ht rfl hl) ((by unfold am_set; split; simp; split <;> simp : (am_set L k (.int (x + Int32.ofInt v))).length = L.length).trans hN) h1 h2 h3 h4)
    · exact h'.elim
  case iadd => obtain ⟨x, y', st, rfl, h⟩ := am_i2_inv h; exact lv_iadd hx hb hd (h H ls locs cells slots hR hS hL hN h1 h2 h3 h4)
  case isub => obtain ⟨x, y', st, rfl, h⟩ := am_i2_inv h; exact lv_isub hx hb hd (h H ls locs cells slots hR hS hL hN h1 h2 h3 h4)
  case imul => obtain ⟨x, y', st, rfl, h⟩ := am_i2_inv h; exact lv_imul hx hb hd (h H ls locs cells slots hR hS hL hN h1 h2 h3 h4)
  case iand => obtain ⟨x, y', st, rfl, h⟩ := am_i2_inv h; exact lv_iand hx hb hd (h H ls locs cells slots hR hS hL hN h1 h2 h3 h4)
  case ior => obtain ⟨x, y', st, rfl, h⟩ := am_i2_inv h; exact lv_ior hx hb hd (h H ls locs cells slots hR hS hL hN h1 h2 h3 h4)
  case ixor => obtain ⟨x, y', st, rfl, h⟩ := am_i2_inv h; exact lv_ixor hx hb hd (h H ls locs cells slots hR hS hL hN h1 h2 h3 h4)
  case ishl => obtain ⟨x, y', st, rfl, h⟩ := am_i2_inv h; exact lv_ishl hx hb hd (h H ls locs cells slots hR hS hL hN h1 h2 h3 h4)
  case ishr => obtain ⟨x, y', st, rfl, h⟩ := am_i2_inv h; exact lv_ishr hx hb hd (h H ls locs cells slots hR hS hL hN h1 h2 h3 h4)
  case iushr => obtain ⟨x, y', st, rfl, h⟩ := am_i2_inv h; exact lv_iushr hx hb hd rfl (h H ls locs cells slots hR hS hL hN h1 h2 h3 h4)
  case idiv => obtain ⟨x, y', st, rfl, h0, h⟩ := am_i2_inv h; exact lv_idiv hx hb hd h0 (h H ls locs cells slots hR hS hL hN h1 h2 h3 h4)
  case irem => obtain ⟨x, y', st, rfl, h0, h⟩ := am_i2_inv h; exact lv_irem hx hb hd h0 (h H ls locs cells slots hR hS hL hN h1 h2 h3 h4)
  case ladd => obtain ⟨x, y', st, rfl, h⟩ := am_l2_inv h; exact lv_ladd hx hb hd (h H ls locs cells slots hR hS hL hN h1 h2 h3 h4)
  case lsub => obtain ⟨x, y', st, rfl, h⟩ := am_l2_inv h; exact lv_lsub hx hb hd (h H ls locs cells slots hR hS hL hN h1 h2 h3 h4)
  case lmul => obtain ⟨x, y', st, rfl, h⟩ := am_l2_inv h; exact lv_lmul hx hb hd (h H ls locs cells slots hR hS hL hN h1 h2 h3 h4)
  case land => obtain ⟨x, y', st, rfl, h⟩ := am_l2_inv h; exact lv_land hx hb hd (h H ls locs cells slots hR hS hL hN h1 h2 h3 h4)
  case lor => obtain ⟨x, y', st, rfl, h⟩ := am_l2_inv h; exact lv_lor hx hb hd (h H ls locs cells slots hR hS hL hN h1 h2 h3 h4)
  case ldiv => obtain ⟨x, y', st, rfl, h0, h⟩ := am_l2_inv h; exact lv_ldiv hx hb hd h0 (h H ls locs cells slots hR hS hL hN h1 h2 h3 h4)
  case lrem => obtain ⟨x, y', st, rfl, h0, h⟩ := am_l2_inv h; exact lv_lrem hx hb hd h0 (h H ls locs cells slots hR hS hL hN h1 h2 h3 h4)
  case lshl => obtain ⟨x, y', st, rfl, h⟩ := am_li_inv h; exact lv_lshl hx hb hd rfl (h H ls locs cells slots hR hS hL hN h1 h2 h3 h4)
  case lcmp => obtain ⟨x, y', st, rfl, h⟩ := am_l2_inv h; exact W.lcmp hx hb hd (h H ls locs cells slots hR hS hL hN h1 h2 h3 h4)
  case i2l => obtain ⟨x, st, rfl, h⟩ := am_i1_inv h; exact lv_i2l hx hb hd rfl (h H ls locs cells slots hR hS hL hN h1 h2 h3 h4)
  case i2b => obtain ⟨x, st, rfl, h⟩ := am_i1_inv h; exact lv_i2b hx hb hd rfl (h H ls locs cells slots hR hS hL hN h1 h2 h3 h4)
  case i2s => obtain ⟨x, st, rfl, h⟩ := am_i1_inv h; exact lv_i2s hx hb hd rfl (h H ls locs cells slots hR hS hL hN h1 h2 h3 h4)
  case i2c => obtain ⟨x, st, rfl, h⟩ := am_i1_inv h; exact lv_i2c hx hb hd rfl (h H ls locs cells slots hR hS hL hN h1 h2 h3 h4)
  case l2i => obtain ⟨x, st, rfl, h⟩ := am_l1_inv h; exact lv_l2i hx hb hd rfl (h H ls locs cells slots hR hS hL hN h1 h2 h3 h4)
  case dup =>
    unfold am_step at h
    dsimp only at h
    split at h
    · exact lv_dup hx hb hd rfl (h H ls locs cells slots hR hS hL hN h1 h2 h3 h4)
    · exact lv_dup hx hb hd rfl (h H ls locs cells slots hR hS hL hN h1 h2 h3 h4)
    · exact h.elim
  case dup2 =>
    unfold am_step at h
    dsimp only at h
    split at h
    · exact lv_dup2_11 hx hb hd rfl rfl (h H ls locs cells slots hR hS hL hN h1 h2 h3 h4)
    · exact lv_dup2_11 hx hb hd rfl rfl (h H ls locs cells slots hR hS hL hN h1 h2 h3 h4)
    · exact h.elim
  case pop =>
    unfold am_step at h
    dsimp only at h
    split at h
    · exact lv_pop hx hb hd rfl (h H ls locs cells slots hR hS hL hN h1 h2 h3 h4)
    · exact lv_pop hx hb hd rfl (h H ls locs cells slots hR hS hL hN h1 h2 h3 h4)
    · exact h.elim
  case goto off => exact lv_goto hx hb hd htg (h H ls locs cells slots hR hS hL hN h1 h2 h3 h4)
  case ifCond cd off =>
    obtain ⟨x, st, rfl, ha, hb'⟩ := am_i1_inv h
    cases cd
    · exact lv_if_eq hx hb hd htg (fun z => ha z H ls locs cells slots hR hS hL hN h1 h2 h3 h4) (fun z => hb' z H ls locs cells slots hR hS hL hN h1 h2 h3 h4)
    · exact lv_if_ne hx hb hd htg (fun z => ha z H ls locs cells slots hR hS hL hN h1 h2 h3 h4) (fun z => hb' (fun w => w z) H ls locs cells slots hR hS hL hN h1 h2 h3 h4)
    · exact lv_if_lt hx hb hd htg (fun z => ha z H ls locs cells slots hR hS hL hN h1 h2 h3 h4) (fun z => hb' z H ls locs cells slots hR hS hL hN h1 h2 h3 h4)
    · exact lv_if_ge hx hb hd htg (fun z => ha z H ls locs cells slots hR hS hL hN h1 h2 h3 h4) (fun z => hb' z H ls locs cells slots hR hS hL hN h1 h2 h3 h4)
    · exact lv_if_gt hx hb hd htg (fun z => ha z H ls locs cells slots hR hS hL hN h1 h2 h3 h4) (fun z => hb' z H ls locs cells slots hR hS hL hN h1 h2 h3 h4)
    · exact lv_if_le hx hb hd htg (fun z => ha z H ls locs cells slots hR hS hL hN h1 h2 h3 h4) (fun z => hb' z H ls locs cells slots hR hS hL hN h1 h2 h3 h4)
  case if_icmp cd off =>
    obtain ⟨x, y', st, rfl, ha, hb'⟩ := am_i2_inv h
    cases cd
    · exact lv_icmp_eq hx hb hd htg (fun z => ha z H ls locs cells slots hR hS hL hN h1 h2 h3 h4) (fun z => hb' z H ls locs cells slots hR hS hL hN h1 h2 h3 h4)
    · exact lv_icmp_ne hx hb hd htg (fun z => ha z H ls locs cells slots hR hS hL hN h1 h2 h3 h4) (fun z => hb' (fun w => w z) H ls locs cells slots hR hS hL hN h1 h2 h3 h4)
    · exact lv_icmp_lt hx hb hd htg (fun z => ha z H ls locs cells slots hR hS hL hN h1 h2 h3 h4) (fun z => hb' z H ls locs cells slots hR hS hL hN h1 h2 h3 h4)
    · exact lv_icmp_ge hx hb hd htg (fun z => ha z H ls locs cells slots hR hS hL hN h1 h2 h3 h4) (fun z => hb' z H ls locs cells slots hR hS hL hN h1 h2 h3 h4)
    · exact lv_icmp_gt hx hb hd htg (fun z => ha z H ls locs cells slots hR hS hL hN h1 h2 h3 h4) (fun z => hb' z H ls locs cells slots hR hS hL hN h1 h2 h3 h4)
    · exact lv_icmp_le hx hb hd htg (fun z => ha z H ls locs cells slots hR hS hL hN h1 h2 h3 h4) (fun z => hb' z H ls locs cells slots hR hS hL hN h1 h2 h3 h4)
  case tableswitch dd lo hi o =>
    obtain ⟨x, st, rfl, t', hsw, h⟩ := am_i1_inv h
    rcases hsw with ⟨q1, q2⟩ | ⟨q1, q2, off, q3, q4⟩
    · exact lv_tableOut hx hb hd q1 q2 (h H ls locs cells slots hR hS hL hN h1 h2 h3 h4)
    · exact lv_tableIn hx hb hd q1 q2 q3 q4 (h H ls locs cells slots hR hS hL hN h1 h2 h3 h4)
  case lookupswitch dd ps =>
    obtain ⟨x, st, rfl, t', q1, q2, h⟩ := am_i1_inv h
    exact lv_lookup hx hb hd q1 rfl q2 (h H ls locs cells slots hR hS hL hN h1 h2 h3 h4)
end
end
section
/-! Steps that read and write the heap. -/
section
variable {p : Program} {l : Launch} {e : Env} {R : Room} {s : State} {m : MethodId} {args : Array Value} {below : List Frame} {meth : Method} {c : Code} {Q : State → Prop}
variable {X : am_X} {T : am_T} {y n0 z0 : Nat} {lim : Nat × Nat} {C : am_C} {K : am_K} {pc : Nat} {L st : List Value} {M : am_M}
theorem am_arr {H : Heap} {k n : Nat} {ty : FieldType} (hR : xRep X T M H) (hk : M.1.1[k]? = some (.inr (ty, n))) : ∃ cA, xA X ty = some cA ∧ H[xB X + k]? = some (arrV cA n (fun j => am_val (xB X) ty M k j)) := hR.2.1 k _ hk
/-- a place of an array of ints, bytes or truths is written -/
theorem am_Rep_ui {H H' : Heap} {k n j : Nat} {ty : FieldType} {x : Int32} {cA : ClassId} (hR : xRep X T M H) (hk : M.1.1[k]? = some (.inr (ty, n))) (hkd : am_kd ty = 0) (hA : xA X ty = some cA)
    (e1 : H'[xB X + k]? = some ((arrV cA n (fun j => am_val (xB X) ty M k j)).setSlot j (.int x))) (e2 : H'.size = H.size) (e3 : ∀ q, q ≠ xB X + k → H'[q]? = H[q]?) : xRep X T (am_ui M k j x) H' := by
  refine am_Rep.put hR rfl hk (fun k' hk' j' => ⟨?_, rfl, rfl⟩) e2 e3 ⟨cA, hA, ?_⟩
  · show (if k' = k then _ else _) = _
    rw [if_neg hk']
  · rw [e1, arrV_store]
    congr 2
    funext j'
    unfold updV am_val
    rw [hkd]
    by_cases h : j' = j
    · subst h; simp [am_ui]
    · simp [am_ui, h]
theorem am_Rep_ul {H H' : Heap} {k n j : Nat} {ty : FieldType} {x : Int64} {cA : ClassId} (hR : xRep X T M H) (hk : M.1.1[k]? = some (.inr (ty, n))) (hkd : am_kd ty = 1) (hA : xA X ty = some cA)
    (e1 : H'[xB X + k]? = some ((arrV cA n (fun j => am_val (xB X) ty M k j)).setSlot j (.long x))) (e2 : H'.size = H.size) (e3 : ∀ q, q ≠ xB X + k → H'[q]? = H[q]?) : xRep X T (am_ul M k j x) H' := by
  refine am_Rep.put hR rfl hk (fun k' hk' j' => ⟨rfl, ?_, rfl⟩) e2 e3 ⟨cA, hA, ?_⟩
  · show (if k' = k then _ else _) = _
    rw [if_neg hk']
  · rw [e1, arrV_store]
    congr 2
    funext j'
    unfold updV am_val
    rw [hkd]
    by_cases h : j' = j
    · subst h; simp [am_ul]
    · simp [am_ul, h]
theorem am_Rep_ur {H H' : Heap} {k n j : Nat} {ty : FieldType} {x : Nat} {cA : ClassId} (hR : xRep X T M H) (hk : M.1.1[k]? = some (.inr (ty, n))) (hkd : am_kd ty = 2) (hA : xA X ty = some cA)
    (e1 : H'[xB X + k]? = some ((arrV cA n (fun j => am_val (xB X) ty M k j)).setSlot j (.ref (xB X + x)))) (e2 : H'.size = H.size) (e3 : ∀ q, q ≠ xB X + k → H'[q]? = H[q]?) : xRep X T (am_ur M k j x) H' := by
  refine am_Rep.put hR rfl hk (fun k' hk' j' => ⟨rfl, rfl, ?_⟩) e2 e3 ⟨cA, hA, ?_⟩
  · show (if k' = k then _ else _) = _
    rw [if_neg hk']
  · rw [e1, arrV_store]
    congr 2
    funext j'
    unfold updV am_val
    rw [hkd]
    by_cases h : j' = j
    · subst h; simp [am_ur]
    · simp [am_ur, h]
theorem am_S_put {H H' : Heap} {locs : List Loc} {k j : Nat} (hS : va_S (xNew X) s.heap H locs) (e2 : H'.size = H.size) (e3 : ∀ q, q ≠ xB X + k → H'[q]? = H[q]?) : va_S (xNew X) s.heap H' (locs ++ [⟨xB X + k, j⟩]) := hS.put e2 e3 (Nat.le_add_right _ _)
/-- a field of an object is read -/
theorem am_fld {H : Heap} {k : Nat} {f : Nat × Nat} {own idx : Nat} (hG : am_G T) (hw : am_Wd X T s s.heap) (hts : ∀ w ∈ tW T, w.before args s = true) (hf : pFld (tP T) own idx = some f) (hR : xRep X T M H) (hk : M.1.1[k]? = some (.inl f.1)) :
    ∃ (F : u_T) (N : Nat) (cell : Cell) (cf : Nat) (kf : Class) (fi : Nat) (fd : Field), (tC T)[f.1]? = some (pNm (tP T) f.1, F, N) ∧ f.2 < N ∧ Cond.fieldLink (pNm (tP T) own) idx (F f.2).1 (F f.2).2.1 (F f.2).2.2.1 ∈ tW T ∧ pFin (tP T) f.1 f.2 = (F f.2).2.2.2 ∧ (F f.2).1 = pNm (tP T) f.1 ∧
      H[xB X + k]? = some cell ∧ cell.cls = (xD X).1 f.1 ∧ cell.vm = .none ∧ (∀ j, j < N → cell.slots[(xD X).2 f.1 j]? = some (am_val (xB X) (pTy (tP T) f.1 j) M k j)) ∧ s.fieldFound? (F f.2).1 (F f.2).2.1 (F f.2).2.2.1 = some (cf, kf, fi, fd) ∧ fd.slot = (xD X).2 f.1 f.2 := by
  obtain ⟨F, N, h1, h2, h3, h4, h5⟩ := hG.2.1 own idx f hf
  obtain ⟨r, h6, cell, q1, q2, q3, q4⟩ := hR.2.1 k _ hk
  have hr : r = (pNm (tP T) f.1, F, N) := Option.some.inj (h6.symm.trans h1)
  subst hr
  obtain ⟨hs, -⟩ := hw.1 _ _ h1
  obtain ⟨cf, kf, fi, fd, hi, hsl⟩ := hs f.2 h2
  exact ⟨F, N, cell, cf, kf, fi, fd, h1, h2, h3, h4, h5, q1, q2, q3, q4, hi, hsl⟩
theorem am_getf {H : Heap} {ls : Array Slot} {locs : List Loc} {cells slots : Nat} {k : Nat} {f : Nat × Nat} {own idx : Nat} {rest : List Value} {cc : ByteArray} (hG : am_G T) (hw : am_Wd X T s s.heap) (hts : ∀ w ∈ tW T, w.before args s = true) (hx : p.tables.exec = Jvm.exec) (hb : c.code = cc) (hown : s.vm.findClass (pNm (tP T) own) = some m.cls) (hf : pFld (tP T) own idx = some f) (hR : xRep X T M H) (hk : M.1.1[k]? = some (.inl f.1)) (hd : decode cc pc = .ok (.getfield idx, 3))
    (kk : W p l e R s m args below meth c H locs cells slots Q (F0 m (pc + 3) ls (am_val (xB X) (pTy (tP T) f.1 f.2) M k f.2 :: rest))) : W p l e R s m args below meth c H locs cells slots Q (F0 m pc ls (.ref (xB X + k) :: rest)) := by
  obtain ⟨F, N, cell, cf, kf, fi, fd, h1, h2, h3, h4, h5, q1, q2, q3, q4, hi, hsl⟩ := am_fld hG hw hts hf hR hk
  obtain ⟨-, -, hin, -⟩ := hG.2.2.1 _ _ _ _ h1
  obtain ⟨-, hfc, kC, hkC, hkind⟩ := hw.1 _ _ h1
  exact W.getf hx hb hown (hts _ h3) hi (u_facts hfc hkC (u_lays hts hin h2) hi).1 q1 (by rw [q3]; exact fun h => by cases h) (by rw [hsl]; exact q4 _ h2) rfl rfl hd kk
/-- a field of an object is written -/
theorem am_putf {H : Heap} {ls : Array Slot} {locs : List Loc} {cells slots : Nat} {k : Nat} {f : Nat × Nat} {own idx : Nat} {rest : List Value} {cc : ByteArray} {v : Value} {M' : am_M} (hG : am_G T) (hw : am_Wd X T s s.heap) (hts : ∀ w ∈ tW T, w.before args s = true) (hx : p.tables.exec = Jvm.exec) (hb : c.code = cc) (hown : s.vm.findClass (pNm (tP T) own) = some m.cls) (hf : pFld (tP T) own idx = some f) (hR : xRep X T M H) (hS : va_S (xNew X) s.heap H locs) (hk : M.1.1[k]? = some (.inl f.1)) (hd : decode cc pc = .ok (.putfield idx, 3))
    (hfin : pFin (tP T) f.1 f.2 = false ∨ (meth.name = "<init>" ∧ own = f.1)) (hn : narrow (pTy (tP T) f.1 f.2) v = v) (hfit : fits (pTy (tP T) f.1 f.2) v = true)
    (hs : M'.1.1 = M.1.1) (hv : ∀ k', k' ≠ k → ∀ j, M'.2.1 k' j = M.2.1 k' j ∧ M'.2.2 k' j = M.2.2 k' j ∧ M'.1.2 k' j = M.1.2 k' j) (hsame : ∀ (ty : FieldType) (j : Nat), j ≠ f.2 → am_val (xB X) ty M' k j = am_val (xB X) ty M k j) (hnew : am_val (xB X) (pTy (tP T) f.1 f.2) M' k f.2 = v)
    (kk : ∀ (H1 : Heap) (locs1 : List Loc), xRep X T M' H1 → va_S (xNew X) s.heap H1 locs1 → W p l e R s m args below meth c H1 locs1 cells slots Q (F0 m (pc + 3) ls rest)) : W p l e R s m args below meth c H locs cells slots Q (F0 m pc ls (v :: .ref (xB X + k) :: rest)) := by
  obtain ⟨F, N, cell, cf, kf, fi, fd, h1, h2, h3, h4, h5, q1, q2, q3, q4, hi, hsl⟩ := am_fld hG hw hts hf hR hk
  obtain ⟨-, -, hin, hty, hnm, -⟩ := hG.2.2.1 _ _ _ _ h1
  obtain ⟨hSl, hfc, kC, hkC, hkind⟩ := hw.1 _ _ h1
  have hlays := u_lays hts hin h2
  have hap : ∀ x y, x < N → y < N → x ≠ y → ((xD X).2 f.1) x ≠ ((xD X).2 f.1) y := by
    intro x y hx' hy' hne
    obtain ⟨_, _, _, fa, hia, ea⟩ := hSl x hx'
    obtain ⟨_, _, _, fb, hib, eb⟩ := hSl y hy'
    rw [← ea, ← eb]
    refine u_apart (u_lays hts hin hx') (u_lays hts hin hy') hia hib ?_
    rw [(State.fieldFound?_type hia (hty x hx')).1, (State.fieldFound?_type hib (hty y hy')).1]
    exact hnm x hx' y hy' hne
  have hst := (u_facts hfc hkC hlays hi).1
  have fin : ∀ H' : Heap, H'[xB X + k]? = some (cell.setSlot fd.slot v) → H'.size = H.size → (∀ q, q ≠ xB X + k → H'[q]? = H[q]?) → W p l e R s m args below meth c H' (locs ++ [⟨xB X + k, fd.slot⟩]) cells slots Q (F0 m (pc + 3) ls rest) := by
    intro H' e1 e2 e3
    refine kk H' _ (am_Rep.put hR hs hk hv e2 e3 ⟨_, h1, ?_⟩) (am_S_put hS e2 e3)
    rw [hsl] at e1
    have hob : t_OB (xB X + k) ((xD X).1 f.1) N ((xD X).2 f.1) H' (updV (fun j => am_val (xB X) (pTy (tP T) f.1 j) M k j) f.2 v) := ⟨_, e1, q2, q3, t_set q4 hap h2 v⟩
    refine hob.to fun j hj => ?_
    unfold updV
    by_cases hjf : j = f.2
    · subst hjf; simp [hnew]
    · simp [hjf, hsame _ j hjf]
  rcases hfin with hfin | ⟨hin2, hof⟩
  · have hlay := hts _ (hin _ (u_in_lay h2))
    unfold u_lay at hlay
    rw [if_neg (by rw [← h4, hfin]; decide)] at hlay
    have h6 := u_store hfc hkC hkind hlay hi (hty _ h2) hn hfit
    exact W.putK hx hb (f := fd) ⟨hown, hts _ h3, ⟨_, _, _, hi⟩, hst⟩ (by rw [q2]; exact h6) q1 q3 (by rw [hsl]; exact k2_hasslot (q4 _ h2)) rfl rfl hd fin
  · by_cases hF : (F f.2).2.2.2 = true
    · have hlay := hts _ (hin _ (u_in_lay h2))
      unfold u_lay at hlay
      rw [if_pos hF] at hlay
      have hcf : m.cls = cf := by
        obtain ⟨_, _, c', _, _, _, -, -, hf', -, -, -, hown2, -⟩ := Cond.laysFinal_spec hlay
        have e1 : c' = cf := by have := hi.symm.trans hf'; simp at this; exact this.1.symm
        rw [h5, ← hof] at hown2
        rw [← e1]; exact Option.some.inj (hown.symm.trans hown2)
      have h6 := u_fits hfc hkC hkind (Or.inr hlay) hi (hty _ h2) hn hfit
      exact W.putFinK hx hb hown (hts _ h3) hi hst hcf hin2 (by rw [q2]; exact h6) q1 q3 (by rw [hsl]; exact k2_hasslot (q4 _ h2)) rfl rfl hd fin
    · have hlay := hts _ (hin _ (u_in_lay h2))
      unfold u_lay at hlay
      rw [if_neg hF] at hlay
      have h6 := u_store hfc hkC hkind hlay hi (hty _ h2) hn hfit
      exact W.putK hx hb (f := fd) ⟨hown, hts _ h3, ⟨_, _, _, hi⟩, hst⟩ (by rw [q2]; exact h6) q1 q3 (by rw [hsl]; exact k2_hasslot (q4 _ h2)) rfl rfl hd fin
theorem am_fit_ok {ty : FieldType} {x : Int32} (h : am_fit ty x) : narrow ty (.int x) = .int x ∧ fits ty (.int x) = true := by
  cases ty with
  | int => exact ⟨rfl, rfl⟩
  | boolean =>
    rcases h with rfl | rfl
    · exact ⟨by decide, by decide⟩
    · exact ⟨by decide, by decide⟩
  | char =>
    refine ⟨h, ?_⟩
    have h' : narrow .char (.int x) = .int x := h
    rw [← h']
    exact pk_fc x
  | byte =>
    refine ⟨h, ?_⟩
    have h' : narrow .byte (.int x) = .int x := h
    rw [← h']
    exact pk_fb x
  | _ => exact h.elim
set_option maxHeartbeats 4000000 in
theorem am_sound_fld (hG : am_G T) (hX : am_Xok X T) (hcx : am_Cx X T p s m args meth c y) {k n t : Nat} (hc : pCode (tP T) y pc = some (.getfield k, n, t))
    (h : am_step (tP T) (xE X) (iOwn (pInf (tP T) y)) (iKnd (pInf (tP T) y)) (iRet (pInf (tP T) y)) lim C K (am_WW X T p l e R s m args below meth c n0 z0 lim Q) (.getfield k) t pc L st M) : am_WW X T p l e R s m args below meth c n0 z0 lim Q pc L st M := by
  intro H ls locs cells slots hR hS hL hN h1 h2 h3 h4
  obtain ⟨hx, hb, hown, hts, hlk, hin, hw, hret⟩ := hcx
  obtain ⟨hd, htg⟩ := hG.1 y pc _ n t hc
  unfold am_step at h
  dsimp only at h
  split at h
  · next f hf =>
    unfold am_get at h
    split at h
    · next a st =>
      obtain ⟨hk, h⟩ := h
      refine am_getf hG hw hts hx hb hown hf hR hk hd ?_
      split at h
      · next z => have e1 : am_val (xB X) (pTy (tP T) f.1 f.2) M a f.2 = .int (M.2.1 a f.2) := by unfold am_val; rw [z]; rfl
                  rw [e1]; exact h H ls locs cells slots hR hS hL hN h1 h2 h3 h4
      · next z => have e1 : am_val (xB X) (pTy (tP T) f.1 f.2) M a f.2 = .long (M.2.2 a f.2) := by unfold am_val; rw [z]; rfl
                  rw [e1]; exact h H ls locs cells slots hR hS hL hN h1 h2 h3 h4
      · next z =>
        obtain ⟨b, hb2, h⟩ := h
        have e1 : am_val (xB X) (pTy (tP T) f.1 f.2) M a f.2 = .ref (xB X + b) := by unfold am_val; rw [z, hb2]; rfl
        rw [e1]; exact h H ls locs cells slots hR hS hL hN h1 h2 h3 h4
      · exact h.elim
    · exact h.elim
  · next hf hcs =>
    have hl := hG.2.2.2.1 _ _ _ hcs
    unfold am_getS at h
    split at h
    · next a st =>
      obtain ⟨i, rfl, hi, h⟩ := h
      have e1 := (hX.2.2.2.1 i hi).1
      have hE := (hw.2.2.2.1.1 i hi).2.1
      have g := h H ls locs cells slots hR hS hL hN h1 h2 h3 h4
      have e2 : (Value.retAddr (2 * i + 2) :: st).map (xcv X) = .ref (xK X i) :: st.map (xcv X) := by rw [← e1]; rfl
      rw [e2]
      exact vk_getf hx hb hE hS hown (hts _ hl) (fun _ z => z) hd g
    · exact h.elim
  · next hf hcs =>
    have hl := hG.2.2.2.1 _ _ _ hcs
    unfold am_getS at h
    split at h
    · next a st =>
      obtain ⟨i, rfl, hi, h⟩ := h
      have e1 := (hX.2.2.2.1 i hi).1
      have e3 := (hX.2.2.2.1 i hi).2.1
      have hE := (hw.2.2.2.1.1 i hi).2.2.1
      have g := h H ls locs cells slots hR hS hL hN h1 h2 h3 h4
      have e2 : (Value.retAddr (2 * i + 2) :: st).map (xcv X) = .ref (xK X i) :: st.map (xcv X) := by rw [← e1]; rfl
      have e4 : (Value.retAddr (2 * i + 2 + 1) :: st).map (xcv X) = .ref (xW X i) :: st.map (xcv X) := by rw [← e3]; rfl
      rw [e2]
      rw [e4] at g
      exact vk_getf hx hb hE hS hown (hts _ hl) (fun _ z => z) hd g
    · exact h.elim
  · exact h.elim
set_option maxHeartbeats 4000000 in
theorem am_sound_put (hG : am_G T) (hX : am_Xok X T) (hcx : am_Cx X T p s m args meth c y) {k n t : Nat} (hc : pCode (tP T) y pc = some (.putfield k, n, t))
    (h : am_step (tP T) (xE X) (iOwn (pInf (tP T) y)) (iKnd (pInf (tP T) y)) (iRet (pInf (tP T) y)) lim C K (am_WW X T p l e R s m args below meth c n0 z0 lim Q) (.putfield k) t pc L st M) : am_WW X T p l e R s m args below meth c n0 z0 lim Q pc L st M := by
  intro H ls locs cells slots hR hS hL hN h1 h2 h3 h4
  obtain ⟨hx, hb, hown, hts, hlk, hin, hw, hret⟩ := hcx
  obtain ⟨hd, htg⟩ := hG.1 y pc _ n t hc
  unfold am_step at h
  dsimp only at h
  split at h
  · next f hf =>
    unfold am_put at h
    split at h
    · next hfb =>
      have hfin : pFin (tP T) f.1 f.2 = false ∨ (meth.name = "<init>" ∧ iOwn (pInf (tP T) y) = f.1) := by
        simp only [Bool.or_eq_true, Bool.not_eq_true', Bool.and_eq_true] at hfb
        rcases hfb with z | ⟨z1, z2⟩
        · exact Or.inl z
        · exact Or.inr ⟨hin (Nat.eq_of_beq_eq_true z1), Nat.eq_of_beq_eq_true z2⟩
      split at h
      · next x a st z =>
        obtain ⟨hk, hft, h⟩ := h
        obtain ⟨g1, g2⟩ := am_fit_ok hft
        refine am_putf (M' := am_ui M a f.2 x) hG hw hts hx hb hown hf hR hS hk hd hfin g1 g2 rfl (fun k' hk' j => ⟨?_, rfl, rfl⟩) (fun ty j hj => am_val_congr ?_ rfl rfl) ?_ (fun H1 locs1 hR1 hS1 => h H1 ls locs1 cells slots hR1 hS1 hL hN h1 h2 h3 h4)
        · simp [am_ui, hk']
        · simp [am_ui, hj]
        · unfold am_val; rw [z]; simp [am_ui]; rfl
      · next x a st z =>
        obtain ⟨hk, h⟩ := h
        have hty : pTy (tP T) f.1 f.2 = .long := by
          revert z; cases pTy (tP T) f.1 f.2 <;> simp [am_kd]
        refine am_putf (M' := am_ul M a f.2 x) hG hw hts hx hb hown hf hR hS hk hd hfin (by rw [hty]; rfl) (by rw [hty]; rfl) rfl (fun k' hk' j => ⟨rfl, ?_, rfl⟩) (fun ty j hj => am_val_congr rfl ?_ rfl) ?_ (fun H1 locs1 hR1 hS1 => h H1 ls locs1 cells slots hR1 hS1 hL hN h1 h2 h3 h4)
        · simp [am_ul, hk']
        · simp [am_ul, hj]
        · unfold am_val; rw [z]; simp [am_ul]; rfl
      · next x a st z =>
        obtain ⟨hk, h⟩ := h
        have hty : (∃ C, pTy (tP T) f.1 f.2 = .object C) ∨ ∃ t', pTy (tP T) f.1 f.2 = .array t' := by
          revert z; cases pTy (tP T) f.1 f.2 <;> simp [am_kd]
        refine am_putf (M' := am_ur M a f.2 x) (v := .ref (xB X + x)) hG hw hts hx hb hown hf hR hS hk hd hfin (by rcases hty with ⟨C, q⟩ | ⟨t', q⟩ <;> rw [q] <;> rfl) (by rcases hty with ⟨C, q⟩ | ⟨t', q⟩ <;> rw [q] <;> rfl) rfl (fun k' hk' j => ⟨rfl, rfl, ?_⟩) (fun ty j hj => am_val_congr rfl rfl ?_) ?_ (fun H1 locs1 hR1 hS1 => h H1 ls locs1 cells slots hR1 hS1 hL hN h1 h2 h3 h4)
        · simp [am_ur, hk']
        · simp [am_ur, hj]
        · unfold am_val; rw [z]; simp [am_ur]
      · exact h.elim
    · exact h.elim
  · exact h.elim
end
end
section
/-! Arrays, constants, new cells, returns. -/
section
variable {p : Program} {l : Launch} {e : Env} {R : Room} {s : State} {m : MethodId} {args : Array Value} {below : List Frame} {meth : Method} {c : Code} {Q : State → Prop}
variable {X : am_X} {T : am_T} {y n0 z0 : Nat} {lim : Nat × Nat} {C : am_C} {K : am_K} {pc : Nat} {L st : List Value} {M : am_M}
theorem am_in {i : Int32} {n : Nat} {cA : ClassId} {f : Nat → Value} (h : vp_in i n) : ¬ (i < 0 ∨ (arrV cA n f).slots.size ≤ i.toNatClampNeg) := by rw [arrV_size]; exact h
theorem am_rd {i : Int32} {n : Nat} {cA : ClassId} {f : Nat → Value} (h : vp_in i n) : (arrV cA n f).slots[i.toNatClampNeg]? = some (f i.toNatClampNeg) := arrV_read _ _ (Nat.not_le.mp fun q => h (Or.inr q))
def am_arrI (i : Instr) : Bool := match i with
  | .iaload | .laload | .baload | .aaload | .iastore | .lastore | .bastore | .aastore | .arraylength | .ldc _ | .ldc_w _ | .ldc2_w _ | .getstatic _ => true
  | _ => false
set_option maxHeartbeats 4000000 in
theorem am_sound_arr (hG : am_G T) (hX : am_Xok X T) (hcx : am_Cx X T p s m args meth c y) {i : Instr} {n t : Nat} (hc : pCode (tP T) y pc = some (i, n, t)) (hp : am_arrI i = true)
    (h : am_step (tP T) (xE X) (iOwn (pInf (tP T) y)) (iKnd (pInf (tP T) y)) (iRet (pInf (tP T) y)) lim C K (am_WW X T p l e R s m args below meth c n0 z0 lim Q) i t pc L st M) : am_WW X T p l e R s m args below meth c n0 z0 lim Q pc L st M := by
  intro H ls locs cells slots hR hS hL hN h1 h2 h3 h4
  obtain ⟨hx, hb, hown, hts, hlk, hin, hw, hret⟩ := hcx
  obtain ⟨hd, htg⟩ := hG.1 y pc i n t hc
  cases i <;> first | cases hp | skip
  all_goals (unfold am_step at h; dsimp only at h)
  case iaload =>
    split at h
    · next i k st =>
      obtain ⟨N, hk, hi, h⟩ := h
      obtain ⟨cA, hA, hcell⟩ := am_arr hR hk
      exact W.iald (v := .int (M.2.1 k i.toNatClampNeg)) hx hb hcell ((hw.2.1 _ _ hA).1 N _) (fun q => by cases q) (am_in hi) (am_rd hi) rfl rfl hd (h H ls locs cells slots hR hS hL hN h1 h2 h3 h4)
    · next i st =>
      obtain ⟨hi, h⟩ := h
      have e1 : (Value.int i :: Value.retAddr 0 :: st).map (xcv X) = .int i :: .ref (xb X) :: st.map (xcv X) := by rw [← hX.2.1]; rfl
      rw [e1]
      have hbl : xb X < s.heap.size := by
        obtain ⟨scr, q1, -⟩ := hw.2.2.2.2.2.2.1
        exact (Array.getElem?_eq_some_iff.mp q1).1
      exact va_sld hx hb hw.2.2.2.2.2.2.1 hbl (Nat.not_le.mpr hX.2.2.1) hS hi hd (h H ls locs cells slots hR hS hL hN h1 h2 h3 h4)
    · exact h.elim
  case laload =>
    split at h
    · next i k st =>
      obtain ⟨N, hk, hi, h⟩ := h
      obtain ⟨cA, hA, hcell⟩ := am_arr hR hk
      exact W.lald (v := .long (M.2.2 k i.toNatClampNeg)) hx hb hcell ((hw.2.1 _ _ hA).1 N _) (fun q => by cases q) (am_in hi) (am_rd hi) rfl rfl hd (h H ls locs cells slots hR hS hL hN h1 h2 h3 h4)
    · exact h.elim
  case baload =>
    split at h
    · next i k st =>
      obtain ⟨N, ty, hty, hk, hi, h⟩ := h
      obtain ⟨cA, hA, hcell⟩ := am_arr hR hk
      rcases hty with rfl | rfl
      · exact W.bald (v := .int (M.2.1 k i.toNatClampNeg)) hx hb hcell ((hw.2.1 _ _ hA).1 N _) (fun q => by cases q) (am_in hi) (am_rd hi) rfl rfl hd (h H ls locs cells slots hR hS hL hN h1 h2 h3 h4)
      · exact W.zald (v := .int (M.2.1 k i.toNatClampNeg)) hx hb hcell ((hw.2.1 _ _ hA).1 N _) (fun q => by cases q) (am_in hi) (am_rd hi) rfl rfl hd (h H ls locs cells slots hR hS hL hN h1 h2 h3 h4)
    · next i a st =>
      obtain ⟨j, rfl, hj, hi, h⟩ := h
      obtain ⟨-, e2, e3, e4⟩ := hX.2.2.2.1 j hj
      have e1 : (Value.int i :: Value.retAddr (2 * j + 3) :: st).map (xcv X) = .int i :: .ref (xW X j) :: st.map (xcv X) := by rw [← e2]; rfl
      rw [e1]
      rw [e3] at hi
      refine va_tb hx hb (hw.2.2.2.1.1 j hj).2.2.2 hS hi rfl hd ?_
      have g := h H ls locs cells slots hR hS hL hN h1 h2 h3 h4
      rw [e4] at g
      exact g
    · exact h.elim
  case aaload =>
    split at h
    · next i k st =>
      obtain ⟨N, ty, a, hkd, hk, hi, ha, h⟩ := h
      obtain ⟨cA, hA, hcell⟩ := am_arr hR hk
      have hty : ty.isReference = true := by revert hkd; cases ty <;> simp [am_kd, FieldType.isReference]
      refine W.aald (v := .ref (xB X + a)) hx hb hcell ((hw.2.1 _ _ hA).1 N _) hty (fun q => by cases q) (am_in hi) ?_ rfl rfl hd (h H ls locs cells slots hR hS hL hN h1 h2 h3 h4)
      rw [am_rd hi]
      unfold am_val
      rw [hkd, ha]
      rfl
    · exact h.elim
  case iastore =>
    split at h
    · next x i k st =>
      obtain ⟨N, hk, hi, h⟩ := h
      obtain ⟨cA, hA, hcell⟩ := am_arr hR hk
      exact W.iast hx hb hcell ((hw.2.1 _ _ hA).1 N _) (fun q => by cases q) (am_in hi) rfl rfl hd fun H' e1 e2 e3 => h H' ls _ cells slots (am_Rep_ui hR hk rfl hA e1 e2 e3) (am_S_put hS e2 e3) hL hN h1 h2 h3 h4
    · exact h.elim
  case lastore =>
    split at h
    · next x i k st =>
      obtain ⟨N, hk, hi, h⟩ := h
      obtain ⟨cA, hA, hcell⟩ := am_arr hR hk
      exact W.last hx hb hcell ((hw.2.1 _ _ hA).1 N _) (fun q => by cases q) (am_in hi) rfl rfl hd fun H' e1 e2 e3 => h H' ls _ cells slots (am_Rep_ul hR hk rfl hA e1 e2 e3) (am_S_put hS e2 e3) hL hN h1 h2 h3 h4
    · exact h.elim
  case bastore =>
    split at h
    · next x i k st =>
      obtain ⟨N, ty, hty, hk, hi, h⟩ := h
      obtain ⟨cA, hA, hcell⟩ := am_arr hR hk
      rcases hty with rfl | rfl
      · exact W.bast hx hb hcell ((hw.2.1 _ _ hA).1 N _) (fun q => by cases q) (am_in hi) rfl rfl hd fun H' e1 e2 e3 => h H' ls _ cells slots (am_Rep_ui (x := vp_nar .byte x) hR hk rfl hA e1 e2 e3) (am_S_put hS e2 e3) hL hN h1 h2 h3 h4
      · exact W.zast hx hb hcell ((hw.2.1 _ _ hA).1 N _) (fun q => by cases q) (am_in hi) rfl rfl hd fun H' e1 e2 e3 => h H' ls _ cells slots (am_Rep_ui (x := vp_nar .boolean x) hR hk rfl hA e1 e2 e3) (am_S_put hS e2 e3) hL hN h1 h2 h3 h4
    · exact h.elim
  case aastore =>
    split at h
    · next x i k st =>
      obtain ⟨N, ci, hk, hv, hi, h⟩ := h
      obtain ⟨cA, hA, hcell⟩ := am_arr hR hk
      obtain ⟨r, hr, cellV, g1, g2, g3, -⟩ := hR.2.1 x _ hv
      obtain ⟨rC, rF, rN⟩ := r
      have hnm := (hG.2.2.1 _ _ _ _ hr).1
      have hcls := (hw.1 ci _ hr).2
      obtain ⟨kA, comp, k1, k2, k3, -⟩ := (hw.2.1 _ _ hA).2
      have hcomp : comp = (xD X).1 ci := by
        have z := hcls.1
        rw [hnm] at z
        exact Option.some.inj (k3.symm.trans z)
      subst hcomp
      obtain ⟨kC, hkC, -⟩ := hcls.2
      have hlt : i.toNatClampNeg < N := Nat.not_le.mp fun q => hi (Or.inr q)
      refine W.aast hx hb hcell (fun q z => by cases z) (fun z => by cases z) k1 k2 rfl hkC ⟨fun q => hi (Or.inl q), by rw [arrV_size]; exact hlt⟩ g1 (fun q z => by rw [g3] at z; cases z) (by rw [g2]; exact hkC) (by rw [g2]; exact va_assign hcls) rfl rfl hd fun H' e1 e2 e3 => ?_
      exact h H' ls _ cells slots (am_Rep_ur hR hk rfl hA e1 e2 e3) (am_S_put hS e2 e3) hL hN h1 h2 h3 h4
    · exact h.elim
  case arraylength =>
    split at h
    · next k st =>
      obtain ⟨N, ty, hk, h⟩ := h
      obtain ⟨cA, hA, hcell⟩ := am_arr hR hk
      exact W.alen hx hb hcell ((hw.2.1 _ _ hA).1 N _) (by rw [arrV_size]) rfl rfl hd (h H ls locs cells slots hR hS hL hN h1 h2 h3 h4)
    · next a st =>
      rcases h with ⟨rfl, h⟩ | ⟨j, rfl, hj, h⟩
      · have e1 : (Value.retAddr 0 :: st).map (xcv X) = .ref (xb X) :: st.map (xcv X) := by rw [← hX.2.1]; rfl
        rw [e1]
        have hbl : xb X < s.heap.size := by
          obtain ⟨scr, q1, -⟩ := hw.2.2.2.2.2.2.1
          exact (Array.getElem?_eq_some_iff.mp q1).1
        exact va_slen hx hb hw.2.2.2.2.2.2.1 hbl (Nat.not_le.mpr hX.2.2.1) hS hd (h H ls locs cells slots hR hS hL hN h1 h2 h3 h4)
      · obtain ⟨-, e2, e3, e4⟩ := hX.2.2.2.1 j hj
        have e1 : (Value.retAddr (2 * j + 3) :: st).map (xcv X) = .ref (xW X j) :: st.map (xcv X) := by rw [← e2]; rfl
        rw [e1]
        rw [e3] at h
        exact va_tlen hx hb (hw.2.2.2.1.1 j hj).2.2.2 hS rfl hd (h H ls locs cells slots hR hS hL hN h1 h2 h3 h4)
    · exact h.elim
  case ldc k =>
    split at h
    · next v hv => exact lv_ldc hx hb hown (hts _ (hG.2.2.2.1 _ _ _ hv)) hd (h H ls locs cells slots hR hS hL hN h1 h2 h3 h4)
    · next v hv =>
      obtain ⟨tx, a, q1, q2⟩ := hw.2.2.1 _ _ _ hv
      have g := h H ls locs cells slots hR hS hL hN h1 h2 h3 h4
      have e1 : (Value.retAddr v :: st).map (xcv X) = .ref a :: st.map (xcv X) := by rw [← q2]; rfl
      rw [e1] at g
      exact va_ldcS hx hb hown q1 hd g
    · exact h.elim
  case ldc_w k =>
    split at h
    · next v hv => exact lv_ldcw hx hb hown (hts _ (hG.2.2.2.1 _ _ _ hv)) hd (h H ls locs cells slots hR hS hL hN h1 h2 h3 h4)
    · exact h.elim
  case ldc2_w k =>
    split at h
    · next v hv => exact lv_ldc2 hx hb hown (hts _ (hG.2.2.2.1 _ _ _ hv)) hd (h H ls locs cells slots hR hS hL hN h1 h2 h3 h4)
    · exact h.elim
  case getstatic k =>
    split at h
    · next hv => exact va_gets hx hb hw.2.2.2.2.1 hS hown (hts _ (hG.2.2.2.1 _ _ _ hv)) (fun _ z => z) hd (h H ls locs cells slots hR hS hL hN h1 h2 h3 h4)
    · next hv => exact va_gets hx hb hw.2.2.2.2.2.1 hS hown (hts _ (hG.2.2.2.1 _ _ _ hv)) (fun _ z => z) hd (h H ls locs cells slots hR hS hL hN h1 h2 h3 h4)
    · exact h.elim
/-- a cell is made -/
theorem am_S_new {H H' : Heap} {locs : List Loc} (hS : va_S (xNew X) s.heap H locs) (e2 : H'.size = H.size + 1) (e3 : ∀ q, q < H.size → H'[q]? = H[q]?) : va_S (xNew X) s.heap H' locs :=
  ⟨Nat.le_trans hS.1 (by omega), fun q g1 g2 => (e3 q (Nat.lt_of_lt_of_le g1 hS.1)).trans (hS.2.1 q g1 g2), hS.2.2⟩
theorem am_val_0 {base : Nat} {ty : FieldType} {k j : Nat} (h : M.2.1 k j = 0 ∧ M.2.2 k j = 0 ∧ M.1.2 k j = none) (hf : am_kd ty ≠ 3) : am_val base ty M k j = defaultValue ty := by
  unfold am_val
  rw [h.1, h.2.1, h.2.2]
  cases ty <;> first | rfl | exact absurd rfl hf
def am_newI (i : Instr) : Bool := match i with
  | .new _ | .newarray _ | .anewarray _ => true
  | _ => false
theorem am_cb (a : ArrayType) : componentBytes (newarray.typeOf a) ≤ 8 := by cases a <;> decide
set_option maxHeartbeats 4000000 in
theorem am_sound_new (hG : am_G T) (hX : am_Xok X T) (hcx : am_Cx X T p s m args meth c y) (hl1 : lim.1 ≤ n0 + R.cells) (hl2 : lim.2 ≤ z0 + R.slots) (hno : ∀ ci j, am_kd (pTy (tP T) ci j) ≠ 3) (hna : ∀ y pc a n t, pCode (tP T) y pc = some (.newarray a, n, t) → am_kd (newarray.typeOf a) ≠ 3) {i : Instr} {n t : Nat} (hc : pCode (tP T) y pc = some (i, n, t)) (hp : am_newI i = true)
    (h : am_step (tP T) (xE X) (iOwn (pInf (tP T) y)) (iKnd (pInf (tP T) y)) (iRet (pInf (tP T) y)) lim C K (am_WW X T p l e R s m args below meth c n0 z0 lim Q) i t pc L st M) : am_WW X T p l e R s m args below meth c n0 z0 lim Q pc L st M := by
  intro H ls locs cells slots hR hS hL hN h1 h2 h3 h4
  obtain ⟨hx, hb, hown, hts, hlk, hin, hw, hret⟩ := hcx
  obtain ⟨hd, htg⟩ := hG.1 y pc i n t hc
  have hz := hR.1
  cases i <;> first | cases hp | skip
  all_goals (unfold am_step at h; dsimp only at h)
  case new k =>
    split at h
    · next ci hci =>
      obtain ⟨g1, g2, h⟩ := h
      obtain ⟨F, N, q1, q2⟩ := hG.2.2.2.2.1 _ _ _ hci
      obtain ⟨-, q3, q4, q5, q6, q7, q8⟩ := hG.2.2.1 _ _ _ _ q1
      have hKn := hw.1 _ _ q1
      subst q3
      refine W.newcK hx hb hown (hts _ q2) (hts _ q7) (hts _ q8) rfl hd (by omega) (by omega) hKn.2.1 rfl fun H1 kC hkC e1 z1 o1 => ?_
      have hsz : am_sz (tP T) (am_push M (.inl ci)) = am_sz (tP T) M + pNf (tP T) ci := am_sz_push _ _ _
      have hlen : (am_push M (.inl ci)).1.1.length = M.1.1.length + 1 := by simp [am_push]
      have g := h H1 ls locs (cells + 1) (slots + pNf (tP T) ci) (am_Rep.new hR z1 o1 ⟨_, q1, ?_⟩) (am_S_new hS z1 o1) hL hN (by omega) (by omega) (by omega) (by omega)
      · have e2 : (Value.ref M.1.1.length :: st).map (xcv X) = .ref H.size :: st.map (xcv X) := by rw [hz]; rfl
        rw [e2] at g
        exact g
      · rw [← hz]
        exact (u_born _ hts q4 hKn hkC e1 q5).to fun j _ => (am_val_0 (hR.2.2 _ (Nat.le_refl _) j) (hno _ _)).symm
    · exact h.elim
  case newarray a =>
    obtain ⟨v, st, rfl, g1, g2, g3, g4, h⟩ := am_i1_inv h
    have hac := hG.2.2.2.2.2.2.2.2.2 _ _ _ _ _ hc
    obtain ⟨cA', hA'⟩ := hX.2.2.2.2.1 _ hac
    refine W.newa hx hb (hts _ hac) rfl hd rfl g1 (by have := am_cb a; have h8 : v.toNatClampNeg * componentBytes (newarray.typeOf a) ≤ 100000 * 8 := Nat.mul_le_mul g2 this; omega) (by omega) (by omega) fun cA kA comp f1 f2 f3 => ?_
    have hcA : cA' = cA := by
      have z := (hw.2.1 _ _ hA').2
      have z2 : s.vm.findClass ("[" ++ (newarray.typeOf a).toString) = some cA' := by
        revert z
        cases a <;> exact id
      exact Option.some.inj (z2.symm.trans f1)
    subst hcA
    have hsz : am_sz (tP T) (am_push M (.inr (newarray.typeOf a, v.toNatClampNeg))) = am_sz (tP T) M + v.toNatClampNeg := am_sz_push _ _ _
    have hlen : (am_push M (.inr (newarray.typeOf a, v.toNatClampNeg))).1.1.length = M.1.1.length + 1 := by simp [am_push]
    have z1 : (H.push ({ cls := cA', slots := Array.replicate v.toNatClampNeg (defaultValue (newarray.typeOf a)), vm := .none } : Cell)).size = H.size + 1 := by simp
    have o1 : ∀ q, q < H.size → (H.push ({ cls := cA', slots := Array.replicate v.toNatClampNeg (defaultValue (newarray.typeOf a)), vm := .none } : Cell))[q]? = H[q]? := fun q hq => by rw [Array.getElem?_push, if_neg (Nat.ne_of_lt hq)]
    have g := h _ ls locs (cells + 1) (slots + v.toNatClampNeg) (am_Rep.new hR z1 o1 ⟨cA', hA', ?_⟩) (am_S_new hS z1 o1) hL hN (by omega) (by omega) (by omega) (by omega)
    · have e2 : (Value.ref M.1.1.length :: st).map (xcv X) = .ref H.size :: st.map (xcv X) := by rw [hz]; rfl
      rw [e2] at g
      exact g
    · rw [← hz, arrV_new]
      simp only [Array.getElem?_push_size]
      congr 2
      funext j
      exact (am_val_0 (hR.2.2 _ (Nat.le_refl _) j) (hna _ _ _ _ _ hc)).symm
  case anewarray k =>
    split at h
    · next ci hci =>
      obtain ⟨v, st, rfl, g1, g2, g3, g4, h⟩ := am_i1_inv h
      obtain ⟨F, N, q1, q2⟩ := hG.2.2.2.2.1 _ _ _ hci
      have hO := hG.2.2.2.2.2.2.2.2.1 _ _ _ _ _ _ hc hci
      obtain ⟨cA', hA'⟩ := hX.2.2.2.2.2 _ hO
      refine W.anew hx hb hown (hts _ q2) (va_AO.use (hw.2.2.2.2.2.2.2.1 _ hO)) rfl hd rfl g1 (by omega) (by omega) (by omega) fun cA kA comp f1 f2 f3 f4 => ?_
      have hcA : cA' = cA := by
        obtain ⟨_, _, -, -, -, z⟩ := (hw.2.1 _ _ hA').2
        exact Option.some.inj (z.symm.trans f1)
      subst hcA
      have hsz : am_sz (tP T) (am_push M (.inr (.object (pNm (tP T) ci), v.toNatClampNeg))) = am_sz (tP T) M + v.toNatClampNeg := am_sz_push _ _ _
      have hlen : (am_push M (.inr (.object (pNm (tP T) ci), v.toNatClampNeg))).1.1.length = M.1.1.length + 1 := by simp [am_push]
      have z1 : (H.push ({ cls := cA', slots := Array.replicate v.toNatClampNeg .null, vm := .none } : Cell)).size = H.size + 1 := by simp
      have o1 : ∀ q, q < H.size → (H.push ({ cls := cA', slots := Array.replicate v.toNatClampNeg .null, vm := .none } : Cell))[q]? = H[q]? := fun q hq => by rw [Array.getElem?_push, if_neg (Nat.ne_of_lt hq)]
      have g := h _ ls locs (cells + 1) (slots + v.toNatClampNeg) (am_Rep.new hR z1 o1 ⟨cA', hA', ?_⟩) (am_S_new hS z1 o1) hL hN (by omega) (by omega) (by omega) (by omega)
      · have e2 : (Value.ref M.1.1.length :: st).map (xcv X) = .ref H.size :: st.map (xcv X) := by rw [hz]; rfl
        rw [e2] at g
        exact g
      · rw [← hz, arrV_new]
        simp only [Array.getElem?_push_size]
        congr 2
        funext j
        exact (am_val_0 (ty := .object (pNm (tP T) ci)) (hR.2.2 _ (Nat.le_refl _) j) (fun z => by cases z)).symm
    · exact h.elim
end
end
section
/-! Calls and returns; the contract of every method out of its meaning. -/
section
variable {p : Program} {l : Launch} {e : Env} {R : Room} {s : State} {m : MethodId} {args : Array Value} {below : List Frame} {meth : Method} {c : Code} {Q : State → Prop}
variable {X : am_X} {T : am_T} {y n0 z0 : Nat} {lim : Nat × Nat} {C : am_C} {K : am_K} {pc : Nat} {L st : List Value} {M : am_M}
theorem am_cat (ht : am_tvok (xV X)) (v : Value) : (xcv X v).category = v.category := by
  cases v with
  | retAddr n =>
    show (xV X n).category = 1
    rcases ht n with h | ⟨a, h⟩ <;> rw [h] <;> rfl
  | _ => rfl
theorem am_cats (ht : am_tvok (xV X)) (st : List Value) : ((st.map (xcv X)).map fun v => v.category) = st.map fun v => v.category := by
  rw [List.map_map]
  exact List.map_congr_left fun v _ => am_cat ht v
theorem am_good (hG : am_G T) {ws : List Cond} (h : ∀ w ∈ ws, w ∈ tW T) : GoodIn (tW T) ws := fun w hw => ⟨h w hw, good_of_word (hG.2.2.2.2.2.2.2.1 w (h w hw))⟩
theorem am_pre {H : Heap} {locs : List Loc} {as : List Value} (hX : am_Xok X T) (hw : am_Wd X T s s.heap) (hR : xRep X T M H) (hS : va_S (xNew X) s.heap H locs) {U : State} (hU : U.heap = H) (hW : s.WarmedH U.vm) : am_Pc X T as M (as.map (xcv X)).toArray U :=
  ⟨rfl, by rw [hU]; exact hR, by rw [hU]; exact am_Wd.kept hX.2.2.1 (am_Wd.mv hW hw) hS.2.1⟩
theorem am_rcv1 {E : am_E} {P : am_P} {as : List Value} (h : am_rcv P E y as M) (hk : iKnd (pInf P y) = 1) : (∃ k as', as = .ref k :: as' ∧ M.1.1[k]? = some (.inl (iOwn (pInf P y)))) ∨ ∃ i as', as = .retAddr (2 * i + 2) :: as' ∧ i < E.2.1 ∧ pNm P (iOwn (pInf P y)) = "java/lang/String" := by
  unfold am_rcv at h
  rw [hk] at h
  cases as with
  | nil => exact (show False from h).elim
  | cons a t =>
    cases a with
    | ref k => exact Or.inl ⟨k, t, rfl, h⟩
    | retAddr z =>
      obtain ⟨i, rfl, h1, h2⟩ := (show ∃ i, z = 2 * i + 2 ∧ i < E.2.1 ∧ pNm P (iOwn (pInf P y)) = "java/lang/String" from h)
      exact Or.inr ⟨i, t, rfl, h1, h2⟩
    | _ => exact (show False from h).elim
theorem am_rcv2 {E : am_E} {P : am_P} {as : List Value} (h : am_rcv P E y as M) (hk : iKnd (pInf P y) = 2) : ∃ k as', as = .ref k :: as' := by
  unfold am_rcv at h
  rw [hk] at h
  cases as with
  | nil => exact (show False from h).elim
  | cons a t =>
    cases a with
    | ref k => exact ⟨k, t, rfl⟩
    | _ => exact (show False from h).elim
set_option maxHeartbeats 4000000 in
theorem am_sound_inv (hG : am_G T) (hX : am_Xok X T) (hcx : am_Cx X T p s m args meth c y) (hl1 : lim.1 ≤ n0 + R.cells) (hl2 : lim.2 ≤ z0 + R.slots) {d : Nat} (hfr : d + 1 ≤ R.frames) (hlo : 32 * d + 32 ≤ R.locals) (hC : ∀ y as M K, am_mok T y → C y as M K → as.length = iArg (pInf (tP T) y) ∧ am_Met X T l d y as M K) {k y' kn n t : Nat} {i : Instr}
    (hi : (i = .invokestatic k ∧ kn = 0) ∨ (i = .invokevirtual k ∧ kn = 1) ∨ (i = .invokespecial k ∧ kn = 2)) (hm : pMth (tP T) (iOwn (pInf (tP T) y)) k = some y') (hy2 : 4 ≤ y') (hc : pCode (tP T) y pc = some (i, n, t))
    (h : am_inv (tP T) (xE X) lim C (am_WW X T p l e R s m args below meth c n0 z0 lim Q) y' kn pc L st M) : am_WW X T p l e R s m args below meth c n0 z0 lim Q pc L st M := by
  intro H ls locs cells slots hR hS hL hN h1 h2 h3 h4
  obtain ⟨hx, hb, hown, hts, hlk, hin, hw, hret⟩ := hcx
  obtain ⟨hd, -⟩ := hG.1 y pc _ n t hc
  have hlnk := hG.2.2.2.2.2.1 _ _ _ hm
  have hmok := hG.2.2.2.2.2.2.1 _ _ _ hm hy2
  obtain ⟨m1, m2, m3, m4, m5, ⟨m6, m7, m8⟩, m9⟩ := id hmok
  have hlink : Cond.methodLink (pNm (tP T) (iOwn (pInf (tP T) y))) k (tN T y') ∈ tW T ∨ (iKnd (pInf (tP T) y') = 2 ∧ ∃ host, (pNm (tP T) (iOwn (pInf (tP T) y)), k, tN T y', host) ∈ tH T) := by
    match y', hy2, hlnk with
    | y'' + 4, _, hlnk => exact hlnk
  unfold am_inv at h
  split at h
  · next b1 b2 b3 =>
    have b1 : iArg (pInf (tP T) y') ≤ st.length := Nat.le_of_ble_eq_true b1
    have b2 := Nat.le_of_ble_eq_true b2
    have b3 : kn = iKnd (pInf (tP T) y') := Nat.eq_of_beq_eq_true b3
    obtain ⟨hrcv, hbud, h⟩ := h
    generalize has : (st.take (iArg (pInf (tP T) y'))).reverse = as at h hrcv
    generalize hrs : st.drop (iArg (pInf (tP T) y')) = rest at h b2
    obtain ⟨hal, hM⟩ := hC _ _ _ _ hmok h
    have hst : st = as.reverse ++ rest := by rw [← has, ← hrs, List.reverse_reverse, List.take_append_drop]
    have hroom : 2 * (F0 m pc ls (st.map (xcv X))).monitorRoom + ((rest.map (xcv X)).map fun v => v.category).sum ≤ 8 := lv_room (by rw [am_cats hX.1]; exact b2)
    have hsz : ls.size = c.maxLocals := hL.1.trans hN
    have hbd : cells + iCel (pInf (tP T) y') ≤ R.cells ∧ slots + iSlt (pInf (tP T) y') ≤ R.slots ∧ M.1.1.length + iCel (pInf (tP T) y') ≤ lim.1 ∧ am_sz (tP T) M + iSlt (pInf (tP T) y') ≤ lim.2 := by
      unfold am_bud at hbud
      split at hbud
      · next z1 z2 => rw [z1, z2]; omega
      · obtain ⟨u1, u2⟩ := hbud; omega
    have hRoom : (am_rm d (pInf (tP T) y')).frames + 1 ≤ R.frames ∧ 8 + (iMax (pInf (tP T) y') + 11) + (am_rm d (pInf (tP T) y')).locals ≤ R.locals := ⟨hfr, by show 8 + (_ + 11) + 32 * d ≤ _; omega⟩
    have next : ∀ (r : Option Value) (M' : am_M) (H1 : Heap) (locs1 : List Loc), am_WW X T p l e R s m args below meth c n0 z0 lim Q (pc + 3) L (r.toList ++ rest) M' → M'.1.1.length = M.1.1.length + iCel (pInf (tP T) y') → am_sz (tP T) M' = am_sz (tP T) M + iSlt (pInf (tP T) y') → xRep X T M' H1 → va_S (xNew X) s.heap H1 locs1 →
        W p l e R s m args below meth c H1 locs1 (cells + iCel (pInf (tP T) y')) (slots + iSlt (pInf (tP T) y')) Q (F0 m (pc + 3) ls ((r.map (xcv X)).toList ++ rest.map (xcv X))) := by
      intro r M' H1 locs1 hk hlen hs' hrep hS1
      have g := hk H1 ls locs1 (cells + iCel (pInf (tP T) y')) (slots + iSlt (pInf (tP T) y')) hrep hS1 hL hN (by omega) (by omega) (by omega) (by omega)
      have e2 : (r.toList ++ rest).map (xcv X) = (r.map (xcv X)).toList ++ rest.map (xcv X) := by cases r <;> simp
      rw [e2] at g
      exact g
    rcases hi with ⟨rfl, rfl⟩ | ⟨rfl, rfl⟩ | ⟨rfl, rfl⟩
    · rw [← b3] at m8 m9
      rw [if_pos rfl] at m8
      have hl : Cond.methodLink (pNm (tP T) (iOwn (pInf (tP T) y))) k (tN T y') ∈ tW T := by
        rcases hlink with z | ⟨z, -⟩
        · exact z
        · rw [← b3] at z; cases z
      have hgd : GoodIn (tW T) (va_wsS (pNm (tP T) (iOwn (pInf (tP T) y))) k (tN T y') (am_ws T y')) := am_good hG (by
        intro w hw'
        unfold va_wsS at hw'
        simp only [List.cons_append, List.nil_append, List.mem_cons] at hw'
        rcases hw' with rfl | rfl | rfl | rfl | z
        · exact hl
        · exact m9
        · exact m2
        · exact m1
        · exact z)
      exact am_after (va_runS (As := as.map (xcv X)) (rest := rest.map (xcv X)) ⟨hx, hb, rfl, hown, hts⟩ hM (va_cwS _ hts hgd rfl rfl rfl ⟨m6, m7, m8⟩ hRoom) ⟨am_blind X T as M, fun U hU hW => am_pre hX hw hR hS hU hW⟩ rfl (by simpa using hal) hsz (by show st.map (xcv X) = _; rw [hst]; simp) hroom hd ⟨hbd.1, hbd.2.1⟩) hS next
    · rw [← b3] at m8 m9
      rw [if_neg (by decide)] at m8
      obtain ⟨u1, u2, u3⟩ := m9
      have hl : Cond.methodLink (pNm (tP T) (iOwn (pInf (tP T) y))) k (tN T y') ∈ tW T := by
        rcases hlink with z | ⟨z, -⟩
        · exact z
        · rw [← b3] at z; cases z
      have hgd : GoodIn (tW T) (wsV (pNm (tP T) (iOwn (pInf (tP T) y))) k (tN T y').cls (tN T y') (am_ws T y')) := am_good hG (by
        intro w hw'
        unfold wsV at hw'
        simp only [List.cons_append, List.nil_append, List.mem_cons] at hw'
        rcases hw' with rfl | rfl | rfl | rfl | rfl | z
        · exact hl
        · exact u2
        · exact u3
        · exact m2
        · exact m1
        · exact z)
      have key : ∀ (b : Addr) (As : List Value), as.map (xcv X) = .ref b :: As → (∃ cellB : Cell, H[b]? = some cellB ∧ cellB.vm.isStatics = false ∧ s.vm.findClass (tN T y').cls = some cellB.cls) → W p l e R s m args below meth c H locs cells slots Q (F0 m pc ls (st.map (xcv X))) := by
        intro b As eA hB
        have hAl : As.length = iArg (pInf (tP T) y') - 1 := by
          have := congrArg List.length eA
          simp at this
          omega
        have hM' : Met l (tN T y') (am_ws T y') (am_rm d (pInf (tP T) y')) (am_Pc X T as M) (am_Qc X T y' M _) (iCel (pInf (tP T) y')) (iSlt (pInf (tP T) y')) (xNew X) := hM
        refine am_after (va_runV (As := As) (rest := rest.map (xcv X)) ⟨hx, hb, rfl, hown, hts⟩ hM' (cwV _ hts hgd rfl rfl rfl ⟨rfl, m6, m7, m8⟩ hRoom) ⟨am_blind X T as M, hB, fun U hU hW => ?_⟩ rfl hAl hsz ?_ hroom hd ⟨hbd.1, hbd.2.1⟩) hS next
        · rw [← eA]; exact am_pre hX hw hR hS hU hW
        · show st.map (xcv X) = _
          rw [hst, List.map_append, List.map_reverse, eA]
          simp
      rcases am_rcv1 hrcv b3.symm with ⟨k', as', rfl, hrk⟩ | ⟨i, as', rfl, hi', hnm⟩
      · refine key (xB X + k') (as'.map (xcv X)) rfl ?_
        obtain ⟨r, hr, cellV, g1, g2, g3, -⟩ := hR.2.1 _ _ hrk
        obtain ⟨rC, rF, rN⟩ := r
        have hnm := (hG.2.2.1 _ _ _ _ hr).1
        have hcls := (hw.1 _ _ hr).2.1
        rw [hnm] at hcls
        exact ⟨cellV, g1, by rw [g3]; rfl, by rw [m3, g2]; exact hcls⟩
      · have e1 := (hX.2.2.2.1 i hi').1
        refine key (xK X i) (as'.map (xcv X)) (by rw [← e1]; rfl) ?_
        rw [m3, hnm]
        exact vk_recv hw.2.2.2.1 hi' hS
    · rw [← b3] at m8 m9
      rw [if_neg (by decide)] at m8
      obtain ⟨u1, u2, u3, u4⟩ := m9
      have hgd : GoodIn (tW T) (am_ws T y') := am_good hG (by
        intro w hw'
        rcases List.mem_cons.mp hw' with rfl | z
        · exact m1
        · exact z)
      obtain ⟨k', as', rfl⟩ := am_rcv2 hrcv b3.symm
      · have hAl : (as'.map (xcv X)).length = iArg (pInf (tP T) y') - 1 := by simp at hal ⊢; omega
        have hM' : Met l (tN T y') (Cond.code (tN T y') (tB T y') (iMax (pInf (tP T) y')) none :: tW T) (am_rm d (pInf (tP T) y')) (am_Pc X T (.ref k' :: as') M) (am_Qc X T y' M (fun r M' => am_WW X T p l e R s m args below meth c n0 z0 lim Q (pc + 3) L (r.toList ++ rest) M')) (iCel (pInf (tP T) y')) (iSlt (pInf (tP T) y')) (xNew X) := by rw [← u4]; exact hM
        have hgd' : GoodIn (tW T) (Cond.code (tN T y') (tB T y') (iMax (pInf (tP T) y')) none :: tW T) := by rw [← u4]; exact hgd
        have hstk : (F0 m pc ls (st.map (xcv X))).stack = (as'.map (xcv X)).reverse ++ .ref (xB X + k') :: rest.map (xcv X) := by
          show st.map (xcv X) = _
          rw [hst]
          simp
          rfl
        rcases hlink with hl | ⟨-, host, hh⟩
        · exact am_after (va_runI (b := xB X + k') (As := as'.map (xcv X)) (rest := rest.map (xcv X)) ⟨hx, hb, rfl, hown, hts⟩ hM' (cwI _ hts hgd' rfl rfl rfl (hts _ m2) (hts _ hl) (hts _ u2) u3 ⟨m6, m7, m8⟩ hRoom) ⟨am_blind X T _ M, fun U hU hW => am_pre hX hw hR hS hU hW⟩ rfl hAl hsz hstk hroom hd ⟨hbd.1, hbd.2.1⟩) hS next
        · exact am_after (va_runIN (b := xB X + k') (As := as'.map (xcv X)) (rest := rest.map (xcv X)) ⟨hx, hb, rfl, hown, hts⟩ hM' ⟨va_cnB _ hts hgd' rfl rfl rfl (hw.2.2.2.2.2.2.2.2 _ hh) (hts _ m2) ⟨m6, m7, m8⟩ hRoom, u3, hts _ u2⟩ ⟨am_blind X T _ M, fun U hU hW => am_pre hX hw hR hS hU hW⟩ rfl hAl hsz hstk hroom hd ⟨hbd.1, hbd.2.1⟩) hS next
  · exact h.elim
set_option maxHeartbeats 4000000 in
theorem am_sound_obj (hG : am_G T) (hX : am_Xok X T) (hcx : am_Cx X T p s m args meth c y) (hfr : 1 ≤ R.frames) (hlo : 32 ≤ R.locals) {k n t : Nat} (hm : pMth (tP T) (iOwn (pInf (tP T) y)) k = some 0) (hc : pCode (tP T) y pc = some (.invokespecial k, n, t))
    (h : am_obj (am_WW X T p l e R s m args below meth c n0 z0 lim Q) pc L st M) : am_WW X T p l e R s m args below meth c n0 z0 lim Q pc L st M := by
  intro H ls locs cells slots hR hS hL hN h1 h2 h3 h4
  obtain ⟨hx, hb, hown, hts, hlk, hin, hw, hret⟩ := hcx
  obtain ⟨hd, -⟩ := hG.1 y pc _ n t hc
  obtain ⟨q1, q2, q3⟩ := hG.2.2.2.2.2.1 _ _ _ hm
  unfold am_obj at h
  split at h
  · next a st =>
    split at h
    · next b =>
      have b := Nat.le_of_ble_eq_true b
      refine W.objInit hx hb hown (hts _ q1) (hts _ q2) (hts _ q3) rfl (hL.1.trans hN) rfl hd hfr ?_ (h H ls locs cells slots hR hS hL hN h1 h2 h3 h4)
      rw [am_cats hX.1]
      show 2 * 0 + _ + 12 ≤ _
      omega
    · exact h.elim
  · exact h.elim
set_option maxHeartbeats 4000000 in
theorem am_sound_mm (hG : am_G T) (hX : am_Xok X T) (hcx : am_Cx X T p s m args meth c y) (hl1 : lim.1 ≤ n0 + R.cells) (hl2 : lim.2 ≤ z0 + R.slots) (hfr : 1 ≤ R.frames) (hlo : 32 ≤ R.locals) {k n t : Nat} (hc : pCode (tP T) y pc = some (.invokestatic k, n, t))
    (h : (pMth (tP T) (iOwn (pInf (tP T) y)) k = some 2 ∧ am_mm (am_WW X T p l e R s m args below meth c n0 z0 lim Q) (fun x y => if x < y then y else x) pc L st M) ∨ (pMth (tP T) (iOwn (pInf (tP T) y)) k = some 3 ∧ am_mm (am_WW X T p l e R s m args below meth c n0 z0 lim Q) (fun x y => if y < x then y else x) pc L st M)) : am_WW X T p l e R s m args below meth c n0 z0 lim Q pc L st M := by
  intro H ls locs cells slots hR hS hL hN h1 h2 h3 h4
  obtain ⟨hx, hb, hown, hts, hlk, hin, hw, hret⟩ := hcx
  obtain ⟨hd, -⟩ := hG.1 y pc _ n t hc
  have hml : c.maxLocals = ls.size := (hL.1.trans hN).symm
  rcases h with ⟨hm, h⟩ | ⟨hm, h⟩
  · obtain ⟨q1, q2, q3, q4⟩ := hG.2.2.2.2.2.1 _ _ _ hm
    unfold am_mm at h
    split at h
    · next y' x st =>
      split at h
      · next b =>
        have b := Nat.le_of_ble_eq_true b
        exact va_mmax hx hb hml hown (hts _ q1) (hts _ q2) (hts _ q3) (hts _ q4) hfr (by rw [am_cats hX.1]; omega) (by omega) (by omega) hd (h H ls locs cells slots hR hS hL hN h1 h2 h3 h4)
      · exact h.elim
    · exact h.elim
  · obtain ⟨q1, q2, q3, q4⟩ := hG.2.2.2.2.2.1 _ _ _ hm
    unfold am_mm at h
    split at h
    · next y' x st =>
      split at h
      · next b =>
        have b := Nat.le_of_ble_eq_true b
        exact va_mmin hx hb hml hown (hts _ q1) (hts _ q2) (hts _ q3) (hts _ q4) hfr (by rw [am_cats hX.1]; omega) (by omega) (by omega) hd (h H ls locs cells slots hR hS hL hN h1 h2 h3 h4)
      · exact h.elim
    · exact h.elim
set_option maxHeartbeats 4000000 in
theorem am_sound_cpy (hG : am_G T) (hX : am_Xok X T) (hcx : am_Cx X T p s m args meth c y) (hfr : 1 ≤ R.frames) (hlo : 32 ≤ R.locals) {k n t : Nat} (hm : pMth (tP T) (iOwn (pInf (tP T) y)) k = some 1) (hc : pCode (tP T) y pc = some (.invokestatic k, n, t))
    (h : am_cpy (am_WW X T p l e R s m args below meth c n0 z0 lim Q) pc L st M) : am_WW X T p l e R s m args below meth c n0 z0 lim Q pc L st M := by
  intro H ls locs cells slots hR hS hL hN h1 h2 h3 h4
  obtain ⟨hx, hb, hown, hts, hlk, hin, hw, hret⟩ := hcx
  obtain ⟨hd, -⟩ := hG.1 y pc _ n t hc
  obtain ⟨q1, q2, q3, q4⟩ := hG.2.2.2.2.2.1 _ _ _ hm
  have hml : c.maxLocals = ls.size := (hL.1.trans hN).symm
  unfold am_cpy at h
  split at h
  · next v dp dd sp ss st =>
    split at h
    · next b =>
      have b := Nat.le_of_ble_eq_true b
      have hlo' : ((st.map (xcv X)).map fun v => v.category).sum + (nativeFrameWords "java/lang/System" "arraycopy" 5 + 11) ≤ R.locals := by
        rw [am_cats hX.1]
        have e9 : nativeFrameWords "java/lang/System" "arraycopy" 5 = 7 := by decide
        rw [e9]
        omega
      obtain ⟨r1, r2, r3, h⟩ := h
      have hSx : ∀ (H1 : Heap) (locs1 : List Loc), H1.size = H.size → (∀ q, q ≠ xB X + dd → H1[q]? = H[q]?) → (∀ q ∈ locs1, q ∈ locs ∨ q.base = xB X + dd) → va_S (xNew X) s.heap H1 locs1 := by
        intro H1 locs1 e2 e3 hl
        refine ⟨by rw [e2]; exact hS.1, fun q g1 g2 => ?_, fun q hq => ?_⟩
        · rw [e3 q (fun z => g2 (by rw [z]; exact Nat.le_add_right _ _))]
          exact hS.2.1 q g1 g2
        · rcases hl q hq with z | z
          · exact hS.2.2 q z
          · rw [z]; exact Nat.le_add_right _ _
      rcases h with ⟨a0, a1, g0, g1, g2, g3, h⟩ | ⟨a0, a1, g0, g1, g2, g3, h⟩
      · obtain ⟨cA, hA, hc0⟩ := am_arr hR g0
        obtain ⟨cA', hA', hc1⟩ := am_arr hR g1
        cases hA.symm.trans hA'
        refine am_Wcopy (fun z : Int32 => Value.int z) .int rfl (fun _ => rfl) (fun _ _ _ => trivial) hx hb hml hown (hts _ q1) (hts _ q2) (hts _ q3) (hts _ q4) (hw.2.1 _ _ hA).1 hc0 hc1 r1 r2 r3 g2 g3 hfr hlo' hd fun H1 locs1 e1 e2 e3 hl => ?_
        refine h H1 ls locs1 cells slots (am_Rep.put hR rfl g1 (fun k' hk' j => ⟨?_, rfl, rfl⟩) e2 e3 ⟨cA, hA, ?_⟩) (hSx H1 locs1 e2 e3 hl) hL hN h1 h2 h3 h4
        · simp [am_ci, hk']
        · rw [e1]
          congr 2
          funext j
          simp [am_val, am_kd, am_ci]
      · obtain ⟨cA, hA, hc0⟩ := am_arr hR g0
        obtain ⟨cA', hA', hc1⟩ := am_arr hR g1
        cases hA.symm.trans hA'
        refine am_Wcopy (fun z : Int64 => Value.long z) .long rfl (fun _ => rfl) (fun _ _ _ => trivial) hx hb hml hown (hts _ q1) (hts _ q2) (hts _ q3) (hts _ q4) (hw.2.1 _ _ hA).1 hc0 hc1 r1 r2 r3 g2 g3 hfr hlo' hd fun H1 locs1 e1 e2 e3 hl => ?_
        refine h H1 ls locs1 cells slots (am_Rep.put hR rfl g1 (fun k' hk' j => ⟨rfl, ?_, rfl⟩) e2 e3 ⟨cA, hA, ?_⟩) (hSx H1 locs1 e2 e3 hl) hL hN h1 h2 h3 h4
        · simp [am_cl, hk']
        · rw [e1]
          congr 2
          funext j
          simp [am_val, am_kd, am_cl]
    · exact h.elim
  · exact h.elim
end
end
section
/-! All steps; all methods. -/
def am_retI (i : Instr) : Bool := match i with
  | .ireturn | .lreturn | .return_ => true
  | _ => false
section
variable {p : Program} {l : Launch} {e : Env} {R : Room} {s : State} {m : MethodId} {args : Array Value} {below : List Frame} {meth : Method} {c : Code} {Q : State → Prop}
variable {X : am_X} {T : am_T} {y n0 z0 : Nat} {lim : Nat × Nat} {C : am_C} {K : am_K}
/-- a step that we take as sound -/
def am_ok1 (X : am_X) (T : am_T) (p : Program) (l : Launch) (e : Env) (R : Room) (s : State) (m : MethodId) (args : Array Value) (below : List Frame) (meth : Method) (c : Code) (Q : State → Prop) (y n0 z0 : Nat) (lim : Nat × Nat) (C : am_C) (K : am_K) (i : Instr) : Prop :=
  ∀ (pc : Nat) (L st : List Value) (M : am_M) (n t : Nat), pCode (tP T) y pc = some (i, n, t) → am_step (tP T) (xE X) (iOwn (pInf (tP T) y)) (iKnd (pInf (tP T) y)) (iRet (pInf (tP T) y)) lim C K (am_WW X T p l e R s m args below meth c n0 z0 lim Q) i t pc L st M → am_WW X T p l e R s m args below meth c n0 z0 lim Q pc L st M
theorem am_inv_2 {P : am_P} {E : am_E} {R' : am_R} {kn pc : Nat} {L st : List Value} {M : am_M} (h0 : ∀ y, y < 4 → iKnd (pInf P y) = 3) (hk : kn < 3) (h : am_inv P E lim C R' y kn pc L st M) : 4 ≤ y := by
  unfold am_inv at h
  split at h
  · next b1 b2 b3 =>
    have b3 : kn = iKnd (pInf P y) := Nat.eq_of_beq_eq_true b3
    rcases Nat.lt_or_ge y 4 with z | z
    · have := h0 y z
      omega
    · exact z
  · exact h.elim
set_option maxHeartbeats 4000000 in
theorem am_sound (h01 : ∀ y, y < 4 → iKnd (pInf (tP T) y) = 3) (hG : am_G T) (hX : am_Xok X T) (hcx : am_Cx X T p s m args meth c y) (hl1 : lim.1 ≤ n0 + R.cells) (hl2 : lim.2 ≤ z0 + R.slots) (hno : ∀ ci j, am_kd (pTy (tP T) ci j) ≠ 3) (hna : ∀ y pc a n t, pCode (tP T) y pc = some (.newarray a, n, t) → am_kd (newarray.typeOf a) ≠ 3) {d : Nat} (hfr : d + 1 ≤ R.frames) (hlo : 32 * d + 32 ≤ R.locals) (hC : ∀ y as M K, am_mok T y → C y as M K → as.length = iArg (pInf (tP T) y) ∧ am_Met X T l d y as M K)
    (hRet : ∀ i, am_retI i = true → am_ok1 X T p l e R s m args below meth c Q y n0 z0 lim C K i) (hMul : ∀ k j, am_ok1 X T p l e R s m args below meth c Q y n0 z0 lim C K (.multianewarray k j))
    {pc : Nat} {L st : List Value} {M : am_M} (h : am_wp (tP T) (xE X) y lim C K pc L st M) : am_WW X T p l e R s m args below meth c n0 z0 lim Q pc L st M := by
  refine h _ fun pc L st M i n t hc hs => ?_
  cases i
  all_goals first
    | exact am_sound1 hG hX hcx hc rfl hs
    | exact am_sound_arr hG hX hcx hc rfl hs
    | exact am_sound_new hG hX hcx hl1 hl2 hno hna hc rfl hs
    | exact am_sound_fld hG hX hcx hc hs
    | exact am_sound_put hG hX hcx hc hs
    | exact hRet _ rfl _ _ _ _ _ _ hc hs
    | exact hMul _ _ _ _ _ _ _ _ hc hs
    | exact (show False from hs).elim
    | skip
  case invokestatic k =>
    unfold am_step at hs
    dsimp only at hs
    split at hs
    · next hm => exact am_sound_cpy hG hX hcx (by omega) (by omega) hm hc hs
    · next hm => exact am_sound_mm hG hX hcx hl1 hl2 (by omega) (by omega) hc (Or.inl ⟨hm, hs⟩)
    · next hm => exact am_sound_mm hG hX hcx hl1 hl2 (by omega) (by omega) hc (Or.inr ⟨hm, hs⟩)
    · next y' _ _ _ hm => exact am_sound_inv hG hX hcx hl1 hl2 hfr hlo hC (Or.inl ⟨rfl, rfl⟩) hm (am_inv_2 h01 (by omega) hs) hc hs
    · exact hs.elim
  case invokevirtual k =>
    unfold am_step at hs
    dsimp only at hs
    split at hs
    · next y' hm =>
      exact am_sound_inv hG hX hcx hl1 hl2 hfr hlo hC (Or.inr (Or.inl ⟨rfl, rfl⟩)) hm (am_inv_2 h01 (by omega) hs) hc hs
    · exact hs.elim
  case invokespecial k =>
    unfold am_step at hs
    dsimp only at hs
    split at hs
    · next hm => exact am_sound_obj hG hX hcx (by omega) (by omega) hm hc hs
    · next y' hne hm => exact am_sound_inv hG hX hcx hl1 hl2 hfr hlo hC (Or.inr (Or.inr ⟨rfl, rfl⟩)) hm (am_inv_2 h01 (by omega) hs) hc hs
    · exact hs.elim
/-- the return of a method, as its contract has it -/
theorem am_ret {M0 : am_M} {K0 : am_K} (hG : am_G T) (hcx : am_Cx X T p s m args meth c y)
    (hK : K = fun r M' => M'.1.1.length = M0.1.1.length + iCel (pInf (tP T) y) ∧ am_sz (tP T) M' = am_sz (tP T) M0 + iSlt (pInf (tP T) y) ∧ K0 r M') (i : Instr) (hi : am_retI i = true) :
    am_ok1 X T p l e R s m args below meth c (MQ below (am_Qc X T y M0 K0) args s (iCel (pInf (tP T) y)) (iSlt (pInf (tP T) y)) (xNew X)) y M0.1.1.length (am_sz (tP T) M0) lim C K i := by
  intro pc L st M n t hc h H ls locs cells slots hR hS hL hN h1 h2 h3 h4
  obtain ⟨hx, hb, hown, hts, hlk, hin, hw, hret⟩ := hcx
  obtain ⟨hd, -⟩ := hG.1 y pc i n t hc
  have fin : ∀ (r : Option Value) (v : Option Value), K r M → v = r.map (xcv X) → cells = iCel (pInf (tP T) y) ∧ slots = iSlt (pInf (tP T) y) ∧ ∀ t : State, t.heap = H → s.WarmedH t.vm → am_Qc X T y M0 K0 args s (.returned v) t := by
    intro r v hk hv
    rw [hK] at hk
    obtain ⟨k1, k2, k3⟩ := hk
    refine ⟨by omega, by omega, fun t ht _ => ⟨⟨r, M, by rw [hv], k3, k1, k2, by rw [ht]; exact hR⟩, hS.F ht⟩⟩
  cases i <;> first | cases hi | skip
  all_goals (unfold am_step at h; dsimp only at h)
  case ireturn =>
    split at h
    · next ty x hr =>
      obtain ⟨hf, hk⟩ := h
      obtain ⟨rfl, rfl, hq⟩ := fin (some (.int x)) (some (.int x)) hk rfl
      exact W.zret hx hb (hret.trans hr) (am_fit_ok hf).1 hq hS.2.2 hd hlk
    · exact h.elim
  case lreturn =>
    split at h
    · next x hr =>
      obtain ⟨rfl, rfl, hq⟩ := fin (some (.long x)) (some (.long x)) h rfl
      exact W.lret hx hb (hret.trans hr) hq hS.2.2 hd hlk
    · exact h.elim
  case return_ =>
    split at h
    · next hr =>
      obtain ⟨rfl, rfl, hq⟩ := fin none none h rfl
      exact W.vret hx hb (hret.trans hr) hq hS.2.2 hd hlk
    · exact h.elim
end
/-- what is still wanted of 'new T[n][m]' -/
def am_mul (X : am_X) (T : am_T) (l : Launch) : Prop := ∀ (p : Program) (e : Env) (R : Room) (s : State) (m : MethodId) (args : Array Value) (below : List Frame) (meth : Method) (c : Code) (Q : State → Prop) (y n0 z0 : Nat) (lim : Nat × Nat) (C : am_C) (K : am_K) (k j : Nat),
  am_Cx X T p s m args meth c y → lim.1 ≤ n0 + R.cells → lim.2 ≤ z0 + R.slots → am_ok1 X T p l e R s m args below meth c Q y n0 z0 lim C K (.multianewarray k j)
set_option maxHeartbeats 4000000 in
/-- every method meets what its meaning says -/
theorem am_sound_call {X : am_X} {T : am_T} {l : Launch} (h01 : ∀ y, y < 4 → iKnd (pInf (tP T) y) = 3) (hG : am_G T) (hX : am_Xok X T) (hno : ∀ ci j, am_kd (pTy (tP T) ci j) ≠ 3) (hna : ∀ y pc a n t, pCode (tP T) y pc = some (.newarray a, n, t) → am_kd (newarray.typeOf a) ≠ 3) (hMul : am_mul X T l) :
    ∀ (d y : Nat) (as : List Value) (M : am_M) (K : am_K), am_mok T y → am_call (tP T) (xE X) d y as M K → as.length = iArg (pInf (tP T) y) ∧ am_Met X T l d y as M K
  | 0, _, _, _, _, _, h => h.elim
  | d + 1, y, as, M, K, hmok, h => by
    obtain ⟨c1, c2, c3, h⟩ := h
    refine ⟨c2, ?_⟩
    obtain ⟨m1, m2, m3, m4, m5, -, m9⟩ := hmok
    refine Met.ofW (cc := tB T y) (maxL := iMax (pInf (tP T) y)) (ret := iRet (pInf (tP T) y)) m5 rfl ?_
    intro p e s m args below meth c s₁ B hml hv
    obtain ⟨rfl, hrep, hwd⟩ := hv
    have hts := atoms_spec (ws := am_ws T y) B.pre
    have hcx : am_Cx X T p s m (as.map (xcv X)).toArray meth c y := by
      refine ⟨B.exec, B.bytes, ?_, fun w hw => hts w (List.mem_cons_of_mem _ hw), B.notSynchronized, fun hk => ?_, hwd, B.returns⟩
      · rw [← m3]; exact findClass_of_methodNamed B.named
      · rw [hk] at m9
        rw [(name_of_methodNamed B.named B.method).1]
        exact m9.2.2.1
    rw [lg_entry_eq]
    have hLH := am_LH.ent (base := xB X) (n := iMax (pInf (tP T) y)) hX.1 c3 c1
    have hlen : (am_ent (iMax (pInf (tP T) y)) as).length = c.maxLocals := by
      rw [hml]; unfold am_ent; simp; omega
    refine am_sound (R := (headSpec (am_ws T y) (am_rm (d + 1) (pInf (tP T) y))).room) (d := d) h01 hG hX hcx (Nat.le_refl _) (Nat.le_refl _) hno hna (Nat.le_refl _) (by show 32 * d + 32 ≤ 32 * (d + 1); omega) (fun y as M K hm hc => am_sound_call h01 hG hX hno hna hMul d y as M K hm hc) (fun i hi => ?_) (fun k j => hMul _ _ _ _ _ _ _ _ _ _ _ _ _ _ _ _ _ _ hcx (Nat.le_refl _) (Nat.le_refl _)) h s.heap _ [] 0 0 hrep va_S.rf hLH hlen (by omega) (by omega) (by omega) (by omega)
    exact am_ret hG hcx rfl i hi
end
section
/-! Locals that nobody reads may hold anything. -/
def am_le (L L' : List Value) : Prop := L.length = L'.length ∧ ∀ (i : Nat) (v : Value), L[i]? = some v → am_isv v = true → L'[i]? = some v
theorem am_le_rf (L : List Value) : am_le L L := ⟨rfl, fun _ _ h _ => h⟩
theorem am_le_nil : am_le [] [] := am_le_rf []
theorem am_le_cons {a : Value} {L L' : List Value} (h : am_le L L') : am_le (a :: L) (a :: L') := by
  refine ⟨by simp [h.1], fun i v hi hv => ?_⟩
  match i, hi with
  | 0, hi => exact hi
  | i + 1, hi => exact h.2 i v hi hv
theorem am_le_mk {a : Value} {L L' : List Value} (h : am_le L L') : am_le (am_mk :: L) (a :: L') := by
  refine ⟨by simp [h.1], fun i v hi hv => ?_⟩
  match i, hi with
  | 0, hi => simp at hi; subst hi; cases hv
  | i + 1, hi => exact h.2 i v hi hv
theorem am_le_set {L L' : List Value} (h : am_le L L') (k : Nat) (v : Value) : am_le (am_set L k v) (am_set L' k v) := by
  have hl : ∀ (A : List Value), (am_set A k v).length = A.length := fun A => by unfold am_set; split; simp; split <;> simp
  refine ⟨by rw [hl, hl]; exact h.1, fun i u hi hu => ?_⟩
  have hlt : i < L.length := by have := (List.getElem?_eq_some_iff.mp hi).1; rw [hl] at this; exact this
  have hlt' : i < L'.length := by rw [← h.1]; exact hlt
  cases k with
  | zero =>
    unfold am_set at hi ⊢
    dsimp only at hi ⊢
    rw [List.getElem?_set] at hi ⊢
    by_cases e : 0 = i
    · subst e; simp only [if_true] at hi ⊢; simp [hlt] at hi; simp [hlt', hi]
    · simp only [e, if_false] at hi ⊢; exact h.2 i u hi hu
  | succ j =>
    by_cases e : j + 1 = i
    · subst e
      have e1 : (am_set L (j + 1) v)[j + 1]? = some v := by
        unfold am_set; dsimp only; split <;> (rw [List.getElem?_set]; simp [hlt])
      have e2 : (am_set L' (j + 1) v)[j + 1]? = some v := by
        unfold am_set; dsimp only; split <;> (rw [List.getElem?_set]; simp [hlt'])
      rw [e1] at hi
      rw [e2]
      exact hi
    · by_cases e' : j = i
      · subst e'
        unfold am_set at hi
        dsimp only at hi
        split at hi
        · rw [List.getElem?_set_ne e, List.getElem?_set] at hi
          simp [hlt] at hi
          subst hi
          cases hu
        · next hno =>
          rw [List.getElem?_set_ne e] at hi
          have h2 := h.2 _ u hi hu
          unfold am_set
          dsimp only
          split
          · next x hx =>
            rw [h2] at hx
            cases hx
            exact absurd hi (hno x)
          · rw [List.getElem?_set_ne e]; exact h2
      · have e1 : (am_set L (j + 1) v)[i]? = L[i]? := by
          unfold am_set; dsimp only; split
          · rw [List.getElem?_set_ne e, List.getElem?_set_ne e']
          · rw [List.getElem?_set_ne e]
        have e2 : (am_set L' (j + 1) v)[i]? = L'[i]? := by
          unfold am_set; dsimp only; split
          · rw [List.getElem?_set_ne e, List.getElem?_set_ne e']
          · rw [List.getElem?_set_ne e]
        rw [e1] at hi
        rw [e2]
        exact h.2 i u hi hu
theorem am_le_set2 {L L' : List Value} (h : am_le L L') (k : Nat) (v : Value) : am_le (am_set2 L k v) (am_set2 L' k v) := by
  obtain ⟨h1, h2⟩ := am_le_set h k v
  refine ⟨by simp [am_set2, h1], fun i u hi hu => ?_⟩
  unfold am_set2 at hi ⊢
  by_cases e : k + 1 = i
  · subst e
    rw [List.getElem?_set] at hi
    simp at hi
    obtain ⟨-, rfl⟩ := hi
    cases hu
  · rw [List.getElem?_set_ne e] at hi ⊢
    exact h2 i u hi hu
section
variable {P : am_P} {E : am_E} {own kn : Nat} {ret : Option FieldType} {lim : Nat × Nat} {C : am_C} {K : am_K} {R R' : am_R} {L L' : List Value}
theorem am_stI_weak {st : List Value} {k : Nat} {F F' : List Value → List Value → Prop} (hl : am_le L L') (h : ∀ A A' b, am_le A A' → F A b → F' A' b) : am_stI L k st F → am_stI L' k st F' := by
  unfold am_stI; rw [hl.1]; split
  · exact h _ _ _ (am_le_set hl _ _)
  · exact id
theorem am_stL_weak {st : List Value} {k : Nat} {F F' : List Value → List Value → Prop} (hl : am_le L L') (h : ∀ A A' b, am_le A A' → F A b → F' A' b) : am_stL L k st F → am_stL L' k st F' := by
  unfold am_stL; rw [hl.1]; split
  · exact h _ _ _ (am_le_set2 hl _ _)
  · exact id
theorem am_stA_weak {st : List Value} {k : Nat} {F F' : List Value → List Value → Prop} (hl : am_le L L') (h : ∀ A A' b, am_le A A' → F A b → F' A' b) : am_stA L k st F → am_stA L' k st F' := by
  unfold am_stA; rw [hl.1]; split
  · exact h _ _ _ (am_le_set hl _ _)
  · exact h _ _ _ (am_le_set hl _ _)
  · exact id
theorem am_ldI_weak {k : Nat} {F F' : Value → Prop} (hl : am_le L L') (h : ∀ v, F v → F' v) (g : am_ldI L k F) : am_ldI L' k F' := by
  obtain ⟨x, e1, g⟩ := am_ldI_inv g
  unfold am_ldI; rw [hl.2 _ _ e1 rfl]; exact h _ g
theorem am_ldL_weak {k : Nat} {F F' : Value → Prop} (hl : am_le L L') (h : ∀ v, F v → F' v) (g : am_ldL L k F) : am_ldL L' k F' := by
  obtain ⟨x, e1, g⟩ := am_ldL_inv g
  unfold am_ldL; rw [hl.2 _ _ e1 rfl]; exact h _ g
theorem am_ldA_weak {k : Nat} {F F' : Value → Prop} (hl : am_le L L') (h : ∀ v, F v → F' v) (g : am_ldA L k F) : am_ldA L' k F' := by
  rcases am_ldA_inv g with ⟨x, e1, g⟩ | ⟨x, e1, g⟩
  · unfold am_ldA; rw [hl.2 _ _ e1 rfl]; exact h _ g
  · unfold am_ldA; rw [hl.2 _ _ e1 rfl]; exact h _ g
def am_locI (i : Instr) : Bool := match i with
  | .iload_n _ | .iload _ | .lload_n _ | .lload _ | .aload_n _ | .aload _ | .istore_n _ | .istore _ | .lstore_n _ | .lstore _ | .astore_n _ | .astore _ | .iinc _ _ => true
  | _ => false
/-- a step that does not touch the locals, seen with other locals -/
theorem am_step_L {i : Instr} {t pc : Nat} {st : List Value} {M : am_M} (hi : am_locI i = false) (hl : am_le L L') (hC : am_mC C) (hR : ∀ pc st M, R pc L st M → R' pc L' st M) :
    am_step P E own kn ret lim C K R i t pc L st M → am_step P E own kn ret lim C K R' i t pc L' st M := by
  have key : ∀ Q : am_R, am_step P E own kn ret lim C K (fun pc _ st M => Q pc L st M) i t pc L st M ↔ am_step P E own kn ret lim C K (fun pc _ st M => Q pc L st M) i t pc L' st M := by
    intro Q
    cases i <;> first | exact absurd (show true = false from hi) (by decide) | exact Iff.rfl
  intro h
  have h1 : am_step P E own kn ret lim C K (fun pc _ st M => R pc L st M) i t pc L st M := by
    cases i <;> first | exact absurd (show true = false from hi) (by decide) | exact h
  have h2 := (key R).mp h1
  have h3 : am_step P E own kn ret lim C K (fun pc _ st M => R' pc L' st M) i t pc L' st M := am_step_mono hC (fun _ _ h => h) (fun pc _ st M g => hR pc st M g) h2
  cases i <;> first | exact absurd (show true = false from hi) (by decide) | exact h3
theorem am_wp_weak {y : Nat} (hC : am_mC C) {pc : Nat} {st : List Value} {M : am_M} (hl : am_le L L') (h : am_wp P E y lim C K pc L st M) : am_wp P E y lim C K pc L' st M := by
  intro R hR
  refine h (fun pc L st M => ∀ L', am_le L L' → R pc L' st M) (fun pc L st M i n t hc hs L' hl => hR _ _ _ _ _ _ _ hc ?_) L' hl
  by_cases hi : am_locI i = true
  · cases i <;> first | exact absurd (show false = true from hi) (by decide) | skip
    all_goals (unfold am_step at hs ⊢; dsimp only at hs ⊢)
    case iload_n => exact am_ldI_weak hl (fun v g => g L' hl) hs
    case iload => exact am_ldI_weak hl (fun v g => g L' hl) hs
    case lload_n => exact am_ldL_weak hl (fun v g => g L' hl) hs
    case lload => exact am_ldL_weak hl (fun v g => g L' hl) hs
    case aload_n => exact am_ldA_weak hl (fun v g => g L' hl) hs
    case aload => exact am_ldA_weak hl (fun v g => g L' hl) hs
    case istore_n => exact am_stI_weak hl (fun A A' b ha g => g A' ha) hs
    case istore => exact am_stI_weak hl (fun A A' b ha g => g A' ha) hs
    case lstore_n => exact am_stL_weak hl (fun A A' b ha g => g A' ha) hs
    case lstore => exact am_stL_weak hl (fun A A' b ha g => g A' ha) hs
    case astore_n => exact am_stA_weak hl (fun A A' b ha g => g A' ha) hs
    case astore => exact am_stA_weak hl (fun A A' b ha g => g A' ha) hs
    case iinc k v =>
      split at hs
      · next x hb hx =>
        rw [← hl.1, hb, hl.2 _ _ hx rfl]
        exact hs _ (am_le_set hl _ _)
      · exact hs.elim
  · have hi' : am_locI i = false := by cases h9 : am_locI i <;> simp_all
    exact am_step_L hi' hl hC (fun pc st M g => g L' hl) hs
end
end
