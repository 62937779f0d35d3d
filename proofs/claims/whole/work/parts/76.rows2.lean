/-! Rows of the small machine over any shape: printed by wip/gen/rows2.py. -/
def qw (E : am_E) (d y : Nat) (lim : Nat × Nat) (K : am_K) (Sl : List am_Shp) (f : Nat → Nat → Option Nat) (pc : Nat) (L st : List Value) (mi : Nat → Nat → Int32) (ml : Nat → Nat → Int64) : Prop := am_wp PP E y lim (am_call PP E d) K pc L st ((Sl, f), mi, ml)
def kq (E : am_E) (d y : Nat) (lim : Nat × Nat) (K : am_K) (pc : Nat) (L rest : List Value) : am_K := fun r M' => am_wp PP E y lim (am_call PP E d) K pc L (r.toList ++ rest) M'
def kz (n1 z1 : Nat) (K : am_K) : am_K := fun r M' => M'.1.1.length = n1 ∧ am_sz PP M' = z1 ∧ K r M'
def rfS (f : Nat → Nat → Option Nat) (a j b : Nat) : Nat → Nat → Option Nat := fun a' i => if a' = a then (if i = j then some b else f a' i) else f a' i
section
variable {E : am_E} {d y : Nat} {lim : Nat × Nat} {K : am_K} {Sl : List am_Shp} {f : Nat → Nat → Option Nat} {pc : Nat} {L st : List Value} {mi : Nat → Nat → Int32} {ml : Nat → Nat → Int64} {n t : Nat}
theorem q_iconst {z : Int} {v : Int32} (hc : tb_code y pc = some (.iconst z, n, t)) (hv : Int32.ofInt z = v) (h : qw E d y lim K Sl f (pc + 1) L (.int v :: st) mi ml) : qw E d y lim K Sl f pc L st mi ml := by subst hv; exact am_wp_step (am_call_mono d) hc h
theorem q_bipush {z : Int} {v : Int32} (hc : tb_code y pc = some (.bipush z, n, t)) (hv : (Int8.ofInt z).toInt32 = v) (h : qw E d y lim K Sl f (pc + 2) L (.int v :: st) mi ml) : qw E d y lim K Sl f pc L st mi ml := by subst hv; exact am_wp_step (am_call_mono d) hc h
theorem q_sipush {z : Int} {v : Int32} (hc : tb_code y pc = some (.sipush z, n, t)) (hv : (Int16.ofInt z).toInt32 = v) (h : qw E d y lim K Sl f (pc + 3) L (.int v :: st) mi ml) : qw E d y lim K Sl f pc L st mi ml := by subst hv; exact am_wp_step (am_call_mono d) hc h
theorem q_lconst {z : Fin 2} {v : Int64} (hc : tb_code y pc = some (.lconst z, n, t)) (hv : Int64.ofNat (z : Nat) = v) (h : qw E d y lim K Sl f (pc + 1) L (.long v :: st) mi ml) : qw E d y lim K Sl f pc L st mi ml := by subst hv; exact am_wp_step (am_call_mono d) hc h
theorem q_iload_n {k : Fin 4} {x : Int32} (hc : tb_code y pc = some (.iload_n k, n, t)) (hl : L[(k : Nat)]? = some (.int x)) (h : qw E d y lim K Sl f (pc + 1) L (.int x :: st) mi ml) : qw E d y lim K Sl f pc L st mi ml := am_wp_step (am_call_mono d) hc (by unfold am_step; dsimp only; unfold am_ldI; rw [hl]; exact h)
theorem q_iload {k : Nat} {x : Int32} (hc : tb_code y pc = some (.iload k, n, t)) (hl : L[(k : Nat)]? = some (.int x)) (h : qw E d y lim K Sl f (pc + 2) L (.int x :: st) mi ml) : qw E d y lim K Sl f pc L st mi ml := am_wp_step (am_call_mono d) hc (by unfold am_step; dsimp only; unfold am_ldI; rw [hl]; exact h)
theorem q_lload_n {k : Fin 4} {x : Int64} (hc : tb_code y pc = some (.lload_n k, n, t)) (hl : L[(k : Nat)]? = some (.long x)) (h : qw E d y lim K Sl f (pc + 1) L (.long x :: st) mi ml) : qw E d y lim K Sl f pc L st mi ml := am_wp_step (am_call_mono d) hc (by unfold am_step; dsimp only; unfold am_ldL; rw [hl]; exact h)
theorem q_aload_n {k : Fin 4} {x : Nat} (hc : tb_code y pc = some (.aload_n k, n, t)) (hl : L[(k : Nat)]? = some (.ref x)) (h : qw E d y lim K Sl f (pc + 1) L (.ref x :: st) mi ml) : qw E d y lim K Sl f pc L st mi ml := am_wp_step (am_call_mono d) hc (by unfold am_step; dsimp only; unfold am_ldA; rw [hl]; exact h)
theorem q_aload {k : Nat} {x : Nat} (hc : tb_code y pc = some (.aload k, n, t)) (hl : L[(k : Nat)]? = some (.ref x)) (h : qw E d y lim K Sl f (pc + 2) L (.ref x :: st) mi ml) : qw E d y lim K Sl f pc L st mi ml := am_wp_step (am_call_mono d) hc (by unfold am_step; dsimp only; unfold am_ldA; rw [hl]; exact h)
theorem q_aload_nT {k : Fin 4} {x : Nat} (hc : tb_code y pc = some (.aload_n k, n, t)) (hl : L[(k : Nat)]? = some (.retAddr x)) (h : qw E d y lim K Sl f (pc + 1) L (.retAddr x :: st) mi ml) : qw E d y lim K Sl f pc L st mi ml := am_wp_step (am_call_mono d) hc (by unfold am_step; dsimp only; unfold am_ldA; rw [hl]; exact h)
theorem q_istore_n {k : Fin 4} {x : Int32} {L' : List Value} (hc : tb_code y pc = some (.istore_n k, n, t)) (hb : Nat.blt (k : Nat) L.length = true) (hl : am_set L k (.int x) = L') (h : qw E d y lim K Sl f (pc + 1) L' st mi ml) : qw E d y lim K Sl f pc L (.int x :: st) mi ml := am_wp_step (am_call_mono d) hc (by unfold am_step; dsimp only; unfold am_stI; rw [hb]; subst hl; exact h)
theorem q_istore {k : Nat} {x : Int32} {L' : List Value} (hc : tb_code y pc = some (.istore k, n, t)) (hb : Nat.blt (k : Nat) L.length = true) (hl : am_set L k (.int x) = L') (h : qw E d y lim K Sl f (pc + 2) L' st mi ml) : qw E d y lim K Sl f pc L (.int x :: st) mi ml := am_wp_step (am_call_mono d) hc (by unfold am_step; dsimp only; unfold am_stI; rw [hb]; subst hl; exact h)
theorem q_astore_n {k : Fin 4} {x : Nat} {L' : List Value} (hc : tb_code y pc = some (.astore_n k, n, t)) (hb : Nat.blt (k : Nat) L.length = true) (hl : am_set L k (.ref x) = L') (h : qw E d y lim K Sl f (pc + 1) L' st mi ml) : qw E d y lim K Sl f pc L (.ref x :: st) mi ml := am_wp_step (am_call_mono d) hc (by unfold am_step; dsimp only; unfold am_stA; rw [hb]; subst hl; exact h)
theorem q_iinc {k : Nat} {z : Int} {x v : Int32} {L' : List Value} (hc : tb_code y pc = some (.iinc k z, n, t)) (hb : Nat.blt k L.length = true) (hx : L[k]? = some (.int x)) (hv : Int32.ofInt z = v) (hl : am_set L k (.int (x + v)) = L') (h : qw E d y lim K Sl f (pc + 3) L' st mi ml) : qw E d y lim K Sl f pc L st mi ml := am_wp_step (am_call_mono d) hc (by unfold am_step; dsimp only; rw [hb, hx]; subst hv; subst hl; exact h)
theorem q_iadd {x z : Int32} (hc : tb_code y pc = some (.iadd, n, t)) (h : qw E d y lim K Sl f (pc + 1) L (.int (x + z) :: st) mi ml) : qw E d y lim K Sl f pc L (.int z :: .int x :: st) mi ml := am_wp_step (am_call_mono d) hc h
theorem q_isub {x z : Int32} (hc : tb_code y pc = some (.isub, n, t)) (h : qw E d y lim K Sl f (pc + 1) L (.int (x - z) :: st) mi ml) : qw E d y lim K Sl f pc L (.int z :: .int x :: st) mi ml := am_wp_step (am_call_mono d) hc h
theorem q_imul {x z : Int32} (hc : tb_code y pc = some (.imul, n, t)) (h : qw E d y lim K Sl f (pc + 1) L (.int (x * z) :: st) mi ml) : qw E d y lim K Sl f pc L (.int z :: .int x :: st) mi ml := am_wp_step (am_call_mono d) hc h
theorem q_iand {x z : Int32} (hc : tb_code y pc = some (.iand, n, t)) (h : qw E d y lim K Sl f (pc + 1) L (.int (x &&& z) :: st) mi ml) : qw E d y lim K Sl f pc L (.int z :: .int x :: st) mi ml := am_wp_step (am_call_mono d) hc h
theorem q_ishr {x z : Int32} (hc : tb_code y pc = some (.ishr, n, t)) (h : qw E d y lim K Sl f (pc + 1) L (.int (x >>> (z &&& 31)) :: st) mi ml) : qw E d y lim K Sl f pc L (.int z :: .int x :: st) mi ml := am_wp_step (am_call_mono d) hc h
theorem q_lmul {x z : Int64} (hc : tb_code y pc = some (.lmul, n, t)) (h : qw E d y lim K Sl f (pc + 1) L (.long (x * z) :: st) mi ml) : qw E d y lim K Sl f pc L (.long z :: .long x :: st) mi ml := am_wp_step (am_call_mono d) hc h
theorem q_ladd {x z : Int64} (hc : tb_code y pc = some (.ladd, n, t)) (h : qw E d y lim K Sl f (pc + 1) L (.long (x + z) :: st) mi ml) : qw E d y lim K Sl f pc L (.long z :: .long x :: st) mi ml := am_wp_step (am_call_mono d) hc h
theorem q_i2l {x : Int32} (hc : tb_code y pc = some (.i2l, n, t)) (h : qw E d y lim K Sl f (pc + 1) L (.long (x.toInt64) :: st) mi ml) : qw E d y lim K Sl f pc L (.int x :: st) mi ml := am_wp_step (am_call_mono d) hc h
theorem q_i2c {x : Int32} (hc : tb_code y pc = some (.i2c, n, t)) (h : qw E d y lim K Sl f (pc + 1) L (.int ((x.toUInt32 % 65536).toInt32) :: st) mi ml) : qw E d y lim K Sl f pc L (.int x :: st) mi ml := am_wp_step (am_call_mono d) hc h
theorem q_dupR {x : Nat} (hc : tb_code y pc = some (.dup, n, t)) (h : qw E d y lim K Sl f (pc + 1) L (.ref x :: .ref x :: st) mi ml) : qw E d y lim K Sl f pc L (.ref x :: st) mi ml := am_wp_step (am_call_mono d) hc h
theorem q_popI {x : Int32} (hc : tb_code y pc = some (.pop, n, t)) (h : qw E d y lim K Sl f (pc + 1) L st mi ml) : qw E d y lim K Sl f pc L (.int x :: st) mi ml := am_wp_step (am_call_mono d) hc h
theorem q_goto {o : Int} (hc : tb_code y pc = some (.goto o, n, t)) (h : qw E d y lim K Sl f t L st mi ml) : qw E d y lim K Sl f pc L st mi ml := am_wp_step (am_call_mono d) hc h
theorem q_if_eq {x : Int32} {o : Int} (hc : tb_code y pc = some (.ifCond .eq o, n, t)) (h : x = 0 → qw E d y lim K Sl f t L st mi ml) (g : ¬ (x = 0) → qw E d y lim K Sl f (pc + 3) L st mi ml) : qw E d y lim K Sl f pc L (.int x :: st) mi ml := am_wp_step (am_call_mono d) hc ⟨h, g⟩
theorem q_if_ne {x : Int32} {o : Int} (hc : tb_code y pc = some (.ifCond .ne o, n, t)) (h : ¬ x = 0 → qw E d y lim K Sl f t L st mi ml) (g : ¬ (¬ x = 0) → qw E d y lim K Sl f (pc + 3) L st mi ml) : qw E d y lim K Sl f pc L (.int x :: st) mi ml := am_wp_step (am_call_mono d) hc ⟨h, g⟩
theorem q_if_lt {x : Int32} {o : Int} (hc : tb_code y pc = some (.ifCond .lt o, n, t)) (h : x < 0 → qw E d y lim K Sl f t L st mi ml) (g : ¬ (x < 0) → qw E d y lim K Sl f (pc + 3) L st mi ml) : qw E d y lim K Sl f pc L (.int x :: st) mi ml := am_wp_step (am_call_mono d) hc ⟨h, g⟩
theorem q_ic_lt {x z : Int32} {o : Int} (hc : tb_code y pc = some (.if_icmp .lt o, n, t)) (h : x < z → qw E d y lim K Sl f t L st mi ml) (g : ¬ (x < z) → qw E d y lim K Sl f (pc + 3) L st mi ml) : qw E d y lim K Sl f pc L (.int z :: .int x :: st) mi ml := am_wp_step (am_call_mono d) hc ⟨h, g⟩
theorem q_ic_ge {x z : Int32} {o : Int} (hc : tb_code y pc = some (.if_icmp .ge o, n, t)) (h : z ≤ x → qw E d y lim K Sl f t L st mi ml) (g : ¬ (z ≤ x) → qw E d y lim K Sl f (pc + 3) L st mi ml) : qw E d y lim K Sl f pc L (.int z :: .int x :: st) mi ml := am_wp_step (am_call_mono d) hc ⟨h, g⟩
theorem q_ic_ne {x z : Int32} {o : Int} (hc : tb_code y pc = some (.if_icmp .ne o, n, t)) (h : ¬ x = z → qw E d y lim K Sl f t L st mi ml) (g : ¬ (¬ x = z) → qw E d y lim K Sl f (pc + 3) L st mi ml) : qw E d y lim K Sl f pc L (.int z :: .int x :: st) mi ml := am_wp_step (am_call_mono d) hc ⟨h, g⟩
theorem q_ic_gt {x z : Int32} {o : Int} (hc : tb_code y pc = some (.if_icmp .gt o, n, t)) (h : z < x → qw E d y lim K Sl f t L st mi ml) (g : ¬ (z < x) → qw E d y lim K Sl f (pc + 3) L st mi ml) : qw E d y lim K Sl f pc L (.int z :: .int x :: st) mi ml := am_wp_step (am_call_mono d) hc ⟨h, g⟩
theorem q_ldcT {k v : Nat} (hc : tb_code y pc = some (.ldc k, n, t)) (hk : pCst PP (iOwn (pInf PP y)) k = some (.retAddr v)) (h : qw E d y lim K Sl f (pc + 2) L (.retAddr v :: st) mi ml) : qw E d y lim K Sl f pc L st mi ml := am_wp_step (am_call_mono d) hc (by unfold am_step; dsimp only; rw [hk]; exact h)
theorem q_ldc2 {k : Nat} {v : Int64} (hc : tb_code y pc = some (.ldc2_w k, n, t)) (hk : pCst PP (iOwn (pInf PP y)) k = some (.long v)) (h : qw E d y lim K Sl f (pc + 3) L (.long v :: st) mi ml) : qw E d y lim K Sl f pc L st mi ml := am_wp_step (am_call_mono d) hc (by unfold am_step; dsimp only; rw [hk]; exact h)
theorem q_gs1 {k : Nat} (hc : tb_code y pc = some (.getstatic k, n, t)) (hk : pCst PP (iOwn (pInf PP y)) k = some (.double 1)) (h : qw E d y lim K Sl f (pc + 3) L (.int 1 :: st) mi ml) : qw E d y lim K Sl f pc L st mi ml := am_wp_step (am_call_mono d) hc (by unfold am_step; dsimp only; rw [hk]; exact h)
theorem q_gs2 {k : Nat} (hc : tb_code y pc = some (.getstatic k, n, t)) (hk : pCst PP (iOwn (pInf PP y)) k = some (.double 2)) (h : qw E d y lim K Sl f (pc + 3) L (.retAddr 1 :: st) mi ml) : qw E d y lim K Sl f pc L st mi ml := am_wp_step (am_call_mono d) hc (by unfold am_step; dsimp only; rw [hk]; exact h)
theorem q_getI {k a ci j : Nat} (hc : tb_code y pc = some (.getfield k, n, t)) (hf : pFld PP (iOwn (pInf PP y)) k = some (ci, j)) (hk : am_kd (pTy PP ci j) = 0) (hs : Sl[a]? = some (.inl ci)) (h : qw E d y lim K Sl f (pc + 3) L (.int (mi a j) :: st) mi ml) : qw E d y lim K Sl f pc L (.ref a :: st) mi ml := am_wp_step (am_call_mono d) hc (by unfold am_step; dsimp only; rw [hf]; refine ⟨hs, ?_⟩; dsimp only; rw [hk]; exact h)
theorem q_getL {k a ci j : Nat} (hc : tb_code y pc = some (.getfield k, n, t)) (hf : pFld PP (iOwn (pInf PP y)) k = some (ci, j)) (hk : am_kd (pTy PP ci j) = 1) (hs : Sl[a]? = some (.inl ci)) (h : qw E d y lim K Sl f (pc + 3) L (.long (ml a j) :: st) mi ml) : qw E d y lim K Sl f pc L (.ref a :: st) mi ml := am_wp_step (am_call_mono d) hc (by unfold am_step; dsimp only; rw [hf]; refine ⟨hs, ?_⟩; dsimp only; rw [hk]; exact h)
theorem q_getR {k a ci j b : Nat} (hc : tb_code y pc = some (.getfield k, n, t)) (hf : pFld PP (iOwn (pInf PP y)) k = some (ci, j)) (hk : am_kd (pTy PP ci j) = 2) (hs : Sl[a]? = some (.inl ci)) (hr : f a j = some b) (h : qw E d y lim K Sl f (pc + 3) L (.ref b :: st) mi ml) : qw E d y lim K Sl f pc L (.ref a :: st) mi ml := am_wp_step (am_call_mono d) hc (by unfold am_step; dsimp only; rw [hf]; refine ⟨hs, ?_⟩; dsimp only; rw [hk]; exact ⟨b, hr, h⟩)
theorem q_putI {k a ci j : Nat} {x : Int32} (hc : tb_code y pc = some (.putfield k, n, t)) (hf : pFld PP (iOwn (pInf PP y)) k = some (ci, j)) (hk : am_kd (pTy PP ci j) = 0) (hn : ((!(pFin PP ci j)) || (Nat.beq (iKnd (pInf PP y)) 2 && Nat.beq (iOwn (pInf PP y)) ci)) = true) (hs : Sl[a]? = some (.inl ci)) (ho : am_fit (pTy PP ci j) x) (h : qw E d y lim K Sl f (pc + 3) L st (am_si mi a j x) ml) : qw E d y lim K Sl f pc L (.int x :: .ref a :: st) mi ml := am_wp_step (am_call_mono d) hc (by unfold am_step; dsimp only; rw [hf]; dsimp only; unfold am_put; dsimp only; rw [hn, hk]; exact ⟨hs, ho, h⟩)
theorem q_putL {k a ci j : Nat} {x : Int64} (hc : tb_code y pc = some (.putfield k, n, t)) (hf : pFld PP (iOwn (pInf PP y)) k = some (ci, j)) (hk : am_kd (pTy PP ci j) = 1) (hn : ((!(pFin PP ci j)) || (Nat.beq (iKnd (pInf PP y)) 2 && Nat.beq (iOwn (pInf PP y)) ci)) = true) (hs : Sl[a]? = some (.inl ci)) (h : qw E d y lim K Sl f (pc + 3) L st mi (am_sj ml a j x)) : qw E d y lim K Sl f pc L (.long x :: .ref a :: st) mi ml := am_wp_step (am_call_mono d) hc (by unfold am_step; dsimp only; rw [hf]; dsimp only; unfold am_put; dsimp only; rw [hn, hk]; exact ⟨hs, h⟩)
theorem q_lald {i : Int32} {k N : Nat} (hc : tb_code y pc = some (.laload, n, t)) (hs : Sl[k]? = some (.inr (.long, N))) (hi : vp_in i N) (h : qw E d y lim K Sl f (pc + 1) L (.long (ml k i.toNatClampNeg) :: st) mi ml) : qw E d y lim K Sl f pc L (.int i :: .ref k :: st) mi ml := am_wp_step (am_call_mono d) hc ⟨N, hs, hi, h⟩
theorem q_iast {x i : Int32} {k N : Nat} (hc : tb_code y pc = some (.iastore, n, t)) (hs : Sl[k]? = some (.inr (.int, N))) (hi : vp_in i N) (h : qw E d y lim K Sl f (pc + 1) L st (am_si mi k i.toNatClampNeg x) ml) : qw E d y lim K Sl f pc L (.int x :: .int i :: .ref k :: st) mi ml := am_wp_step (am_call_mono d) hc ⟨N, hs, hi, h⟩
theorem q_laldK {i : Int32} {k N j : Nat} (hc : tb_code y pc = some (.laload, n, t)) (hs : Sl[k]? = some (.inr (.long, N))) (hi : vp_in i N) (hj : i.toNatClampNeg = j) (h : qw E d y lim K Sl f (pc + 1) L (.long (ml k j) :: st) mi ml) : qw E d y lim K Sl f pc L (.int i :: .ref k :: st) mi ml := by subst hj; exact am_wp_step (am_call_mono d) hc ⟨N, hs, hi, h⟩
theorem q_last {x : Int64} {i : Int32} {k N : Nat} (hc : tb_code y pc = some (.lastore, n, t)) (hs : Sl[k]? = some (.inr (.long, N))) (hi : vp_in i N) (h : qw E d y lim K Sl f (pc + 1) L st mi (am_sj ml k i.toNatClampNeg x)) : qw E d y lim K Sl f pc L (.long x :: .int i :: .ref k :: st) mi ml := am_wp_step (am_call_mono d) hc ⟨N, hs, hi, h⟩
theorem q_baldT {i : Int32} {j : Nat} (hc : tb_code y pc = some (.baload, n, t)) (hj : j < E.2.1) (hi : vp_in i (E.2.2.1 j)) (h : qw E d y lim K Sl f (pc + 1) L (.int (E.2.2.2 j i.toNatClampNeg) :: st) mi ml) : qw E d y lim K Sl f pc L (.int i :: .retAddr (2 * j + 3) :: st) mi ml := am_wp_step (am_call_mono d) hc ⟨j, rfl, hj, hi, h⟩
theorem q_alenT {j : Nat} (hc : tb_code y pc = some (.arraylength, n, t)) (hj : j < E.2.1) (h : qw E d y lim K Sl f (pc + 1) L (.int (Int32.ofNat (E.2.2.1 j)) :: st) mi ml) : qw E d y lim K Sl f pc L (.retAddr (2 * j + 3) :: st) mi ml := am_wp_step (am_call_mono d) hc (Or.inr ⟨j, rfl, hj, h⟩)
theorem q_sco {k j : Nat} (hc : tb_code y pc = some (.getfield k, n, t)) (hf : pFld PP (iOwn (pInf PP y)) k = none) (hk : pCst PP (iOwn (pInf PP y)) k = some (.float 1)) (hj : j < E.2.1) (h : qw E d y lim K Sl f (pc + 3) L (.int 0 :: st) mi ml) : qw E d y lim K Sl f pc L (.retAddr (2 * j + 2) :: st) mi ml := am_wp_step (am_call_mono d) hc (by unfold am_step; dsimp only; rw [hf, hk]; exact ⟨j, rfl, hj, h⟩)
theorem q_sva {k j : Nat} (hc : tb_code y pc = some (.getfield k, n, t)) (hf : pFld PP (iOwn (pInf PP y)) k = none) (hk : pCst PP (iOwn (pInf PP y)) k = some (.float 2)) (hj : j < E.2.1) (h : qw E d y lim K Sl f (pc + 3) L (.retAddr (2 * j + 3) :: st) mi ml) : qw E d y lim K Sl f pc L (.retAddr (2 * j + 2) :: st) mi ml := am_wp_step (am_call_mono d) hc (by unfold am_step; dsimp only; rw [hf, hk]; exact ⟨j, rfl, hj, h⟩)
theorem q_inv {y' kn : Nat} {as rest : List Value} (ha : st = as.reverse ++ rest) (hl : as.length = iArg (pInf PP y')) (hb : Nat.ble (rest.map (fun v => v.category)).sum 8 = true) (hk : kn = iKnd (pInf PP y')) (hu : am_bud PP lim (iCel (pInf PP y')) (iSlt (pInf PP y')) ((Sl, f), mi, ml)) (hr : am_rcv PP E y' as ((Sl, f), mi, ml)) (h : am_call PP E d y' as ((Sl, f), mi, ml) (kq E d y lim K (pc + 3) L rest)) : am_inv PP E lim (am_call PP E d) (am_wp PP E y lim (am_call PP E d) K) y' kn pc L st ((Sl, f), mi, ml) := by
  subst ha
  have e1 : (as.reverse ++ rest).take (iArg (pInf PP y')) = as.reverse := by rw [← hl, ← List.length_reverse, List.take_left']; rfl
  have e2 : (as.reverse ++ rest).drop (iArg (pInf PP y')) = rest := by rw [← hl, ← List.length_reverse, List.drop_left']; rfl
  unfold am_inv
  rw [e1, e2, hb, List.reverse_reverse, show Nat.ble (iArg (pInf PP y')) (as.reverse ++ rest).length = true from Nat.ble_eq_true_of_le (by rw [← hl]; simp), show Nat.beq kn (iKnd (pInf PP y')) = true from by rw [hk]; exact Nat.beq_refl _]
  exact ⟨hr, hu, h⟩
theorem q_callV {y' k : Nat} {as rest : List Value} (hc : tb_code y pc = some (.invokevirtual k, n, t)) (hm : pMth PP (iOwn (pInf PP y)) k = some y') (ha : st = as.reverse ++ rest) (hl : as.length = iArg (pInf PP y')) (hb : Nat.ble (rest.map (fun v => v.category)).sum 8 = true) (hk : 1 = iKnd (pInf PP y')) (hz : iCel (pInf PP y') = 0 ∧ iSlt (pInf PP y') = 0) (hr : am_rcv PP E y' as ((Sl, f), mi, ml)) (h : am_call PP E d y' as ((Sl, f), mi, ml) (kq E d y lim K (pc + 3) L rest)) : qw E d y lim K Sl f pc L st mi ml :=
  am_wp_step (am_call_mono d) hc (by unfold am_step; dsimp only; rw [hm]; exact q_inv ha hl hb hk (by rw [hz.1, hz.2]; trivial) hr h)
theorem q_callS {y' k : Nat} {as rest : List Value} (hc : tb_code y pc = some (.invokestatic k, n, t)) (hm : pMth PP (iOwn (pInf PP y)) k = some (y' + 4)) (ha : st = as.reverse ++ rest) (hl : as.length = iArg (pInf PP (y' + 4))) (hb : Nat.ble (rest.map (fun v => v.category)).sum 8 = true) (hk : 0 = iKnd (pInf PP (y' + 4))) (hz : iCel (pInf PP (y' + 4)) = 0 ∧ iSlt (pInf PP (y' + 4)) = 0) (hr : am_rcv PP E (y' + 4) as ((Sl, f), mi, ml)) (h : am_call PP E d (y' + 4) as ((Sl, f), mi, ml) (kq E d y lim K (pc + 3) L rest)) : qw E d y lim K Sl f pc L st mi ml :=
  am_wp_step (am_call_mono d) hc (by unfold am_step; dsimp only; rw [hm]; exact q_inv ha hl hb hk (by rw [hz.1, hz.2]; trivial) hr h)
theorem q_callI {y' k : Nat} {as rest : List Value} (hc : tb_code y pc = some (.invokespecial k, n, t)) (hm : pMth PP (iOwn (pInf PP y)) k = some (y' + 1)) (ha : st = as.reverse ++ rest) (hl : as.length = iArg (pInf PP (y' + 1))) (hb : Nat.ble (rest.map (fun v => v.category)).sum 8 = true) (hk : 2 = iKnd (pInf PP (y' + 1))) (hu : am_bud PP lim (iCel (pInf PP (y' + 1))) (iSlt (pInf PP (y' + 1))) ((Sl, f), mi, ml)) (hr : am_rcv PP E (y' + 1) as ((Sl, f), mi, ml)) (h : am_call PP E d (y' + 1) as ((Sl, f), mi, ml) (kq E d y lim K (pc + 3) L rest)) : qw E d y lim K Sl f pc L st mi ml :=
  am_wp_step (am_call_mono d) hc (by unfold am_step; dsimp only; rw [hm]; exact q_inv ha hl hb hk hu hr h)
theorem q_bud {a b z : Nat} (hs : (Sl.map (am_szq PP)).sum = z) (h1 : Nat.ble (Sl.length + a) lim.1 = true) (h2 : Nat.ble (z + b) lim.2 = true) : am_bud PP lim a b ((Sl, f), mi, ml) := by
  unfold am_bud
  split
  · trivial
  · refine ⟨Nat.le_of_ble_eq_true h1, ?_⟩
    show (Sl.map (am_szq PP)).sum + _ ≤ _
    rw [hs]
    exact Nat.le_of_ble_eq_true h2
theorem q_obj {k x : Nat} (hc : tb_code y pc = some (.invokespecial k, n, t)) (hm : pMth PP (iOwn (pInf PP y)) k = some 0) (hb : Nat.ble (st.map (fun v => v.category)).sum 8 = true) (h : qw E d y lim K Sl f (pc + 3) L st mi ml) : qw E d y lim K Sl f pc L (.ref x :: st) mi ml :=
  am_wp_step (am_call_mono d) hc (by unfold am_step; dsimp only; rw [hm]; show am_obj _ _ _ _ _; unfold am_obj; dsimp only; rw [hb]; exact h)
theorem q_new {k ci a z : Nat} {Sl' : List am_Shp} (hc : tb_code y pc = some (.new k, n, t)) (hk : pCls PP (iOwn (pInf PP y)) k = some ci) (hl : Sl.length = a) (hs : (Sl.map (am_szq PP)).sum = z) (h1 : Nat.ble (a + 1) lim.1 = true) (h2 : Nat.ble (z + pNf PP ci) lim.2 = true) (hS : Sl ++ [.inl ci] = Sl') (h : qw E d y lim K Sl' f (pc + 3) L (.ref a :: st) mi ml) : qw E d y lim K Sl f pc L st mi ml := by
  subst hl hS hs
  exact am_wp_step (am_call_mono d) hc (by unfold am_step; dsimp only; rw [hk]; exact ⟨Nat.le_of_ble_eq_true h1, Nat.le_of_ble_eq_true h2, h⟩)
theorem q_newa {at_ : ArrayType} {v : Int32} {a z N : Nat} {Sl' : List am_Shp} (hc : tb_code y pc = some (.newarray at_, n, t)) (hv : v.toNatClampNeg = N) (h0 : ¬ v < 0) (hN : Nat.ble N 100000 = true) (hl : Sl.length = a) (hs : (Sl.map (am_szq PP)).sum = z) (h1 : Nat.ble (a + 1) lim.1 = true) (h2 : Nat.ble (z + N) lim.2 = true) (hS : Sl ++ [.inr (newarray.typeOf at_, N)] = Sl') (h : qw E d y lim K Sl' f (pc + 2) L (.ref a :: st) mi ml) : qw E d y lim K Sl f pc L (.int v :: st) mi ml := by
  subst hl hS hs hv
  exact am_wp_step (am_call_mono d) hc ⟨h0, Nat.le_of_ble_eq_true hN, Nat.le_of_ble_eq_true h1, Nat.le_of_ble_eq_true h2, h⟩
theorem q_anew {v : Int32} {k ci a z N : Nat} {Sl' : List am_Shp} (hc : tb_code y pc = some (.anewarray k, n, t)) (hk : pCls PP (iOwn (pInf PP y)) k = some ci) (hv : v.toNatClampNeg = N) (h0 : ¬ v < 0) (hN : Nat.ble N 100000 = true) (hl : Sl.length = a) (hs : (Sl.map (am_szq PP)).sum = z) (h1 : Nat.ble (a + 1) lim.1 = true) (h2 : Nat.ble (z + N) lim.2 = true) (hS : Sl ++ [.inr (.object (pNm PP ci), N)] = Sl') (h : qw E d y lim K Sl' f (pc + 3) L (.ref a :: st) mi ml) : qw E d y lim K Sl f pc L (.int v :: st) mi ml := by
  subst hl hS hs hv
  exact am_wp_step (am_call_mono d) hc (by unfold am_step; dsimp only; rw [hk]; exact ⟨h0, Nat.le_of_ble_eq_true hN, Nat.le_of_ble_eq_true h1, Nat.le_of_ble_eq_true h2, h⟩)
theorem q_mul {v w : Int32} {k a z N D : Nat} {Sl' : List am_Shp} (hc : tb_code y pc = some (.multianewarray k 2, n, t)) (hk : pCst PP (iOwn (pInf PP y)) k = some (.double 3)) (hv : v.toNatClampNeg = N) (hw : w.toNatClampNeg = D) (h0 : ¬ v < 0) (h0' : ¬ w < 0) (hN : Nat.ble N 1000 = true) (hD : Nat.ble D 1000 = true) (hl : Sl.length = a) (hs : (Sl.map (am_szq PP)).sum = z) (h1 : Nat.ble (a + (1 + N)) lim.1 = true) (h2 : Nat.ble (z + (N + N * D)) lim.2 = true) (hS : Sl ++ (.inr (.array .long, N) :: List.replicate N (.inr (.long, D))) = Sl') (h : qw E d y lim K Sl' (fun x i => if x = a then (if i < N then some (a + 1 + i) else none) else f x i) (pc + 4) L (.ref a :: st) mi ml) : qw E d y lim K Sl f pc L (.int w :: .int v :: st) mi ml := by
  subst hl hS hs hv hw
  exact am_wp_step (am_call_mono d) hc (by unfold am_step; dsimp only; rw [hk]; exact ⟨h0, h0', Nat.le_of_ble_eq_true hN, Nat.le_of_ble_eq_true hD, Nat.le_of_ble_eq_true h1, Nat.le_of_ble_eq_true h2, h⟩)
theorem q_putR {k a ci j b : Nat} (hc : tb_code y pc = some (.putfield k, n, t)) (hf : pFld PP (iOwn (pInf PP y)) k = some (ci, j)) (hk : am_kd (pTy PP ci j) = 2) (hn : ((!(pFin PP ci j)) || (Nat.beq (iKnd (pInf PP y)) 2 && Nat.beq (iOwn (pInf PP y)) ci)) = true) (hs : Sl[a]? = some (.inl ci)) (h : qw E d y lim K Sl (rfS f a j b) (pc + 3) L st mi ml) : qw E d y lim K Sl f pc L (.ref b :: .ref a :: st) mi ml := am_wp_step (am_call_mono d) hc (by unfold am_step; dsimp only; rw [hf]; show am_put _ _ _ _ _ _ _ _ _; unfold am_put; dsimp only; rw [hn, hk]; exact ⟨hs, h⟩)
theorem q_aast {i : Int32} {k x N ci j : Nat} (hc : tb_code y pc = some (.aastore, n, t)) (hk : Sl[k]? = some (.inr (.object (pNm PP ci), N))) (hx : Sl[x]? = some (.inl ci)) (hi : vp_in i N) (hj : i.toNatClampNeg = j) (h : qw E d y lim K Sl (rfS f k j x) (pc + 1) L st mi ml) : qw E d y lim K Sl f pc L (.ref x :: .int i :: .ref k :: st) mi ml := by
  subst hj
  exact am_wp_step (am_call_mono d) hc ⟨N, ci, hk, hx, hi, h⟩
theorem q_dupR' {x : Nat} (hc : tb_code y pc = some (.dup, n, t)) (h : qw E d y lim K Sl f (pc + 1) L (.ref x :: .ref x :: st) mi ml) : qw E d y lim K Sl f pc L (.ref x :: st) mi ml := am_wp_step (am_call_mono d) hc h
/-- into a method -/
theorem q_ent {as L' : List Value} {n1 z1 : Nat} (h1 : Nat.ble (am_sl as).length (iMax (pInf PP y)) = true) (h2 : as.length = iArg (pInf PP y)) (h3 : as.all am_isv = true) (hl : am_ent (iMax (pInf PP y)) as = L') (hn : Sl.length + iCel (pInf PP y) = n1) (hz : (Sl.map (am_szq PP)).sum + iSlt (pInf PP y) = z1) (h : qw E d y (n1, z1) (kz n1 z1 K) Sl f 0 L' [] mi ml) : am_call PP E (d + 1) y as ((Sl, f), mi, ml) K := by
  subst hl hn hz
  exact ⟨Nat.le_of_ble_eq_true h1, h2, h3, h⟩
/-- into one that makes no cell -/
theorem q_ent0 {as L' : List Value} (h1 : Nat.ble (am_sl as).length (iMax (pInf PP y)) = true) (h2 : as.length = iArg (pInf PP y)) (h3 : as.all am_isv = true) (hl : am_ent (iMax (pInf PP y)) as = L') (hz : iCel (pInf PP y) = 0 ∧ iSlt (pInf PP y) = 0) (h : qw E d y (Sl.length, (Sl.map (am_szq PP)).sum) (kz Sl.length (Sl.map (am_szq PP)).sum K) Sl f 0 L' [] mi ml) : am_call PP E (d + 1) y as ((Sl, f), mi, ml) K := by
  subst hl
  refine ⟨Nat.le_of_ble_eq_true h1, h2, h3, ?_⟩
  rw [hz.1, hz.2]
  exact h
theorem q_ret0 {x : Int32} {ty : FieldType} (hc : tb_code y pc = some (.ireturn, n, t)) (hr : iRet (pInf PP y) = some ty) (ho : am_fit ty x) (h : K (some (.int x)) ((Sl, f), mi, ml)) : qw E d y lim (kz Sl.length (Sl.map (am_szq PP)).sum K) Sl f pc L [.int x] mi ml := am_wp_step (am_call_mono d) hc (by unfold am_step; dsimp only; rw [hr]; exact ⟨ho, rfl, rfl, h⟩)
theorem q_vret0 (hc : tb_code y pc = some (.return_, n, t)) (hr : iRet (pInf PP y) = none) (h : K none ((Sl, f), mi, ml)) : qw E d y lim (kz Sl.length (Sl.map (am_szq PP)).sum K) Sl f pc L [] mi ml := am_wp_step (am_call_mono d) hc (by unfold am_step; dsimp only; rw [hr]; exact ⟨rfl, rfl, h⟩)
theorem q_vret {n1 z1 : Nat} (hc : tb_code y pc = some (.return_, n, t)) (hr : iRet (pInf PP y) = none) (hl : Sl.length = n1) (hs : (Sl.map (am_szq PP)).sum = z1) (h : K none ((Sl, f), mi, ml)) : qw E d y lim (kz n1 z1 K) Sl f pc L [] mi ml := am_wp_step (am_call_mono d) hc (by unfold am_step; dsimp only; rw [hr]; exact ⟨hl, hs, h⟩)
end
def Sh (k : Nat) : List am_Shp := tb_sh.take k
theorem sl_0 : (Sh 0).length = 0 := rfl
theorem sz_0 : ((Sh 0).map (am_szq PP)).sum = 0 := by decide +kernel
theorem sl_1 : (Sh 1).length = 1 := rfl
theorem sz_1 : ((Sh 1).map (am_szq PP)).sum = 18 := by decide +kernel
theorem sl_2 : (Sh 2).length = 2 := rfl
theorem sz_2 : ((Sh 2).map (am_szq PP)).sum = 918 := by decide +kernel
theorem sl_3 : (Sh 3).length = 3 := rfl
theorem sz_3 : ((Sh 3).map (am_szq PP)).sum = 922 := by decide +kernel
theorem sl_4 : (Sh 4).length = 4 := rfl
theorem sz_4 : ((Sh 4).map (am_szq PP)).sum = 926 := by decide +kernel
theorem sl_5 : (Sh 5).length = 5 := rfl
theorem sz_5 : ((Sh 5).map (am_szq PP)).sum = 986 := by decide +kernel
theorem sl_6 : (Sh 6).length = 6 := rfl
theorem sz_6 : ((Sh 6).map (am_szq PP)).sum = 1046 := by decide +kernel
theorem sl_7 : (Sh 7).length = 7 := rfl
theorem sz_7 : ((Sh 7).map (am_szq PP)).sum = 1106 := by decide +kernel
theorem sl_8 : (Sh 8).length = 8 := rfl
theorem sz_8 : ((Sh 8).map (am_szq PP)).sum = 1166 := by decide +kernel
theorem sl_9 : (Sh 9).length = 9 := rfl
theorem sz_9 : ((Sh 9).map (am_szq PP)).sum = 1170 := by decide +kernel
theorem sl_10 : (Sh 10).length = 10 := rfl
theorem sz_10 : ((Sh 10).map (am_szq PP)).sum = 1174 := by decide +kernel
theorem sl_11 : (Sh 11).length = 11 := rfl
theorem sz_11 : ((Sh 11).map (am_szq PP)).sum = 1178 := by decide +kernel
theorem sl_12 : (Sh 12).length = 12 := rfl
theorem sz_12 : ((Sh 12).map (am_szq PP)).sum = 1180 := by decide +kernel
theorem sl_13 : (Sh 13).length = 13 := rfl
theorem sz_13 : ((Sh 13).map (am_szq PP)).sum = 1196 := by decide +kernel
theorem sl_14 : (Sh 14).length = 14 := rfl
theorem sz_14 : ((Sh 14).map (am_szq PP)).sum = 1202 := by decide +kernel
theorem sl_15 : (Sh 15).length = 15 := rfl
theorem sz_15 : ((Sh 15).map (am_szq PP)).sum = 1208 := by decide +kernel
theorem sl_16 : (Sh 16).length = 16 := rfl
theorem sz_16 : ((Sh 16).map (am_szq PP)).sum = 1216 := by decide +kernel
theorem sl_17 : (Sh 17).length = 17 := rfl
theorem sz_17 : ((Sh 17).map (am_szq PP)).sum = 1224 := by decide +kernel
theorem sl_18 : (Sh 18).length = 18 := rfl
theorem sz_18 : ((Sh 18).map (am_szq PP)).sum = 1232 := by decide +kernel
theorem sl_19 : (Sh 19).length = 19 := rfl
theorem sz_19 : ((Sh 19).map (am_szq PP)).sum = 1240 := by decide +kernel
theorem sl_20 : (Sh 20).length = 20 := rfl
theorem sz_20 : ((Sh 20).map (am_szq PP)).sum = 1248 := by decide +kernel
theorem sl_21 : (Sh 21).length = 21 := rfl
theorem sz_21 : ((Sh 21).map (am_szq PP)).sum = 1256 := by decide +kernel
theorem sl_22 : (Sh 22).length = 22 := rfl
theorem sz_22 : ((Sh 22).map (am_szq PP)).sum = 1265 := by decide +kernel
theorem sl_23 : (Sh 23).length = 23 := rfl
theorem sz_23 : ((Sh 23).map (am_szq PP)).sum = 1325 := by decide +kernel
theorem sl_24 : (Sh 24).length = 24 := rfl
theorem sz_24 : ((Sh 24).map (am_szq PP)).sum = 1385 := by decide +kernel
theorem sl_25 : (Sh 25).length = 25 := rfl
theorem sz_25 : ((Sh 25).map (am_szq PP)).sum = 1445 := by decide +kernel
theorem sl_26 : (Sh 26).length = 26 := rfl
theorem sz_26 : ((Sh 26).map (am_szq PP)).sum = 1505 := by decide +kernel
theorem sl_27 : (Sh 27).length = 27 := rfl
theorem sz_27 : ((Sh 27).map (am_szq PP)).sum = 1565 := by decide +kernel
theorem sl_28 : (Sh 28).length = 28 := rfl
theorem sz_28 : ((Sh 28).map (am_szq PP)).sum = 1625 := by decide +kernel
theorem sl_29 : (Sh 29).length = 29 := rfl
theorem sz_29 : ((Sh 29).map (am_szq PP)).sum = 1641 := by decide +kernel
theorem sl_30 : (Sh 30).length = 30 := rfl
theorem sz_30 : ((Sh 30).map (am_szq PP)).sum = 1647 := by decide +kernel
theorem sl_31 : (Sh 31).length = 31 := rfl
theorem sz_31 : ((Sh 31).map (am_szq PP)).sum = 1653 := by decide +kernel
theorem sl_32 : (Sh 32).length = 32 := rfl
theorem sz_32 : ((Sh 32).map (am_szq PP)).sum = 1661 := by decide +kernel
theorem sl_33 : (Sh 33).length = 33 := rfl
theorem sz_33 : ((Sh 33).map (am_szq PP)).sum = 1669 := by decide +kernel
theorem sl_34 : (Sh 34).length = 34 := rfl
theorem sz_34 : ((Sh 34).map (am_szq PP)).sum = 1677 := by decide +kernel
theorem sl_35 : (Sh 35).length = 35 := rfl
theorem sz_35 : ((Sh 35).map (am_szq PP)).sum = 1685 := by decide +kernel
theorem sl_36 : (Sh 36).length = 36 := rfl
theorem sz_36 : ((Sh 36).map (am_szq PP)).sum = 1693 := by decide +kernel
theorem sl_37 : (Sh 37).length = 37 := rfl
theorem sz_37 : ((Sh 37).map (am_szq PP)).sum = 1701 := by decide +kernel
theorem sl_38 : (Sh 38).length = 38 := rfl
theorem sz_38 : ((Sh 38).map (am_szq PP)).sum = 1710 := by decide +kernel
theorem sl_39 : (Sh 39).length = 39 := rfl
theorem sz_39 : ((Sh 39).map (am_szq PP)).sum = 1770 := by decide +kernel
theorem sl_40 : (Sh 40).length = 40 := rfl
theorem sz_40 : ((Sh 40).map (am_szq PP)).sum = 1830 := by decide +kernel
theorem sl_41 : (Sh 41).length = 41 := rfl
theorem sz_41 : ((Sh 41).map (am_szq PP)).sum = 1890 := by decide +kernel
theorem sl_42 : (Sh 42).length = 42 := rfl
theorem sz_42 : ((Sh 42).map (am_szq PP)).sum = 1950 := by decide +kernel
theorem sl_43 : (Sh 43).length = 43 := rfl
theorem sz_43 : ((Sh 43).map (am_szq PP)).sum = 2010 := by decide +kernel
theorem sl_44 : (Sh 44).length = 44 := rfl
theorem sz_44 : ((Sh 44).map (am_szq PP)).sum = 2070 := by decide +kernel
theorem sl_45 : (Sh 45).length = 45 := rfl
theorem sz_45 : ((Sh 45).map (am_szq PP)).sum = 2073 := by decide +kernel
theorem sl_46 : (Sh 46).length = 46 := rfl
theorem sz_46 : ((Sh 46).map (am_szq PP)).sum = 2076 := by decide +kernel
theorem sl_47 : (Sh 47).length = 47 := rfl
theorem sz_47 : ((Sh 47).map (am_szq PP)).sum = 2087 := by decide +kernel
theorem sl_48 : (Sh 48).length = 48 := rfl
theorem sz_48 : ((Sh 48).map (am_szq PP)).sum = 2109 := by decide +kernel
theorem sl_49 : (Sh 49).length = 49 := rfl
theorem sz_49 : ((Sh 49).map (am_szq PP)).sum = 2112 := by decide +kernel
theorem sl_50 : (Sh 50).length = 50 := rfl
theorem sz_50 : ((Sh 50).map (am_szq PP)).sum = 2117 := by decide +kernel
theorem sl_51 : (Sh 51).length = 51 := rfl
theorem sz_51 : ((Sh 51).map (am_szq PP)).sum = 2120 := by decide +kernel
theorem sl_52 : (Sh 52).length = 52 := rfl
theorem sz_52 : ((Sh 52).map (am_szq PP)).sum = 2129 := by decide +kernel
theorem sl_53 : (Sh 53).length = 53 := rfl
theorem sz_53 : ((Sh 53).map (am_szq PP)).sum = 2189 := by decide +kernel
theorem sl_54 : (Sh 54).length = 54 := rfl
theorem sz_54 : ((Sh 54).map (am_szq PP)).sum = 2198 := by decide +kernel
theorem sl_55 : (Sh 55).length = 55 := rfl
theorem sz_55 : ((Sh 55).map (am_szq PP)).sum = 2258 := by decide +kernel
theorem sl_56 : (Sh 56).length = 56 := rfl
theorem sz_56 : ((Sh 56).map (am_szq PP)).sum = 2261 := by decide +kernel
theorem sl_57 : (Sh 57).length = 57 := rfl
theorem sz_57 : ((Sh 57).map (am_szq PP)).sum = 2325 := by decide +kernel
theorem sl_58 : (Sh 58).length = 58 := rfl
theorem sz_58 : ((Sh 58).map (am_szq PP)).sum = 2389 := by decide +kernel
theorem sl_59 : (Sh 59).length = 59 := rfl
theorem sz_59 : ((Sh 59).map (am_szq PP)).sum = 2405 := by decide +kernel
theorem sl_60 : (Sh 60).length = 60 := rfl
theorem sz_60 : ((Sh 60).map (am_szq PP)).sum = 2411 := by decide +kernel
theorem sl_61 : (Sh 61).length = 61 := rfl
theorem sz_61 : ((Sh 61).map (am_szq PP)).sum = 2417 := by decide +kernel
theorem sl_62 : (Sh 62).length = 62 := rfl
theorem sz_62 : ((Sh 62).map (am_szq PP)).sum = 2425 := by decide +kernel
theorem sl_63 : (Sh 63).length = 63 := rfl
theorem sz_63 : ((Sh 63).map (am_szq PP)).sum = 2433 := by decide +kernel
theorem sl_64 : (Sh 64).length = 64 := rfl
theorem sz_64 : ((Sh 64).map (am_szq PP)).sum = 2441 := by decide +kernel
theorem sl_65 : (Sh 65).length = 65 := rfl
theorem sz_65 : ((Sh 65).map (am_szq PP)).sum = 2449 := by decide +kernel
theorem sl_66 : (Sh 66).length = 66 := rfl
theorem sz_66 : ((Sh 66).map (am_szq PP)).sum = 2457 := by decide +kernel
theorem sl_67 : (Sh 67).length = 67 := rfl
theorem sz_67 : ((Sh 67).map (am_szq PP)).sum = 2465 := by decide +kernel
theorem sl_68 : (Sh 68).length = 68 := rfl
theorem sz_68 : ((Sh 68).map (am_szq PP)).sum = 2474 := by decide +kernel
theorem sl_69 : (Sh 69).length = 69 := rfl
theorem sz_69 : ((Sh 69).map (am_szq PP)).sum = 2534 := by decide +kernel
theorem sl_70 : (Sh 70).length = 70 := rfl
theorem sz_70 : ((Sh 70).map (am_szq PP)).sum = 2594 := by decide +kernel
theorem sl_71 : (Sh 71).length = 71 := rfl
theorem sz_71 : ((Sh 71).map (am_szq PP)).sum = 2654 := by decide +kernel
theorem sl_72 : (Sh 72).length = 72 := rfl
theorem sz_72 : ((Sh 72).map (am_szq PP)).sum = 2714 := by decide +kernel
theorem sl_73 : (Sh 73).length = 73 := rfl
theorem sz_73 : ((Sh 73).map (am_szq PP)).sum = 2774 := by decide +kernel
theorem sl_74 : (Sh 74).length = 74 := rfl
theorem sz_74 : ((Sh 74).map (am_szq PP)).sum = 2834 := by decide +kernel
theorem sl_75 : (Sh 75).length = 75 := rfl
theorem sz_75 : ((Sh 75).map (am_szq PP)).sum = 2850 := by decide +kernel
theorem sl_76 : (Sh 76).length = 76 := rfl
theorem sz_76 : ((Sh 76).map (am_szq PP)).sum = 2856 := by decide +kernel
theorem sl_77 : (Sh 77).length = 77 := rfl
theorem sz_77 : ((Sh 77).map (am_szq PP)).sum = 2862 := by decide +kernel
theorem sl_78 : (Sh 78).length = 78 := rfl
theorem sz_78 : ((Sh 78).map (am_szq PP)).sum = 2870 := by decide +kernel
theorem sl_79 : (Sh 79).length = 79 := rfl
theorem sz_79 : ((Sh 79).map (am_szq PP)).sum = 2878 := by decide +kernel
theorem sl_80 : (Sh 80).length = 80 := rfl
theorem sz_80 : ((Sh 80).map (am_szq PP)).sum = 2886 := by decide +kernel
theorem sl_81 : (Sh 81).length = 81 := rfl
theorem sz_81 : ((Sh 81).map (am_szq PP)).sum = 2894 := by decide +kernel
theorem sl_82 : (Sh 82).length = 82 := rfl
theorem sz_82 : ((Sh 82).map (am_szq PP)).sum = 2902 := by decide +kernel
theorem sl_83 : (Sh 83).length = 83 := rfl
theorem sz_83 : ((Sh 83).map (am_szq PP)).sum = 2910 := by decide +kernel
theorem sl_84 : (Sh 84).length = 84 := rfl
theorem sz_84 : ((Sh 84).map (am_szq PP)).sum = 2919 := by decide +kernel
theorem sl_85 : (Sh 85).length = 85 := rfl
theorem sz_85 : ((Sh 85).map (am_szq PP)).sum = 2979 := by decide +kernel
theorem sl_86 : (Sh 86).length = 86 := rfl
theorem sz_86 : ((Sh 86).map (am_szq PP)).sum = 3039 := by decide +kernel
theorem sl_87 : (Sh 87).length = 87 := rfl
theorem sz_87 : ((Sh 87).map (am_szq PP)).sum = 3099 := by decide +kernel
theorem sl_88 : (Sh 88).length = 88 := rfl
theorem sz_88 : ((Sh 88).map (am_szq PP)).sum = 3159 := by decide +kernel
theorem sl_89 : (Sh 89).length = 89 := rfl
theorem sz_89 : ((Sh 89).map (am_szq PP)).sum = 3219 := by decide +kernel
theorem sl_90 : (Sh 90).length = 90 := rfl
theorem sz_90 : ((Sh 90).map (am_szq PP)).sum = 3279 := by decide +kernel
theorem sl_91 : (Sh 91).length = 91 := rfl
theorem sz_91 : ((Sh 91).map (am_szq PP)).sum = 3295 := by decide +kernel
theorem sl_92 : (Sh 92).length = 92 := rfl
theorem sz_92 : ((Sh 92).map (am_szq PP)).sum = 3301 := by decide +kernel
theorem sl_93 : (Sh 93).length = 93 := rfl
theorem sz_93 : ((Sh 93).map (am_szq PP)).sum = 3307 := by decide +kernel
theorem sl_94 : (Sh 94).length = 94 := rfl
theorem sz_94 : ((Sh 94).map (am_szq PP)).sum = 3315 := by decide +kernel
theorem sl_95 : (Sh 95).length = 95 := rfl
theorem sz_95 : ((Sh 95).map (am_szq PP)).sum = 3323 := by decide +kernel
theorem sl_96 : (Sh 96).length = 96 := rfl
theorem sz_96 : ((Sh 96).map (am_szq PP)).sum = 3331 := by decide +kernel
theorem sl_97 : (Sh 97).length = 97 := rfl
theorem sz_97 : ((Sh 97).map (am_szq PP)).sum = 3339 := by decide +kernel
theorem sl_98 : (Sh 98).length = 98 := rfl
theorem sz_98 : ((Sh 98).map (am_szq PP)).sum = 3347 := by decide +kernel
theorem sl_99 : (Sh 99).length = 99 := rfl
theorem sz_99 : ((Sh 99).map (am_szq PP)).sum = 3355 := by decide +kernel
theorem sl_100 : (Sh 100).length = 100 := rfl
theorem sz_100 : ((Sh 100).map (am_szq PP)).sum = 3364 := by decide +kernel
theorem sl_101 : (Sh 101).length = 101 := rfl
theorem sz_101 : ((Sh 101).map (am_szq PP)).sum = 3424 := by decide +kernel
theorem sl_102 : (Sh 102).length = 102 := rfl
theorem sz_102 : ((Sh 102).map (am_szq PP)).sum = 3484 := by decide +kernel
theorem sl_103 : (Sh 103).length = 103 := rfl
theorem sz_103 : ((Sh 103).map (am_szq PP)).sum = 3544 := by decide +kernel
theorem sl_104 : (Sh 104).length = 104 := rfl
theorem sz_104 : ((Sh 104).map (am_szq PP)).sum = 3604 := by decide +kernel
theorem sl_105 : (Sh 105).length = 105 := rfl
theorem sz_105 : ((Sh 105).map (am_szq PP)).sum = 3664 := by decide +kernel
theorem sl_106 : (Sh 106).length = 106 := rfl
theorem sz_106 : ((Sh 106).map (am_szq PP)).sum = 3724 := by decide +kernel
theorem sl_107 : (Sh 107).length = 107 := rfl
theorem sz_107 : ((Sh 107).map (am_szq PP)).sum = 3761 := by decide +kernel
theorem sl_108 : (Sh 108).length = 108 := rfl
theorem sz_108 : ((Sh 108).map (am_szq PP)).sum = 6353 := by decide +kernel
theorem sl_109 : (Sh 109).length = 109 := rfl
theorem sz_109 : ((Sh 109).map (am_szq PP)).sum = 6437 := by decide +kernel
theorem sl_110 : (Sh 110).length = 110 := rfl
theorem sz_110 : ((Sh 110).map (am_szq PP)).sum = 6441 := by decide +kernel
theorem sl_111 : (Sh 111).length = 111 := rfl
theorem sz_111 : ((Sh 111).map (am_szq PP)).sum = 6445 := by decide +kernel
theorem sl_112 : (Sh 112).length = 112 := rfl
theorem sz_112 : ((Sh 112).map (am_szq PP)).sum = 6685 := by decide +kernel
theorem sl_113 : (Sh 113).length = 113 := rfl
theorem sz_113 : ((Sh 113).map (am_szq PP)).sum = 7585 := by decide +kernel
theorem sl_114 : (Sh 114).length = 114 := rfl
theorem sz_114 : ((Sh 114).map (am_szq PP)).sum = 8485 := by decide +kernel
theorem sl_115 : (Sh 115).length = 115 := rfl
theorem sz_115 : ((Sh 115).map (am_szq PP)).sum = 8488 := by decide +kernel
theorem sl_116 : (Sh 116).length = 116 := rfl
theorem sz_116 : ((Sh 116).map (am_szq PP)).sum = 8496 := by decide +kernel
theorem sl_117 : (Sh 117).length = 117 := rfl
theorem sz_117 : ((Sh 117).map (am_szq PP)).sum = 8560 := by decide +kernel
theorem sl_118 : (Sh 118).length = 118 := rfl
theorem sz_118 : ((Sh 118).map (am_szq PP)).sum = 8624 := by decide +kernel
theorem sl_119 : (Sh 119).length = 119 := rfl
theorem sz_119 : ((Sh 119).map (am_szq PP)).sum = 8637 := by decide +kernel
theorem sl_120 : (Sh 120).length = 120 := rfl
theorem sz_120 : ((Sh 120).map (am_szq PP)).sum = 8717 := by decide +kernel
theorem sl_121 : (Sh 121).length = 121 := rfl
theorem sz_121 : ((Sh 121).map (am_szq PP)).sum = 8722 := by decide +kernel
theorem sl_122 : (Sh 122).length = 122 := rfl
theorem sz_122 : ((Sh 122).map (am_szq PP)).sum = 8727 := by decide +kernel
