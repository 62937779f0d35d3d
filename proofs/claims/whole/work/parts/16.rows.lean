/-! Rows of the small machine over S0: printed by wip/gen/rowsgen.py. -/
def am_si (f : Nat → Nat → Int32) (k j : Nat) (x : Int32) : Nat → Nat → Int32 := fun a i => if a = k then (if i = j then x else f a i) else f a i
def am_sj (f : Nat → Nat → Int64) (k j : Nat) (x : Int64) : Nat → Nat → Int64 := fun a i => if a = k then (if i = j then x else f a i) else f a i
def am_sc {α : Type} (f : Nat → Nat → α) (k : Nat) (g : Nat → α) : Nat → Nat → α := fun a i => if a = k then g i else f a i
def am_l0 (y : Nat) : Nat × Nat := (S0.1.length + iCel (pInf PP y), (S0.1.map (am_szq PP)).sum + iSlt (pInf PP y))
def am_k0 (y : Nat) (K : am_K) : am_K := fun r M' => M'.1.1.length = S0.1.length + iCel (pInf PP y) ∧ am_sz PP M' = (S0.1.map (am_szq PP)).sum + iSlt (pInf PP y) ∧ K r M'
def rn (E : am_E) (d y : Nat) (K : am_K) (pc : Nat) (L st : List Value) (mi : Nat → Nat → Int32) (ml : Nat → Nat → Int64) : Prop := am_wp PP E y (am_l0 y) (am_call PP E d) (am_k0 y K) pc L st (S0, mi, ml)
def cq (E : am_E) (d y : Nat) (as : List Value) (K : am_K) (mi : Nat → Nat → Int32) (ml : Nat → Nat → Int64) : Prop := am_call PP E d y as (S0, mi, ml) K
def kc (E : am_E) (d y : Nat) (K : am_K) (pc : Nat) (L rest : List Value) : am_K := fun r M' => am_wp PP E y (am_l0 y) (am_call PP E d) (am_k0 y K) pc L (r.toList ++ rest) M'
section
variable {E : am_E} {d y : Nat} {K : am_K} {pc : Nat} {L st : List Value} {mi : Nat → Nat → Int32} {ml : Nat → Nat → Int64} {n t : Nat}
theorem r_weak {L' : List Value} (hl : am_le L L') (h : rn E d y K pc L st mi ml) : rn E d y K pc L' st mi ml := am_wp_weak (am_call_mono d) hl h
theorem cq_mono {as : List Value} {K' : am_K} (hk : ∀ r M', K r M' → K' r M') (h : cq E d y as K mi ml) : cq E d y as K' mi ml := am_call_mono d _ _ _ _ _ hk h
theorem r_iconst {z : Int} {v : Int32} (hc : tb_code y pc = some (.iconst z, n, t)) (hv : Int32.ofInt z = v) (h : rn E d y K (pc + 1) L (.int v :: st) mi ml) : rn E d y K pc L st mi ml := by subst hv; exact am_wp_step (am_call_mono d) hc h
theorem r_bipush {z : Int} {v : Int32} (hc : tb_code y pc = some (.bipush z, n, t)) (hv : (Int8.ofInt z).toInt32 = v) (h : rn E d y K (pc + 2) L (.int v :: st) mi ml) : rn E d y K pc L st mi ml := by subst hv; exact am_wp_step (am_call_mono d) hc h
theorem r_sipush {z : Int} {v : Int32} (hc : tb_code y pc = some (.sipush z, n, t)) (hv : (Int16.ofInt z).toInt32 = v) (h : rn E d y K (pc + 3) L (.int v :: st) mi ml) : rn E d y K pc L st mi ml := by subst hv; exact am_wp_step (am_call_mono d) hc h
theorem r_lconst {z : Fin 2} {v : Int64} (hc : tb_code y pc = some (.lconst z, n, t)) (hv : Int64.ofNat (z : Nat) = v) (h : rn E d y K (pc + 1) L (.long v :: st) mi ml) : rn E d y K pc L st mi ml := by subst hv; exact am_wp_step (am_call_mono d) hc h
theorem r_iload_n {k : Fin 4} {x : Int32} (hc : tb_code y pc = some (.iload_n k, n, t)) (hl : L[(k : Nat)]? = some (.int x)) (h : rn E d y K (pc + 1) L (.int x :: st) mi ml) : rn E d y K pc L st mi ml := am_wp_step (am_call_mono d) hc (by unfold am_step; dsimp only; unfold am_ldI; rw [hl]; exact h)
theorem r_iload {k : Nat} {x : Int32} (hc : tb_code y pc = some (.iload k, n, t)) (hl : L[(k : Nat)]? = some (.int x)) (h : rn E d y K (pc + 2) L (.int x :: st) mi ml) : rn E d y K pc L st mi ml := am_wp_step (am_call_mono d) hc (by unfold am_step; dsimp only; unfold am_ldI; rw [hl]; exact h)
theorem r_lload_n {k : Fin 4} {x : Int64} (hc : tb_code y pc = some (.lload_n k, n, t)) (hl : L[(k : Nat)]? = some (.long x)) (h : rn E d y K (pc + 1) L (.long x :: st) mi ml) : rn E d y K pc L st mi ml := am_wp_step (am_call_mono d) hc (by unfold am_step; dsimp only; unfold am_ldL; rw [hl]; exact h)
theorem r_lload {k : Nat} {x : Int64} (hc : tb_code y pc = some (.lload k, n, t)) (hl : L[(k : Nat)]? = some (.long x)) (h : rn E d y K (pc + 2) L (.long x :: st) mi ml) : rn E d y K pc L st mi ml := am_wp_step (am_call_mono d) hc (by unfold am_step; dsimp only; unfold am_ldL; rw [hl]; exact h)
theorem r_aload_n {k : Fin 4} {x : Nat} (hc : tb_code y pc = some (.aload_n k, n, t)) (hl : L[(k : Nat)]? = some (.ref x)) (h : rn E d y K (pc + 1) L (.ref x :: st) mi ml) : rn E d y K pc L st mi ml := am_wp_step (am_call_mono d) hc (by unfold am_step; dsimp only; unfold am_ldA; rw [hl]; exact h)
theorem r_aload {k : Nat} {x : Nat} (hc : tb_code y pc = some (.aload k, n, t)) (hl : L[(k : Nat)]? = some (.ref x)) (h : rn E d y K (pc + 2) L (.ref x :: st) mi ml) : rn E d y K pc L st mi ml := am_wp_step (am_call_mono d) hc (by unfold am_step; dsimp only; unfold am_ldA; rw [hl]; exact h)
theorem r_aload_nT {k : Fin 4} {x : Nat} (hc : tb_code y pc = some (.aload_n k, n, t)) (hl : L[(k : Nat)]? = some (.retAddr x)) (h : rn E d y K (pc + 1) L (.retAddr x :: st) mi ml) : rn E d y K pc L st mi ml := am_wp_step (am_call_mono d) hc (by unfold am_step; dsimp only; unfold am_ldA; rw [hl]; exact h)
theorem r_aloadT {k : Nat} {x : Nat} (hc : tb_code y pc = some (.aload k, n, t)) (hl : L[(k : Nat)]? = some (.retAddr x)) (h : rn E d y K (pc + 2) L (.retAddr x :: st) mi ml) : rn E d y K pc L st mi ml := am_wp_step (am_call_mono d) hc (by unfold am_step; dsimp only; unfold am_ldA; rw [hl]; exact h)
theorem r_istore_n {k : Fin 4} {x : Int32} {L' : List Value} (hc : tb_code y pc = some (.istore_n k, n, t)) (hb : Nat.blt (k : Nat) L.length = true) (hl : am_set L k (.int x) = L') (h : rn E d y K (pc + 1) L' st mi ml) : rn E d y K pc L (.int x :: st) mi ml := am_wp_step (am_call_mono d) hc (by unfold am_step; dsimp only; unfold am_stI; rw [hb]; subst hl; exact h)
theorem r_istore {k : Nat} {x : Int32} {L' : List Value} (hc : tb_code y pc = some (.istore k, n, t)) (hb : Nat.blt (k : Nat) L.length = true) (hl : am_set L k (.int x) = L') (h : rn E d y K (pc + 2) L' st mi ml) : rn E d y K pc L (.int x :: st) mi ml := am_wp_step (am_call_mono d) hc (by unfold am_step; dsimp only; unfold am_stI; rw [hb]; subst hl; exact h)
theorem r_lstore_n {k : Fin 4} {x : Int64} {L' : List Value} (hc : tb_code y pc = some (.lstore_n k, n, t)) (hb : Nat.blt ((k : Nat) + 1) L.length = true) (hl : am_set2 L k (.long x) = L') (h : rn E d y K (pc + 1) L' st mi ml) : rn E d y K pc L (.long x :: st) mi ml := am_wp_step (am_call_mono d) hc (by unfold am_step; dsimp only; unfold am_stL; rw [hb]; subst hl; exact h)
theorem r_lstore {k : Nat} {x : Int64} {L' : List Value} (hc : tb_code y pc = some (.lstore k, n, t)) (hb : Nat.blt ((k : Nat) + 1) L.length = true) (hl : am_set2 L k (.long x) = L') (h : rn E d y K (pc + 2) L' st mi ml) : rn E d y K pc L (.long x :: st) mi ml := am_wp_step (am_call_mono d) hc (by unfold am_step; dsimp only; unfold am_stL; rw [hb]; subst hl; exact h)
theorem r_astore_n {k : Fin 4} {x : Nat} {L' : List Value} (hc : tb_code y pc = some (.astore_n k, n, t)) (hb : Nat.blt (k : Nat) L.length = true) (hl : am_set L k (.ref x) = L') (h : rn E d y K (pc + 1) L' st mi ml) : rn E d y K pc L (.ref x :: st) mi ml := am_wp_step (am_call_mono d) hc (by unfold am_step; dsimp only; unfold am_stA; rw [hb]; subst hl; exact h)
theorem r_astore {k : Nat} {x : Nat} {L' : List Value} (hc : tb_code y pc = some (.astore k, n, t)) (hb : Nat.blt (k : Nat) L.length = true) (hl : am_set L k (.ref x) = L') (h : rn E d y K (pc + 2) L' st mi ml) : rn E d y K pc L (.ref x :: st) mi ml := am_wp_step (am_call_mono d) hc (by unfold am_step; dsimp only; unfold am_stA; rw [hb]; subst hl; exact h)
theorem r_iinc {k : Nat} {z : Int} {x v : Int32} {L' : List Value} (hc : tb_code y pc = some (.iinc k z, n, t)) (hb : Nat.blt k L.length = true) (hx : L[k]? = some (.int x)) (hv : Int32.ofInt z = v) (hl : am_set L k (.int (x + v)) = L') (h : rn E d y K (pc + 3) L' st mi ml) : rn E d y K pc L st mi ml := am_wp_step (am_call_mono d) hc (by unfold am_step; dsimp only; rw [hb, hx]; subst hv; subst hl; exact h)
theorem r_iadd {x z : Int32} (hc : tb_code y pc = some (.iadd, n, t)) (h : rn E d y K (pc + 1) L (.int (x + z) :: st) mi ml) : rn E d y K pc L (.int z :: .int x :: st) mi ml := am_wp_step (am_call_mono d) hc h
theorem r_isub {x z : Int32} (hc : tb_code y pc = some (.isub, n, t)) (h : rn E d y K (pc + 1) L (.int (x - z) :: st) mi ml) : rn E d y K pc L (.int z :: .int x :: st) mi ml := am_wp_step (am_call_mono d) hc h
theorem r_imul {x z : Int32} (hc : tb_code y pc = some (.imul, n, t)) (h : rn E d y K (pc + 1) L (.int (x * z) :: st) mi ml) : rn E d y K pc L (.int z :: .int x :: st) mi ml := am_wp_step (am_call_mono d) hc h
theorem r_iand {x z : Int32} (hc : tb_code y pc = some (.iand, n, t)) (h : rn E d y K (pc + 1) L (.int (x &&& z) :: st) mi ml) : rn E d y K pc L (.int z :: .int x :: st) mi ml := am_wp_step (am_call_mono d) hc h
theorem r_ior {x z : Int32} (hc : tb_code y pc = some (.ior, n, t)) (h : rn E d y K (pc + 1) L (.int (x ||| z) :: st) mi ml) : rn E d y K pc L (.int z :: .int x :: st) mi ml := am_wp_step (am_call_mono d) hc h
theorem r_ixor {x z : Int32} (hc : tb_code y pc = some (.ixor, n, t)) (h : rn E d y K (pc + 1) L (.int (x ^^^ z) :: st) mi ml) : rn E d y K pc L (.int z :: .int x :: st) mi ml := am_wp_step (am_call_mono d) hc h
theorem r_ishl {x z : Int32} (hc : tb_code y pc = some (.ishl, n, t)) (h : rn E d y K (pc + 1) L (.int (x <<< (z &&& 31)) :: st) mi ml) : rn E d y K pc L (.int z :: .int x :: st) mi ml := am_wp_step (am_call_mono d) hc h
theorem r_ishr {x z : Int32} (hc : tb_code y pc = some (.ishr, n, t)) (h : rn E d y K (pc + 1) L (.int (x >>> (z &&& 31)) :: st) mi ml) : rn E d y K pc L (.int z :: .int x :: st) mi ml := am_wp_step (am_call_mono d) hc h
theorem r_iushr {x z : Int32} (hc : tb_code y pc = some (.iushr, n, t)) (h : rn E d y K (pc + 1) L (.int ((x.toUInt32 >>> (z.toUInt32 &&& Int32.toUInt32 31)).toInt32) :: st) mi ml) : rn E d y K pc L (.int z :: .int x :: st) mi ml := am_wp_step (am_call_mono d) hc h
theorem r_idiv {x z : Int32} (hc : tb_code y pc = some (.idiv, n, t)) (ho : ¬ z = 0) (h : rn E d y K (pc + 1) L (.int (x / z) :: st) mi ml) : rn E d y K pc L (.int z :: .int x :: st) mi ml := am_wp_step (am_call_mono d) hc ⟨ho, h⟩
theorem r_irem {x z : Int32} (hc : tb_code y pc = some (.irem, n, t)) (ho : ¬ z = 0) (h : rn E d y K (pc + 1) L (.int (x - x / z * z) :: st) mi ml) : rn E d y K pc L (.int z :: .int x :: st) mi ml := am_wp_step (am_call_mono d) hc ⟨ho, h⟩
theorem r_ladd {x z : Int64} (hc : tb_code y pc = some (.ladd, n, t)) (h : rn E d y K (pc + 1) L (.long (x + z) :: st) mi ml) : rn E d y K pc L (.long z :: .long x :: st) mi ml := am_wp_step (am_call_mono d) hc h
theorem r_lsub {x z : Int64} (hc : tb_code y pc = some (.lsub, n, t)) (h : rn E d y K (pc + 1) L (.long (x - z) :: st) mi ml) : rn E d y K pc L (.long z :: .long x :: st) mi ml := am_wp_step (am_call_mono d) hc h
theorem r_lmul {x z : Int64} (hc : tb_code y pc = some (.lmul, n, t)) (h : rn E d y K (pc + 1) L (.long (x * z) :: st) mi ml) : rn E d y K pc L (.long z :: .long x :: st) mi ml := am_wp_step (am_call_mono d) hc h
theorem r_land {x z : Int64} (hc : tb_code y pc = some (.land, n, t)) (h : rn E d y K (pc + 1) L (.long (x &&& z) :: st) mi ml) : rn E d y K pc L (.long z :: .long x :: st) mi ml := am_wp_step (am_call_mono d) hc h
theorem r_lor {x z : Int64} (hc : tb_code y pc = some (.lor, n, t)) (h : rn E d y K (pc + 1) L (.long (x ||| z) :: st) mi ml) : rn E d y K pc L (.long z :: .long x :: st) mi ml := am_wp_step (am_call_mono d) hc h
theorem r_ldiv {x z : Int64} (hc : tb_code y pc = some (.ldiv, n, t)) (ho : ¬ z = 0) (h : rn E d y K (pc + 1) L (.long (x / z) :: st) mi ml) : rn E d y K pc L (.long z :: .long x :: st) mi ml := am_wp_step (am_call_mono d) hc ⟨ho, h⟩
theorem r_lrem {x z : Int64} (hc : tb_code y pc = some (.lrem, n, t)) (ho : ¬ z = 0) (h : rn E d y K (pc + 1) L (.long (x - x / z * z) :: st) mi ml) : rn E d y K pc L (.long z :: .long x :: st) mi ml := am_wp_step (am_call_mono d) hc ⟨ho, h⟩
theorem r_lcmp {x z : Int64} (hc : tb_code y pc = some (.lcmp, n, t)) (h : rn E d y K (pc + 1) L (.int (lg_cmp x z) :: st) mi ml) : rn E d y K pc L (.long z :: .long x :: st) mi ml := am_wp_step (am_call_mono d) hc h
theorem r_lshl {x : Int64} {z : Int32} (hc : tb_code y pc = some (.lshl, n, t)) (h : rn E d y K (pc + 1) L (.long (x <<< (z.toInt64 &&& 63)) :: st) mi ml) : rn E d y K pc L (.int z :: .long x :: st) mi ml := am_wp_step (am_call_mono d) hc h
theorem r_i2l {x : Int32} (hc : tb_code y pc = some (.i2l, n, t)) (h : rn E d y K (pc + 1) L (.long (x.toInt64) :: st) mi ml) : rn E d y K pc L (.int x :: st) mi ml := am_wp_step (am_call_mono d) hc h
theorem r_i2b {x : Int32} (hc : tb_code y pc = some (.i2b, n, t)) (h : rn E d y K (pc + 1) L (.int (x.toInt8.toInt32) :: st) mi ml) : rn E d y K pc L (.int x :: st) mi ml := am_wp_step (am_call_mono d) hc h
theorem r_i2s {x : Int32} (hc : tb_code y pc = some (.i2s, n, t)) (h : rn E d y K (pc + 1) L (.int (x.toInt16.toInt32) :: st) mi ml) : rn E d y K pc L (.int x :: st) mi ml := am_wp_step (am_call_mono d) hc h
theorem r_i2c {x : Int32} (hc : tb_code y pc = some (.i2c, n, t)) (h : rn E d y K (pc + 1) L (.int ((x.toUInt32 % 65536).toInt32) :: st) mi ml) : rn E d y K pc L (.int x :: st) mi ml := am_wp_step (am_call_mono d) hc h
theorem r_l2i {x : Int64} (hc : tb_code y pc = some (.l2i, n, t)) (h : rn E d y K (pc + 1) L (.int (x.toInt32) :: st) mi ml) : rn E d y K pc L (.long x :: st) mi ml := am_wp_step (am_call_mono d) hc h
theorem r_dupI {x : Int32} (hc : tb_code y pc = some (.dup, n, t)) (h : rn E d y K (pc + 1) L (.int x :: .int x :: st) mi ml) : rn E d y K pc L (.int x :: st) mi ml := am_wp_step (am_call_mono d) hc h
theorem r_dupR {x : Nat} (hc : tb_code y pc = some (.dup, n, t)) (h : rn E d y K (pc + 1) L (.ref x :: .ref x :: st) mi ml) : rn E d y K pc L (.ref x :: st) mi ml := am_wp_step (am_call_mono d) hc h
theorem r_dup2R {x : Int32} {k : Nat} (hc : tb_code y pc = some (.dup2, n, t)) (h : rn E d y K (pc + 1) L (.int x :: .ref k :: .int x :: .ref k :: st) mi ml) : rn E d y K pc L (.int x :: .ref k :: st) mi ml := am_wp_step (am_call_mono d) hc h
theorem r_popI {x : Int32} (hc : tb_code y pc = some (.pop, n, t)) (h : rn E d y K (pc + 1) L st mi ml) : rn E d y K pc L (.int x :: st) mi ml := am_wp_step (am_call_mono d) hc h
theorem r_goto {o : Int} (hc : tb_code y pc = some (.goto o, n, t)) (h : rn E d y K t L st mi ml) : rn E d y K pc L st mi ml := am_wp_step (am_call_mono d) hc h
theorem r_if_eq {x : Int32} {o : Int} (hc : tb_code y pc = some (.ifCond .eq o, n, t)) (h : x = 0 → rn E d y K t L st mi ml) (g : ¬ (x = 0) → rn E d y K (pc + 3) L st mi ml) : rn E d y K pc L (.int x :: st) mi ml := am_wp_step (am_call_mono d) hc ⟨h, g⟩
theorem r_ic_eq {x z : Int32} {o : Int} (hc : tb_code y pc = some (.if_icmp .eq o, n, t)) (h : x = z → rn E d y K t L st mi ml) (g : ¬ (x = z) → rn E d y K (pc + 3) L st mi ml) : rn E d y K pc L (.int z :: .int x :: st) mi ml := am_wp_step (am_call_mono d) hc ⟨h, g⟩
theorem r_if_ne {x : Int32} {o : Int} (hc : tb_code y pc = some (.ifCond .ne o, n, t)) (h : ¬ x = 0 → rn E d y K t L st mi ml) (g : ¬ (¬ x = 0) → rn E d y K (pc + 3) L st mi ml) : rn E d y K pc L (.int x :: st) mi ml := am_wp_step (am_call_mono d) hc ⟨h, g⟩
theorem r_ic_ne {x z : Int32} {o : Int} (hc : tb_code y pc = some (.if_icmp .ne o, n, t)) (h : ¬ x = z → rn E d y K t L st mi ml) (g : ¬ (¬ x = z) → rn E d y K (pc + 3) L st mi ml) : rn E d y K pc L (.int z :: .int x :: st) mi ml := am_wp_step (am_call_mono d) hc ⟨h, g⟩
theorem r_if_lt {x : Int32} {o : Int} (hc : tb_code y pc = some (.ifCond .lt o, n, t)) (h : x < 0 → rn E d y K t L st mi ml) (g : ¬ (x < 0) → rn E d y K (pc + 3) L st mi ml) : rn E d y K pc L (.int x :: st) mi ml := am_wp_step (am_call_mono d) hc ⟨h, g⟩
theorem r_ic_lt {x z : Int32} {o : Int} (hc : tb_code y pc = some (.if_icmp .lt o, n, t)) (h : x < z → rn E d y K t L st mi ml) (g : ¬ (x < z) → rn E d y K (pc + 3) L st mi ml) : rn E d y K pc L (.int z :: .int x :: st) mi ml := am_wp_step (am_call_mono d) hc ⟨h, g⟩
theorem r_if_ge {x : Int32} {o : Int} (hc : tb_code y pc = some (.ifCond .ge o, n, t)) (h : 0 ≤ x → rn E d y K t L st mi ml) (g : ¬ (0 ≤ x) → rn E d y K (pc + 3) L st mi ml) : rn E d y K pc L (.int x :: st) mi ml := am_wp_step (am_call_mono d) hc ⟨h, g⟩
theorem r_ic_ge {x z : Int32} {o : Int} (hc : tb_code y pc = some (.if_icmp .ge o, n, t)) (h : z ≤ x → rn E d y K t L st mi ml) (g : ¬ (z ≤ x) → rn E d y K (pc + 3) L st mi ml) : rn E d y K pc L (.int z :: .int x :: st) mi ml := am_wp_step (am_call_mono d) hc ⟨h, g⟩
theorem r_if_gt {x : Int32} {o : Int} (hc : tb_code y pc = some (.ifCond .gt o, n, t)) (h : 0 < x → rn E d y K t L st mi ml) (g : ¬ (0 < x) → rn E d y K (pc + 3) L st mi ml) : rn E d y K pc L (.int x :: st) mi ml := am_wp_step (am_call_mono d) hc ⟨h, g⟩
theorem r_ic_gt {x z : Int32} {o : Int} (hc : tb_code y pc = some (.if_icmp .gt o, n, t)) (h : z < x → rn E d y K t L st mi ml) (g : ¬ (z < x) → rn E d y K (pc + 3) L st mi ml) : rn E d y K pc L (.int z :: .int x :: st) mi ml := am_wp_step (am_call_mono d) hc ⟨h, g⟩
theorem r_if_le {x : Int32} {o : Int} (hc : tb_code y pc = some (.ifCond .le o, n, t)) (h : x ≤ 0 → rn E d y K t L st mi ml) (g : ¬ (x ≤ 0) → rn E d y K (pc + 3) L st mi ml) : rn E d y K pc L (.int x :: st) mi ml := am_wp_step (am_call_mono d) hc ⟨h, g⟩
theorem r_ic_le {x z : Int32} {o : Int} (hc : tb_code y pc = some (.if_icmp .le o, n, t)) (h : x ≤ z → rn E d y K t L st mi ml) (g : ¬ (x ≤ z) → rn E d y K (pc + 3) L st mi ml) : rn E d y K pc L (.int z :: .int x :: st) mi ml := am_wp_step (am_call_mono d) hc ⟨h, g⟩
theorem r_tsw {x : Int32} {dd lo hi : Int} {o : Array Int} (hc : tb_code y pc = some (.tableswitch dd lo hi o, n, t)) (h : ∃ t' : Nat, am_tsw pc dd lo hi o x t' ∧ rn E d y K t' L st mi ml) : rn E d y K pc L (.int x :: st) mi ml := am_wp_step (am_call_mono d) hc h
theorem r_lsw {x : Int32} {dd : Int} {ps : Array (Int × Int)} (hc : tb_code y pc = some (.lookupswitch dd ps, n, t)) (h : ∃ t' : Nat, ((ps.toList.zip (ps.toList.drop 1)).all (fun (a, next) => a.1 < next.1) = true) ∧ (pc : Int) + Op.lookupswitch.offset ps.toList dd x.toInt = (t' : Int) ∧ rn E d y K t' L st mi ml) : rn E d y K pc L (.int x :: st) mi ml := am_wp_step (am_call_mono d) hc h
theorem r_ldcI {k : Nat} {v : Int32} (hc : tb_code y pc = some (.ldc k, n, t)) (hk : pCst PP (iOwn (pInf PP y)) k = some (.int v)) (h : rn E d y K (pc + 2) L (.int v :: st) mi ml) : rn E d y K pc L st mi ml := am_wp_step (am_call_mono d) hc (by unfold am_step; dsimp only; rw [hk]; exact h)
theorem r_ldcT {k v : Nat} (hc : tb_code y pc = some (.ldc k, n, t)) (hk : pCst PP (iOwn (pInf PP y)) k = some (.retAddr v)) (h : rn E d y K (pc + 2) L (.retAddr v :: st) mi ml) : rn E d y K pc L st mi ml := am_wp_step (am_call_mono d) hc (by unfold am_step; dsimp only; rw [hk]; exact h)
theorem r_ldcw {k : Nat} {v : Int32} (hc : tb_code y pc = some (.ldc_w k, n, t)) (hk : pCst PP (iOwn (pInf PP y)) k = some (.int v)) (h : rn E d y K (pc + 3) L (.int v :: st) mi ml) : rn E d y K pc L st mi ml := am_wp_step (am_call_mono d) hc (by unfold am_step; dsimp only; rw [hk]; exact h)
theorem r_ldc2 {k : Nat} {v : Int64} (hc : tb_code y pc = some (.ldc2_w k, n, t)) (hk : pCst PP (iOwn (pInf PP y)) k = some (.long v)) (h : rn E d y K (pc + 3) L (.long v :: st) mi ml) : rn E d y K pc L st mi ml := am_wp_step (am_call_mono d) hc (by unfold am_step; dsimp only; rw [hk]; exact h)
theorem r_gs1 {k : Nat} (hc : tb_code y pc = some (.getstatic k, n, t)) (hk : pCst PP (iOwn (pInf PP y)) k = some (.double 1)) (h : rn E d y K (pc + 3) L (.int 1 :: st) mi ml) : rn E d y K pc L st mi ml := am_wp_step (am_call_mono d) hc (by unfold am_step; dsimp only; rw [hk]; exact h)
theorem r_gs2 {k : Nat} (hc : tb_code y pc = some (.getstatic k, n, t)) (hk : pCst PP (iOwn (pInf PP y)) k = some (.double 2)) (h : rn E d y K (pc + 3) L (.retAddr 1 :: st) mi ml) : rn E d y K pc L st mi ml := am_wp_step (am_call_mono d) hc (by unfold am_step; dsimp only; rw [hk]; exact h)
theorem r_getI {k a ci j : Nat} (hc : tb_code y pc = some (.getfield k, n, t)) (hf : pFld PP (iOwn (pInf PP y)) k = some (ci, j)) (hk : am_kd (pTy PP ci j) = 0) (hs : S0.1[a]? = some (.inl ci)) (h : rn E d y K (pc + 3) L (.int (mi a j) :: st) mi ml) : rn E d y K pc L (.ref a :: st) mi ml := am_wp_step (am_call_mono d) hc (by unfold am_step; dsimp only; rw [hf]; refine ⟨hs, ?_⟩; dsimp only; rw [hk]; exact h)
theorem r_getL {k a ci j : Nat} (hc : tb_code y pc = some (.getfield k, n, t)) (hf : pFld PP (iOwn (pInf PP y)) k = some (ci, j)) (hk : am_kd (pTy PP ci j) = 1) (hs : S0.1[a]? = some (.inl ci)) (h : rn E d y K (pc + 3) L (.long (ml a j) :: st) mi ml) : rn E d y K pc L (.ref a :: st) mi ml := am_wp_step (am_call_mono d) hc (by unfold am_step; dsimp only; rw [hf]; refine ⟨hs, ?_⟩; dsimp only; rw [hk]; exact h)
theorem r_getR {k a ci j b : Nat} (hc : tb_code y pc = some (.getfield k, n, t)) (hf : pFld PP (iOwn (pInf PP y)) k = some (ci, j)) (hk : am_kd (pTy PP ci j) = 2) (hs : S0.1[a]? = some (.inl ci)) (hr : S0.2 a j = some b) (h : rn E d y K (pc + 3) L (.ref b :: st) mi ml) : rn E d y K pc L (.ref a :: st) mi ml := am_wp_step (am_call_mono d) hc (by unfold am_step; dsimp only; rw [hf]; refine ⟨hs, ?_⟩; dsimp only; rw [hk]; exact ⟨b, hr, h⟩)
theorem r_putI {k a ci j : Nat} {x : Int32} (hc : tb_code y pc = some (.putfield k, n, t)) (hf : pFld PP (iOwn (pInf PP y)) k = some (ci, j)) (hk : am_kd (pTy PP ci j) = 0) (hn : ((!(pFin PP ci j)) || (Nat.beq (iKnd (pInf PP y)) 2 && Nat.beq (iOwn (pInf PP y)) ci)) = true) (hs : S0.1[a]? = some (.inl ci)) (ho : am_fit (pTy PP ci j) x) (h : rn E d y K (pc + 3) L st (am_si mi a j x) ml) : rn E d y K pc L (.int x :: .ref a :: st) mi ml := am_wp_step (am_call_mono d) hc (by unfold am_step; dsimp only; rw [hf]; dsimp only; unfold am_put; dsimp only; rw [hn, hk]; exact ⟨hs, ho, h⟩)
theorem r_putL {k a ci j : Nat} {x : Int64} (hc : tb_code y pc = some (.putfield k, n, t)) (hf : pFld PP (iOwn (pInf PP y)) k = some (ci, j)) (hk : am_kd (pTy PP ci j) = 1) (hn : ((!(pFin PP ci j)) || (Nat.beq (iKnd (pInf PP y)) 2 && Nat.beq (iOwn (pInf PP y)) ci)) = true) (hs : S0.1[a]? = some (.inl ci)) (h : rn E d y K (pc + 3) L st mi (am_sj ml a j x)) : rn E d y K pc L (.long x :: .ref a :: st) mi ml := am_wp_step (am_call_mono d) hc (by unfold am_step; dsimp only; rw [hf]; dsimp only; unfold am_put; dsimp only; rw [hn, hk]; exact ⟨hs, h⟩)
theorem r_iald {i : Int32} {k N : Nat} (hc : tb_code y pc = some (.iaload, n, t)) (hs : S0.1[k]? = some (.inr (.int, N))) (hi : vp_in i N) (h : rn E d y K (pc + 1) L (.int (mi k i.toNatClampNeg) :: st) mi ml) : rn E d y K pc L (.int i :: .ref k :: st) mi ml := am_wp_step (am_call_mono d) hc ⟨N, hs, hi, h⟩
theorem r_ialdK {i : Int32} {k N j : Nat} (hc : tb_code y pc = some (.iaload, n, t)) (hs : S0.1[k]? = some (.inr (.int, N))) (hi : vp_in i N) (hj : i.toNatClampNeg = j) (h : rn E d y K (pc + 1) L (.int (mi k j) :: st) mi ml) : rn E d y K pc L (.int i :: .ref k :: st) mi ml := by subst hj; exact am_wp_step (am_call_mono d) hc ⟨N, hs, hi, h⟩
theorem r_laldK {i : Int32} {k N j : Nat} (hc : tb_code y pc = some (.laload, n, t)) (hs : S0.1[k]? = some (.inr (.long, N))) (hi : vp_in i N) (hj : i.toNatClampNeg = j) (h : rn E d y K (pc + 1) L (.long (ml k j) :: st) mi ml) : rn E d y K pc L (.int i :: .ref k :: st) mi ml := by subst hj; exact am_wp_step (am_call_mono d) hc ⟨N, hs, hi, h⟩
theorem r_iastK {x i : Int32} {k N j : Nat} (hc : tb_code y pc = some (.iastore, n, t)) (hs : S0.1[k]? = some (.inr (.int, N))) (hi : vp_in i N) (hj : i.toNatClampNeg = j) (h : rn E d y K (pc + 1) L st (am_si mi k j x) ml) : rn E d y K pc L (.int x :: .int i :: .ref k :: st) mi ml := by subst hj; exact am_wp_step (am_call_mono d) hc ⟨N, hs, hi, h⟩
theorem r_ialdS {i : Int32} (hc : tb_code y pc = some (.iaload, n, t)) (hi : vp_in i E.1.1) (h : rn E d y K (pc + 1) L (.int (E.1.2 i.toNatClampNeg) :: st) mi ml) : rn E d y K pc L (.int i :: .retAddr 0 :: st) mi ml := am_wp_step (am_call_mono d) hc ⟨hi, h⟩
theorem r_lald {i : Int32} {k N : Nat} (hc : tb_code y pc = some (.laload, n, t)) (hs : S0.1[k]? = some (.inr (.long, N))) (hi : vp_in i N) (h : rn E d y K (pc + 1) L (.long (ml k i.toNatClampNeg) :: st) mi ml) : rn E d y K pc L (.int i :: .ref k :: st) mi ml := am_wp_step (am_call_mono d) hc ⟨N, hs, hi, h⟩
theorem r_bald {i : Int32} {k N : Nat} {ty : FieldType} (hc : tb_code y pc = some (.baload, n, t)) (hs : S0.1[k]? = some (.inr (ty, N))) (hy : ty = .byte ∨ ty = .boolean) (hi : vp_in i N) (h : rn E d y K (pc + 1) L (.int (mi k i.toNatClampNeg) :: st) mi ml) : rn E d y K pc L (.int i :: .ref k :: st) mi ml := am_wp_step (am_call_mono d) hc ⟨N, ty, hy, hs, hi, h⟩
theorem r_baldT {i : Int32} {j : Nat} (hc : tb_code y pc = some (.baload, n, t)) (hj : j < E.2.1) (hi : vp_in i (E.2.2.1 j)) (h : rn E d y K (pc + 1) L (.int (E.2.2.2 j i.toNatClampNeg) :: st) mi ml) : rn E d y K pc L (.int i :: .retAddr (2 * j + 3) :: st) mi ml := am_wp_step (am_call_mono d) hc ⟨j, rfl, hj, hi, h⟩
theorem r_aald {i : Int32} {k N a : Nat} {ty : FieldType} (hc : tb_code y pc = some (.aaload, n, t)) (hs : S0.1[k]? = some (.inr (ty, N))) (hy : am_kd ty = 2) (hi : vp_in i N) (ha : S0.2 k i.toNatClampNeg = some a) (h : rn E d y K (pc + 1) L (.ref a :: st) mi ml) : rn E d y K pc L (.int i :: .ref k :: st) mi ml := am_wp_step (am_call_mono d) hc ⟨N, ty, a, hy, hs, hi, ha, h⟩
theorem r_iast {x i : Int32} {k N : Nat} (hc : tb_code y pc = some (.iastore, n, t)) (hs : S0.1[k]? = some (.inr (.int, N))) (hi : vp_in i N) (h : rn E d y K (pc + 1) L st (am_si mi k i.toNatClampNeg x) ml) : rn E d y K pc L (.int x :: .int i :: .ref k :: st) mi ml := am_wp_step (am_call_mono d) hc ⟨N, hs, hi, h⟩
theorem r_last {x : Int64} {i : Int32} {k N : Nat} (hc : tb_code y pc = some (.lastore, n, t)) (hs : S0.1[k]? = some (.inr (.long, N))) (hi : vp_in i N) (h : rn E d y K (pc + 1) L st mi (am_sj ml k i.toNatClampNeg x)) : rn E d y K pc L (.long x :: .int i :: .ref k :: st) mi ml := am_wp_step (am_call_mono d) hc ⟨N, hs, hi, h⟩
theorem r_bast {x i : Int32} {k N : Nat} {ty : FieldType} (hc : tb_code y pc = some (.bastore, n, t)) (hs : S0.1[k]? = some (.inr (ty, N))) (hy : ty = .byte ∨ ty = .boolean) (hi : vp_in i N) (h : rn E d y K (pc + 1) L st (am_si mi k i.toNatClampNeg (vp_nar ty x)) ml) : rn E d y K pc L (.int x :: .int i :: .ref k :: st) mi ml := am_wp_step (am_call_mono d) hc ⟨N, ty, hy, hs, hi, h⟩
theorem r_alenS (hc : tb_code y pc = some (.arraylength, n, t)) (h : rn E d y K (pc + 1) L (.int (Int32.ofNat E.1.1) :: st) mi ml) : rn E d y K pc L (.retAddr 0 :: st) mi ml := am_wp_step (am_call_mono d) hc (Or.inl ⟨rfl, h⟩)
theorem r_alenT {j : Nat} (hc : tb_code y pc = some (.arraylength, n, t)) (hj : j < E.2.1) (h : rn E d y K (pc + 1) L (.int (Int32.ofNat (E.2.2.1 j)) :: st) mi ml) : rn E d y K pc L (.retAddr (2 * j + 3) :: st) mi ml := am_wp_step (am_call_mono d) hc (Or.inr ⟨j, rfl, hj, h⟩)
theorem r_sco {k j : Nat} (hc : tb_code y pc = some (.getfield k, n, t)) (hf : pFld PP (iOwn (pInf PP y)) k = none) (hk : pCst PP (iOwn (pInf PP y)) k = some (.float 1)) (hj : j < E.2.1) (h : rn E d y K (pc + 3) L (.int 0 :: st) mi ml) : rn E d y K pc L (.retAddr (2 * j + 2) :: st) mi ml := am_wp_step (am_call_mono d) hc (by unfold am_step; dsimp only; rw [hf, hk]; exact ⟨j, rfl, hj, h⟩)
theorem r_sva {k j : Nat} (hc : tb_code y pc = some (.getfield k, n, t)) (hf : pFld PP (iOwn (pInf PP y)) k = none) (hk : pCst PP (iOwn (pInf PP y)) k = some (.float 2)) (hj : j < E.2.1) (h : rn E d y K (pc + 3) L (.retAddr (2 * j + 3) :: st) mi ml) : rn E d y K pc L (.retAddr (2 * j + 2) :: st) mi ml := am_wp_step (am_call_mono d) hc (by unfold am_step; dsimp only; rw [hf, hk]; exact ⟨j, rfl, hj, h⟩)
theorem r_cpyI {v dp sp : Int32} {dd ss k n0 n1 : Nat} (hc : tb_code y pc = some (.invokestatic k, n, t)) (hm : pMth PP (iOwn (pInf PP y)) k = some 1) (hb : Nat.ble (st.map (fun v => v.category)).sum 8 = true) (h0 : S0.1[ss]? = some (.inr (.int, n0))) (h1 : S0.1[dd]? = some (.inr (.int, n1))) (ho : (¬ sp < 0 ∧ ¬ dp < 0 ∧ ¬ v < 0) ∧ sp.toNatClampNeg + v.toNatClampNeg ≤ n0 ∧ dp.toNatClampNeg + v.toNatClampNeg ≤ n1) (h : rn E d y K (pc + 3) L st (am_sc mi dd (va_cpy (mi ss) (mi dd) sp.toNatClampNeg dp.toNatClampNeg v.toNatClampNeg)) ml) : rn E d y K pc L (.int v :: .int dp :: .ref dd :: .int sp :: .ref ss :: st) mi ml := am_wp_step (am_call_mono d) hc (by unfold am_step; dsimp only; rw [hm]; show am_cpy _ _ _ _ _; unfold am_cpy; dsimp only; rw [hb]; exact ⟨ho.1.1, ho.1.2.1, ho.1.2.2, Or.inl ⟨n0, n1, h0, h1, ho.2.1, ho.2.2, h⟩⟩)
theorem r_cpyL {v dp sp : Int32} {dd ss k n0 n1 : Nat} (hc : tb_code y pc = some (.invokestatic k, n, t)) (hm : pMth PP (iOwn (pInf PP y)) k = some 1) (hb : Nat.ble (st.map (fun v => v.category)).sum 8 = true) (h0 : S0.1[ss]? = some (.inr (.long, n0))) (h1 : S0.1[dd]? = some (.inr (.long, n1))) (ho : (¬ sp < 0 ∧ ¬ dp < 0 ∧ ¬ v < 0) ∧ sp.toNatClampNeg + v.toNatClampNeg ≤ n0 ∧ dp.toNatClampNeg + v.toNatClampNeg ≤ n1) (h : rn E d y K (pc + 3) L st mi (am_sc ml dd (va_cpy (ml ss) (ml dd) sp.toNatClampNeg dp.toNatClampNeg v.toNatClampNeg))) : rn E d y K pc L (.int v :: .int dp :: .ref dd :: .int sp :: .ref ss :: st) mi ml := am_wp_step (am_call_mono d) hc (by unfold am_step; dsimp only; rw [hm]; show am_cpy _ _ _ _ _; unfold am_cpy; dsimp only; rw [hb]; exact ⟨ho.1.1, ho.1.2.1, ho.1.2.2, Or.inr ⟨n0, n1, h0, h1, ho.2.1, ho.2.2, h⟩⟩)
theorem r_max {x z : Int32} {k : Nat} (hc : tb_code y pc = some (.invokestatic k, n, t)) (hm : pMth PP (iOwn (pInf PP y)) k = some 2) (hb : Nat.ble (st.map (fun v => v.category)).sum 8 = true) (h : rn E d y K (pc + 3) L (.int (if x < z then z else x) :: st) mi ml) : rn E d y K pc L (.int z :: .int x :: st) mi ml := am_wp_step (am_call_mono d) hc (by unfold am_step; dsimp only; rw [hm]; show am_mm _ _ _ _ _ _; unfold am_mm; dsimp only; rw [hb]; exact h)
theorem r_min {x z : Int32} {k : Nat} (hc : tb_code y pc = some (.invokestatic k, n, t)) (hm : pMth PP (iOwn (pInf PP y)) k = some 3) (hb : Nat.ble (st.map (fun v => v.category)).sum 8 = true) (h : rn E d y K (pc + 3) L (.int (if z < x then z else x) :: st) mi ml) : rn E d y K pc L (.int z :: .int x :: st) mi ml := am_wp_step (am_call_mono d) hc (by unfold am_step; dsimp only; rw [hm]; show am_mm _ _ _ _ _ _; unfold am_mm; dsimp only; rw [hb]; exact h)
/-- a call: y' by number, its arguments in order, what is left of the stack -/
theorem r_inv {y' kn : Nat} {as rest : List Value} (ha : st = as.reverse ++ rest) (hl : as.length = iArg (pInf PP y')) (hb : Nat.ble (rest.map (fun v => v.category)).sum 8 = true) (hk : kn = iKnd (pInf PP y')) (hz : iCel (pInf PP y') = 0 ∧ iSlt (pInf PP y') = 0) (hr : am_rcv PP E y' as (S0, mi, ml)) (h : cq E d y' as (kc E d y K (pc + 3) L rest) mi ml) : am_inv PP E (am_l0 y) (am_call PP E d) (am_wp PP E y (am_l0 y) (am_call PP E d) (am_k0 y K)) y' kn pc L st (S0, mi, ml) := by
  subst ha
  have e1 : (as.reverse ++ rest).take (iArg (pInf PP y')) = as.reverse := by rw [← hl, ← List.length_reverse, List.take_left']; rfl
  have e2 : (as.reverse ++ rest).drop (iArg (pInf PP y')) = rest := by rw [← hl, ← List.length_reverse, List.drop_left']; rfl
  unfold am_inv
  rw [e1, e2, hb, List.reverse_reverse, show Nat.ble (iArg (pInf PP y')) (as.reverse ++ rest).length = true from Nat.ble_eq_true_of_le (by rw [← hl]; simp), show Nat.beq kn (iKnd (pInf PP y')) = true from by rw [hk]; exact Nat.beq_refl _]
  refine ⟨hr, ?_, h⟩
  rw [hz.1, hz.2]
  trivial
theorem r_callV {y' k : Nat} {as rest : List Value} (hc : tb_code y pc = some (.invokevirtual k, n, t)) (hm : pMth PP (iOwn (pInf PP y)) k = some y') (ha : st = as.reverse ++ rest) (hl : as.length = iArg (pInf PP y')) (hb : Nat.ble (rest.map (fun v => v.category)).sum 8 = true) (hk : 1 = iKnd (pInf PP y')) (hz : iCel (pInf PP y') = 0 ∧ iSlt (pInf PP y') = 0) (hr : am_rcv PP E y' as (S0, mi, ml)) (h : cq E d y' as (kc E d y K (pc + 3) L rest) mi ml) : rn E d y K pc L st mi ml :=
  am_wp_step (am_call_mono d) hc (by unfold am_step; dsimp only; rw [hm]; exact r_inv ha hl hb hk hz hr h)
theorem r_callS {y' k : Nat} {as rest : List Value} (hc : tb_code y pc = some (.invokestatic k, n, t)) (hm : pMth PP (iOwn (pInf PP y)) k = some (y' + 4)) (ha : st = as.reverse ++ rest) (hl : as.length = iArg (pInf PP (y' + 4))) (hb : Nat.ble (rest.map (fun v => v.category)).sum 8 = true) (hk : 0 = iKnd (pInf PP (y' + 4))) (hz : iCel (pInf PP (y' + 4)) = 0 ∧ iSlt (pInf PP (y' + 4)) = 0) (hr : am_rcv PP E (y' + 4) as (S0, mi, ml)) (h : cq E d (y' + 4) as (kc E d y K (pc + 3) L rest) mi ml) : rn E d y K pc L st mi ml :=
  am_wp_step (am_call_mono d) hc (by unfold am_step; dsimp only; rw [hm]; exact r_inv ha hl hb hk hz hr h)
/-- into a method -/
theorem r_ent {as L' : List Value} (h1 : Nat.ble (am_sl as).length (iMax (pInf PP y)) = true) (h2 : as.length = iArg (pInf PP y)) (h3 : as.all am_isv = true) (hl : am_ent (iMax (pInf PP y)) as = L') (h : rn E d y K 0 L' [] mi ml) : cq E (d + 1) y as K mi ml := by
  subst hl
  exact ⟨Nat.le_of_ble_eq_true h1, h2, h3, h⟩
theorem r_k0 {r : Option Value} (hz : iCel (pInf PP y) = 0 ∧ iSlt (pInf PP y) = 0) (h : K r (S0, mi, ml)) : am_k0 y K r (S0, mi, ml) := by
  refine ⟨?_, ?_, h⟩
  · show S0.1.length = S0.1.length + _
    rw [hz.1, Nat.add_zero]
  · show (S0.1.map (am_szq PP)).sum = (S0.1.map (am_szq PP)).sum + _
    rw [hz.2, Nat.add_zero]
theorem r_ret {x : Int32} {ty : FieldType} (hc : tb_code y pc = some (.ireturn, n, t)) (hr : iRet (pInf PP y) = some ty) (hz : iCel (pInf PP y) = 0 ∧ iSlt (pInf PP y) = 0) (ho : am_fit ty x) (h : K (some (.int x)) (S0, mi, ml)) : rn E d y K pc L [.int x] mi ml := am_wp_step (am_call_mono d) hc (by unfold am_step; dsimp only; rw [hr]; exact ⟨ho, r_k0 hz h⟩)
theorem r_lret {x : Int64} (hc : tb_code y pc = some (.lreturn, n, t)) (hr : iRet (pInf PP y) = some .long) (hz : iCel (pInf PP y) = 0 ∧ iSlt (pInf PP y) = 0) (h : K (some (.long x)) (S0, mi, ml)) : rn E d y K pc L [.long x] mi ml := am_wp_step (am_call_mono d) hc (by unfold am_step; dsimp only; rw [hr]; exact r_k0 hz h)
theorem r_vret (hc : tb_code y pc = some (.return_, n, t)) (hr : iRet (pInf PP y) = none) (hz : iCel (pInf PP y) = 0 ∧ iSlt (pInf PP y) = 0) (h : K none (S0, mi, ml)) : rn E d y K pc L [] mi ml := am_wp_step (am_call_mono d) hc (by unfold am_step; dsimp only; rw [hr]; exact r_k0 hz h)
end
theorem tsd {x : Int32} (lo n : Nat) (h : ∀ k, k < n → ¬ x = nI (lo + k)) (hn : lo + n < 2 ^ 31) : x.toInt < (lo : Int) ∨ ((lo + n : Nat) : Int) - 1 < x.toInt := by
  by_cases h1 : x.toInt < (lo : Int)
  · exact Or.inl h1
  · refine Or.inr ?_
    by_cases h2 : ((lo + n : Nat) : Int) - 1 < x.toInt
    · exact h2
    · exfalso
      have h3 : ¬ x < 0 := fun q => by
        have := Int32.lt_iff_toInt_lt.mp q
        simp at this
        omega
      obtain ⟨j, hj, rfl⟩ := nI_of h3
      rw [nI_toInt hj] at h1 h2
      exact h (j - lo) (by omega) (by rw [show lo + (j - lo) = j by omega])
theorem tswI {pc t : Nat} {dd lo hi off : Int} {o : Array Int} {x : Int32} (c : Int32) (hx : x = c) (h1 : ¬ c.toInt < lo) (h2 : ¬ hi < c.toInt) (ho : o[(c.toInt - lo).toNat]? = some off) (ht : (pc : Int) + off = (t : Int)) : am_tsw pc dd lo hi o x t := by
  subst hx
  exact Or.inr ⟨h1, h2, off, ho, ht⟩
theorem kc_m8 : Int32.ofInt (-8) = (-8) := by decide
theorem kc_m1 : Int32.ofInt (-1) = (-1) := by decide
theorem kc_0 : Int32.ofInt 0 = 0 := by decide
theorem kc_1 : Int32.ofInt 1 = 1 := by decide
theorem kc_2 : Int32.ofInt 2 = 2 := by decide
theorem kc_3 : Int32.ofInt 3 = 3 := by decide
theorem kc_4 : Int32.ofInt 4 = 4 := by decide
theorem kc_5 : Int32.ofInt 5 = 5 := by decide
theorem kc_6 : Int32.ofInt 6 = 6 := by decide
theorem kb_6 : (Int8.ofInt 6).toInt32 = 6 := by decide
theorem kb_7 : (Int8.ofInt 7).toInt32 = 7 := by decide
theorem kb_8 : (Int8.ofInt 8).toInt32 = 8 := by decide
theorem kb_9 : (Int8.ofInt 9).toInt32 = 9 := by decide
theorem kb_10 : (Int8.ofInt 10).toInt32 = 10 := by decide
theorem kb_11 : (Int8.ofInt 11).toInt32 = 11 := by decide
theorem kb_12 : (Int8.ofInt 12).toInt32 = 12 := by decide
theorem kb_13 : (Int8.ofInt 13).toInt32 = 13 := by decide
theorem kb_14 : (Int8.ofInt 14).toInt32 = 14 := by decide
theorem kb_16 : (Int8.ofInt 16).toInt32 = 16 := by decide
theorem kb_17 : (Int8.ofInt 17).toInt32 = 17 := by decide
theorem kb_18 : (Int8.ofInt 18).toInt32 = 18 := by decide
theorem kb_19 : (Int8.ofInt 19).toInt32 = 19 := by decide
theorem kb_20 : (Int8.ofInt 20).toInt32 = 20 := by decide
theorem kb_21 : (Int8.ofInt 21).toInt32 = 21 := by decide
theorem kb_22 : (Int8.ofInt 22).toInt32 = 22 := by decide
theorem kb_24 : (Int8.ofInt 24).toInt32 = 24 := by decide
theorem kb_30 : (Int8.ofInt 30).toInt32 = 30 := by decide
theorem kb_32 : (Int8.ofInt 32).toInt32 = 32 := by decide
theorem kb_48 : (Int8.ofInt 48).toInt32 = 48 := by decide
theorem kb_56 : (Int8.ofInt 56).toInt32 = 56 := by decide
theorem kb_57 : (Int8.ofInt 57).toInt32 = 57 := by decide
theorem kb_59 : (Int8.ofInt 59).toInt32 = 59 := by decide
theorem kb_60 : (Int8.ofInt 60).toInt32 = 60 := by decide
theorem kb_61 : (Int8.ofInt 61).toInt32 = 61 := by decide
theorem kb_62 : (Int8.ofInt 62).toInt32 = 62 := by decide
theorem kb_63 : (Int8.ofInt 63).toInt32 = 63 := by decide
theorem kb_64 : (Int8.ofInt 64).toInt32 = 64 := by decide
theorem kb_80 : (Int8.ofInt 80).toInt32 = 80 := by decide
theorem kb_84 : (Int8.ofInt 84).toInt32 = 84 := by decide
theorem kb_97 : (Int8.ofInt 97).toInt32 = 97 := by decide
theorem kb_99 : (Int8.ofInt 99).toInt32 = 99 := by decide
theorem kb_122 : (Int8.ofInt 122).toInt32 = 122 := by decide
theorem ks_200 : (Int16.ofInt 200).toInt32 = 200 := by decide
theorem ks_240 : (Int16.ofInt 240).toInt32 = 240 := by decide
theorem ks_255 : (Int16.ofInt 255).toInt32 = 255 := by decide
theorem ks_300 : (Int16.ofInt 300).toInt32 = 300 := by decide
theorem ks_408 : (Int16.ofInt 408).toInt32 = 408 := by decide
theorem ks_416 : (Int16.ofInt 416).toInt32 = 416 := by decide
theorem ks_900 : (Int16.ofInt 900).toInt32 = 900 := by decide
theorem ks_1664 : (Int16.ofInt 1664).toInt32 = 1664 := by decide
theorem ks_1665 : (Int16.ofInt 1665).toInt32 = 1665 := by decide
theorem ks_1666 : (Int16.ofInt 1666).toInt32 = 1666 := by decide
theorem ks_1667 : (Int16.ofInt 1667).toInt32 = 1667 := by decide
theorem ks_1668 : (Int16.ofInt 1668).toInt32 = 1668 := by decide
theorem ks_1670 : (Int16.ofInt 1670).toInt32 = 1670 := by decide
theorem ks_1671 : (Int16.ofInt 1671).toInt32 = 1671 := by decide
theorem ks_1672 : (Int16.ofInt 1672).toInt32 = 1672 := by decide
theorem ks_1674 : (Int16.ofInt 1674).toInt32 = 1674 := by decide
theorem ks_1700 : (Int16.ofInt 1700).toInt32 = 1700 := by decide
theorem ks_1712 : (Int16.ofInt 1712).toInt32 = 1712 := by decide
theorem ks_2072 : (Int16.ofInt 2072).toInt32 = 2072 := by decide
theorem ks_2080 : (Int16.ofInt 2080).toInt32 = 2080 := by decide
theorem ks_2496 : (Int16.ofInt 2496).toInt32 = 2496 := by decide
theorem ks_2592 : (Int16.ofInt 2592).toInt32 = 2592 := by decide
theorem ks_3167 : (Int16.ofInt 3167).toInt32 = 3167 := by decide
theorem ks_9999 : (Int16.ofInt 9999).toInt32 = 9999 := by decide
theorem ks_11383 : (Int16.ofInt 11383).toInt32 = 11383 := by decide
theorem kl_0 : Int64.ofNat ((0 : Fin 2) : Nat) = 0 := rfl
theorem kl_1 : Int64.ofNat ((1 : Fin 2) : Nat) = 1 := rfl
theorem kn_0 : (0 : Int32).toNatClampNeg = 0 := by decide
theorem kn_1 : (1 : Int32).toNatClampNeg = 1 := by decide
theorem kn_2 : (2 : Int32).toNatClampNeg = 2 := by decide
theorem kn_3 : (3 : Int32).toNatClampNeg = 3 := by decide
theorem kn_4 : (4 : Int32).toNatClampNeg = 4 := by decide
theorem kn_5 : (5 : Int32).toNatClampNeg = 5 := by decide
theorem kn_6 : (6 : Int32).toNatClampNeg = 6 := by decide
theorem kn_7 : (7 : Int32).toNatClampNeg = 7 := by decide
theorem kn_8 : (8 : Int32).toNatClampNeg = 8 := by decide
theorem kn_9 : (9 : Int32).toNatClampNeg = 9 := by decide
theorem kn_10 : (10 : Int32).toNatClampNeg = 10 := by decide
theorem kn_11 : (11 : Int32).toNatClampNeg = 11 := by decide
theorem kn_12 : (12 : Int32).toNatClampNeg = 12 := by decide
theorem kn_13 : (13 : Int32).toNatClampNeg = 13 := by decide
theorem kn_14 : (14 : Int32).toNatClampNeg = 14 := by decide
theorem kn_16 : (16 : Int32).toNatClampNeg = 16 := by decide
theorem kn_17 : (17 : Int32).toNatClampNeg = 17 := by decide
theorem kn_18 : (18 : Int32).toNatClampNeg = 18 := by decide
theorem kn_19 : (19 : Int32).toNatClampNeg = 19 := by decide
theorem kn_20 : (20 : Int32).toNatClampNeg = 20 := by decide
theorem kn_21 : (21 : Int32).toNatClampNeg = 21 := by decide
theorem kn_22 : (22 : Int32).toNatClampNeg = 22 := by decide
theorem kn_24 : (24 : Int32).toNatClampNeg = 24 := by decide
theorem kn_30 : (30 : Int32).toNatClampNeg = 30 := by decide
theorem kn_32 : (32 : Int32).toNatClampNeg = 32 := by decide
theorem kn_48 : (48 : Int32).toNatClampNeg = 48 := by decide
theorem kn_56 : (56 : Int32).toNatClampNeg = 56 := by decide
theorem kn_57 : (57 : Int32).toNatClampNeg = 57 := by decide
theorem kn_59 : (59 : Int32).toNatClampNeg = 59 := by decide
theorem kn_60 : (60 : Int32).toNatClampNeg = 60 := by decide
theorem kn_61 : (61 : Int32).toNatClampNeg = 61 := by decide
theorem kn_62 : (62 : Int32).toNatClampNeg = 62 := by decide
theorem kn_63 : (63 : Int32).toNatClampNeg = 63 := by decide
theorem kn_64 : (64 : Int32).toNatClampNeg = 64 := by decide
theorem kn_80 : (80 : Int32).toNatClampNeg = 80 := by decide
theorem kn_84 : (84 : Int32).toNatClampNeg = 84 := by decide
theorem kn_97 : (97 : Int32).toNatClampNeg = 97 := by decide
theorem kn_99 : (99 : Int32).toNatClampNeg = 99 := by decide
theorem kn_122 : (122 : Int32).toNatClampNeg = 122 := by decide
theorem kn_200 : (200 : Int32).toNatClampNeg = 200 := by decide
theorem kn_240 : (240 : Int32).toNatClampNeg = 240 := by decide
theorem kn_255 : (255 : Int32).toNatClampNeg = 255 := by decide
theorem kn_300 : (300 : Int32).toNatClampNeg = 300 := by decide
theorem kn_408 : (408 : Int32).toNatClampNeg = 408 := by decide
theorem kn_416 : (416 : Int32).toNatClampNeg = 416 := by decide
theorem kn_900 : (900 : Int32).toNatClampNeg = 900 := by decide
theorem kn_1664 : (1664 : Int32).toNatClampNeg = 1664 := by decide
theorem kn_1665 : (1665 : Int32).toNatClampNeg = 1665 := by decide
theorem kn_1666 : (1666 : Int32).toNatClampNeg = 1666 := by decide
theorem kn_1667 : (1667 : Int32).toNatClampNeg = 1667 := by decide
theorem kn_1668 : (1668 : Int32).toNatClampNeg = 1668 := by decide
theorem kn_1670 : (1670 : Int32).toNatClampNeg = 1670 := by decide
theorem kn_1671 : (1671 : Int32).toNatClampNeg = 1671 := by decide
theorem kn_1672 : (1672 : Int32).toNatClampNeg = 1672 := by decide
theorem kn_1674 : (1674 : Int32).toNatClampNeg = 1674 := by decide
theorem kn_1700 : (1700 : Int32).toNatClampNeg = 1700 := by decide
theorem kn_1712 : (1712 : Int32).toNatClampNeg = 1712 := by decide
theorem kn_2072 : (2072 : Int32).toNatClampNeg = 2072 := by decide
theorem kn_2080 : (2080 : Int32).toNatClampNeg = 2080 := by decide
theorem kn_2496 : (2496 : Int32).toNatClampNeg = 2496 := by decide
theorem kn_2592 : (2592 : Int32).toNatClampNeg = 2592 := by decide
theorem kn_3167 : (3167 : Int32).toNatClampNeg = 3167 := by decide
theorem kn_9999 : (9999 : Int32).toNatClampNeg = 9999 := by decide
theorem kn_11383 : (11383 : Int32).toNatClampNeg = 11383 := by decide
theorem f_4 {pc : Nat} {e : Instr × Nat × Nat} (h : am_fetch cd_4 pc = some e) : tb_code 4 pc = some e := h
theorem f_5 {pc : Nat} {e : Instr × Nat × Nat} (h : am_fetch cd_5 pc = some e) : tb_code 5 pc = some e := h
theorem f_6 {pc : Nat} {e : Instr × Nat × Nat} (h : am_fetch cd_6 pc = some e) : tb_code 6 pc = some e := h
theorem f_7 {pc : Nat} {e : Instr × Nat × Nat} (h : am_fetch cd_7 pc = some e) : tb_code 7 pc = some e := h
theorem f_8 {pc : Nat} {e : Instr × Nat × Nat} (h : am_fetch cd_8 pc = some e) : tb_code 8 pc = some e := h
theorem f_9 {pc : Nat} {e : Instr × Nat × Nat} (h : am_fetch cd_9 pc = some e) : tb_code 9 pc = some e := h
theorem f_10 {pc : Nat} {e : Instr × Nat × Nat} (h : am_fetch cd_10 pc = some e) : tb_code 10 pc = some e := h
theorem f_11 {pc : Nat} {e : Instr × Nat × Nat} (h : am_fetch cd_11 pc = some e) : tb_code 11 pc = some e := h
theorem f_12 {pc : Nat} {e : Instr × Nat × Nat} (h : am_fetch cd_12 pc = some e) : tb_code 12 pc = some e := h
theorem f_13 {pc : Nat} {e : Instr × Nat × Nat} (h : am_fetch cd_13 pc = some e) : tb_code 13 pc = some e := h
theorem f_14 {pc : Nat} {e : Instr × Nat × Nat} (h : am_fetch cd_14 pc = some e) : tb_code 14 pc = some e := h
theorem f_15 {pc : Nat} {e : Instr × Nat × Nat} (h : am_fetch cd_15 pc = some e) : tb_code 15 pc = some e := h
theorem f_16 {pc : Nat} {e : Instr × Nat × Nat} (h : am_fetch cd_16 pc = some e) : tb_code 16 pc = some e := h
theorem f_17 {pc : Nat} {e : Instr × Nat × Nat} (h : am_fetch cd_17 pc = some e) : tb_code 17 pc = some e := h
theorem f_18 {pc : Nat} {e : Instr × Nat × Nat} (h : am_fetch cd_18 pc = some e) : tb_code 18 pc = some e := h
theorem f_19 {pc : Nat} {e : Instr × Nat × Nat} (h : am_fetch cd_19 pc = some e) : tb_code 19 pc = some e := h
theorem f_20 {pc : Nat} {e : Instr × Nat × Nat} (h : am_fetch cd_20 pc = some e) : tb_code 20 pc = some e := h
theorem f_21 {pc : Nat} {e : Instr × Nat × Nat} (h : am_fetch cd_21 pc = some e) : tb_code 21 pc = some e := h
theorem f_22 {pc : Nat} {e : Instr × Nat × Nat} (h : am_fetch cd_22 pc = some e) : tb_code 22 pc = some e := h
theorem f_23 {pc : Nat} {e : Instr × Nat × Nat} (h : am_fetch cd_23 pc = some e) : tb_code 23 pc = some e := h
theorem f_24 {pc : Nat} {e : Instr × Nat × Nat} (h : am_fetch cd_24 pc = some e) : tb_code 24 pc = some e := h
theorem f_25 {pc : Nat} {e : Instr × Nat × Nat} (h : am_fetch cd_25 pc = some e) : tb_code 25 pc = some e := h
theorem f_26 {pc : Nat} {e : Instr × Nat × Nat} (h : am_fetch cd_26 pc = some e) : tb_code 26 pc = some e := h
theorem f_27 {pc : Nat} {e : Instr × Nat × Nat} (h : am_fetch cd_27 pc = some e) : tb_code 27 pc = some e := h
theorem f_28 {pc : Nat} {e : Instr × Nat × Nat} (h : am_fetch cd_28 pc = some e) : tb_code 28 pc = some e := h
theorem f_29 {pc : Nat} {e : Instr × Nat × Nat} (h : am_fetch cd_29 pc = some e) : tb_code 29 pc = some e := h
theorem f_30 {pc : Nat} {e : Instr × Nat × Nat} (h : am_fetch cd_30 pc = some e) : tb_code 30 pc = some e := h
theorem f_31 {pc : Nat} {e : Instr × Nat × Nat} (h : am_fetch cd_31 pc = some e) : tb_code 31 pc = some e := h
theorem f_32 {pc : Nat} {e : Instr × Nat × Nat} (h : am_fetch cd_32 pc = some e) : tb_code 32 pc = some e := h
theorem f_33 {pc : Nat} {e : Instr × Nat × Nat} (h : am_fetch cd_33 pc = some e) : tb_code 33 pc = some e := h
theorem f_34 {pc : Nat} {e : Instr × Nat × Nat} (h : am_fetch cd_34 pc = some e) : tb_code 34 pc = some e := h
theorem f_35 {pc : Nat} {e : Instr × Nat × Nat} (h : am_fetch cd_35 pc = some e) : tb_code 35 pc = some e := h
theorem f_36 {pc : Nat} {e : Instr × Nat × Nat} (h : am_fetch cd_36 pc = some e) : tb_code 36 pc = some e := h
theorem f_37 {pc : Nat} {e : Instr × Nat × Nat} (h : am_fetch cd_37 pc = some e) : tb_code 37 pc = some e := h
theorem f_38 {pc : Nat} {e : Instr × Nat × Nat} (h : am_fetch cd_38 pc = some e) : tb_code 38 pc = some e := h
theorem f_39 {pc : Nat} {e : Instr × Nat × Nat} (h : am_fetch cd_39 pc = some e) : tb_code 39 pc = some e := h
theorem f_40 {pc : Nat} {e : Instr × Nat × Nat} (h : am_fetch cd_40 pc = some e) : tb_code 40 pc = some e := h
theorem f_41 {pc : Nat} {e : Instr × Nat × Nat} (h : am_fetch cd_41 pc = some e) : tb_code 41 pc = some e := h
theorem f_42 {pc : Nat} {e : Instr × Nat × Nat} (h : am_fetch cd_42 pc = some e) : tb_code 42 pc = some e := h
theorem f_43 {pc : Nat} {e : Instr × Nat × Nat} (h : am_fetch cd_43 pc = some e) : tb_code 43 pc = some e := h
theorem f_44 {pc : Nat} {e : Instr × Nat × Nat} (h : am_fetch cd_44 pc = some e) : tb_code 44 pc = some e := h
theorem f_45 {pc : Nat} {e : Instr × Nat × Nat} (h : am_fetch cd_45 pc = some e) : tb_code 45 pc = some e := h
theorem f_46 {pc : Nat} {e : Instr × Nat × Nat} (h : am_fetch cd_46 pc = some e) : tb_code 46 pc = some e := h
theorem f_47 {pc : Nat} {e : Instr × Nat × Nat} (h : am_fetch cd_47 pc = some e) : tb_code 47 pc = some e := h
theorem f_48 {pc : Nat} {e : Instr × Nat × Nat} (h : am_fetch cd_48 pc = some e) : tb_code 48 pc = some e := h
theorem f_49 {pc : Nat} {e : Instr × Nat × Nat} (h : am_fetch cd_49 pc = some e) : tb_code 49 pc = some e := h
theorem f_50 {pc : Nat} {e : Instr × Nat × Nat} (h : am_fetch cd_50 pc = some e) : tb_code 50 pc = some e := h
theorem f_51 {pc : Nat} {e : Instr × Nat × Nat} (h : am_fetch cd_51 pc = some e) : tb_code 51 pc = some e := h
theorem f_52 {pc : Nat} {e : Instr × Nat × Nat} (h : am_fetch cd_52 pc = some e) : tb_code 52 pc = some e := h
theorem f_53 {pc : Nat} {e : Instr × Nat × Nat} (h : am_fetch cd_53 pc = some e) : tb_code 53 pc = some e := h
theorem f_54 {pc : Nat} {e : Instr × Nat × Nat} (h : am_fetch cd_54 pc = some e) : tb_code 54 pc = some e := h
theorem f_55 {pc : Nat} {e : Instr × Nat × Nat} (h : am_fetch cd_55 pc = some e) : tb_code 55 pc = some e := h
theorem f_56 {pc : Nat} {e : Instr × Nat × Nat} (h : am_fetch cd_56 pc = some e) : tb_code 56 pc = some e := h
theorem f_57 {pc : Nat} {e : Instr × Nat × Nat} (h : am_fetch cd_57 pc = some e) : tb_code 57 pc = some e := h
theorem f_58 {pc : Nat} {e : Instr × Nat × Nat} (h : am_fetch cd_58 pc = some e) : tb_code 58 pc = some e := h
theorem f_59 {pc : Nat} {e : Instr × Nat × Nat} (h : am_fetch cd_59 pc = some e) : tb_code 59 pc = some e := h
theorem f_60 {pc : Nat} {e : Instr × Nat × Nat} (h : am_fetch cd_60 pc = some e) : tb_code 60 pc = some e := h
theorem f_61 {pc : Nat} {e : Instr × Nat × Nat} (h : am_fetch cd_61 pc = some e) : tb_code 61 pc = some e := h
theorem f_62 {pc : Nat} {e : Instr × Nat × Nat} (h : am_fetch cd_62 pc = some e) : tb_code 62 pc = some e := h
theorem f_63 {pc : Nat} {e : Instr × Nat × Nat} (h : am_fetch cd_63 pc = some e) : tb_code 63 pc = some e := h
theorem f_64 {pc : Nat} {e : Instr × Nat × Nat} (h : am_fetch cd_64 pc = some e) : tb_code 64 pc = some e := h
theorem f_65 {pc : Nat} {e : Instr × Nat × Nat} (h : am_fetch cd_65 pc = some e) : tb_code 65 pc = some e := h
theorem f_66 {pc : Nat} {e : Instr × Nat × Nat} (h : am_fetch cd_66 pc = some e) : tb_code 66 pc = some e := h
theorem f_67 {pc : Nat} {e : Instr × Nat × Nat} (h : am_fetch cd_67 pc = some e) : tb_code 67 pc = some e := h
theorem f_68 {pc : Nat} {e : Instr × Nat × Nat} (h : am_fetch cd_68 pc = some e) : tb_code 68 pc = some e := h
theorem f_69 {pc : Nat} {e : Instr × Nat × Nat} (h : am_fetch cd_69 pc = some e) : tb_code 69 pc = some e := h
theorem f_70 {pc : Nat} {e : Instr × Nat × Nat} (h : am_fetch cd_70 pc = some e) : tb_code 70 pc = some e := h
theorem f_71 {pc : Nat} {e : Instr × Nat × Nat} (h : am_fetch cd_71 pc = some e) : tb_code 71 pc = some e := h
theorem f_72 {pc : Nat} {e : Instr × Nat × Nat} (h : am_fetch cd_72 pc = some e) : tb_code 72 pc = some e := h
theorem f_73 {pc : Nat} {e : Instr × Nat × Nat} (h : am_fetch cd_73 pc = some e) : tb_code 73 pc = some e := h
theorem f_74 {pc : Nat} {e : Instr × Nat × Nat} (h : am_fetch cd_74 pc = some e) : tb_code 74 pc = some e := h
theorem f_75 {pc : Nat} {e : Instr × Nat × Nat} (h : am_fetch cd_75 pc = some e) : tb_code 75 pc = some e := h
theorem f_76 {pc : Nat} {e : Instr × Nat × Nat} (h : am_fetch cd_76 pc = some e) : tb_code 76 pc = some e := h
theorem f_77 {pc : Nat} {e : Instr × Nat × Nat} (h : am_fetch cd_77 pc = some e) : tb_code 77 pc = some e := h
theorem f_78 {pc : Nat} {e : Instr × Nat × Nat} (h : am_fetch cd_78 pc = some e) : tb_code 78 pc = some e := h
theorem f_79 {pc : Nat} {e : Instr × Nat × Nat} (h : am_fetch cd_79 pc = some e) : tb_code 79 pc = some e := h
theorem f_80 {pc : Nat} {e : Instr × Nat × Nat} (h : am_fetch cd_80 pc = some e) : tb_code 80 pc = some e := h
theorem f_81 {pc : Nat} {e : Instr × Nat × Nat} (h : am_fetch cd_81 pc = some e) : tb_code 81 pc = some e := h
theorem f_82 {pc : Nat} {e : Instr × Nat × Nat} (h : am_fetch cd_82 pc = some e) : tb_code 82 pc = some e := h
theorem f_83 {pc : Nat} {e : Instr × Nat × Nat} (h : am_fetch cd_83 pc = some e) : tb_code 83 pc = some e := h
theorem f_84 {pc : Nat} {e : Instr × Nat × Nat} (h : am_fetch cd_84 pc = some e) : tb_code 84 pc = some e := h
theorem f_85 {pc : Nat} {e : Instr × Nat × Nat} (h : am_fetch cd_85 pc = some e) : tb_code 85 pc = some e := h
theorem f_86 {pc : Nat} {e : Instr × Nat × Nat} (h : am_fetch cd_86 pc = some e) : tb_code 86 pc = some e := h
theorem f_87 {pc : Nat} {e : Instr × Nat × Nat} (h : am_fetch cd_87 pc = some e) : tb_code 87 pc = some e := h
theorem f_88 {pc : Nat} {e : Instr × Nat × Nat} (h : am_fetch cd_88 pc = some e) : tb_code 88 pc = some e := h
theorem f_89 {pc : Nat} {e : Instr × Nat × Nat} (h : am_fetch cd_89 pc = some e) : tb_code 89 pc = some e := h
theorem f_90 {pc : Nat} {e : Instr × Nat × Nat} (h : am_fetch cd_90 pc = some e) : tb_code 90 pc = some e := h
theorem f_91 {pc : Nat} {e : Instr × Nat × Nat} (h : am_fetch cd_91 pc = some e) : tb_code 91 pc = some e := h
theorem f_92 {pc : Nat} {e : Instr × Nat × Nat} (h : am_fetch cd_92 pc = some e) : tb_code 92 pc = some e := h
theorem f_93 {pc : Nat} {e : Instr × Nat × Nat} (h : am_fetch cd_93 pc = some e) : tb_code 93 pc = some e := h
theorem f_94 {pc : Nat} {e : Instr × Nat × Nat} (h : am_fetch cd_94 pc = some e) : tb_code 94 pc = some e := h
theorem f_95 {pc : Nat} {e : Instr × Nat × Nat} (h : am_fetch cd_95 pc = some e) : tb_code 95 pc = some e := h
theorem f_96 {pc : Nat} {e : Instr × Nat × Nat} (h : am_fetch cd_96 pc = some e) : tb_code 96 pc = some e := h
theorem f_97 {pc : Nat} {e : Instr × Nat × Nat} (h : am_fetch cd_97 pc = some e) : tb_code 97 pc = some e := h
theorem f_98 {pc : Nat} {e : Instr × Nat × Nat} (h : am_fetch cd_98 pc = some e) : tb_code 98 pc = some e := h
theorem f_99 {pc : Nat} {e : Instr × Nat × Nat} (h : am_fetch cd_99 pc = some e) : tb_code 99 pc = some e := h
theorem f_100 {pc : Nat} {e : Instr × Nat × Nat} (h : am_fetch cd_100 pc = some e) : tb_code 100 pc = some e := h
theorem f_101 {pc : Nat} {e : Instr × Nat × Nat} (h : am_fetch cd_101 pc = some e) : tb_code 101 pc = some e := h
theorem f_102 {pc : Nat} {e : Instr × Nat × Nat} (h : am_fetch cd_102 pc = some e) : tb_code 102 pc = some e := h
theorem f_103 {pc : Nat} {e : Instr × Nat × Nat} (h : am_fetch cd_103 pc = some e) : tb_code 103 pc = some e := h
theorem f_104 {pc : Nat} {e : Instr × Nat × Nat} (h : am_fetch cd_104 pc = some e) : tb_code 104 pc = some e := h
theorem f_105 {pc : Nat} {e : Instr × Nat × Nat} (h : am_fetch cd_105 pc = some e) : tb_code 105 pc = some e := h
theorem f_106 {pc : Nat} {e : Instr × Nat × Nat} (h : am_fetch cd_106 pc = some e) : tb_code 106 pc = some e := h
theorem f_107 {pc : Nat} {e : Instr × Nat × Nat} (h : am_fetch cd_107 pc = some e) : tb_code 107 pc = some e := h
theorem f_108 {pc : Nat} {e : Instr × Nat × Nat} (h : am_fetch cd_108 pc = some e) : tb_code 108 pc = some e := h
theorem f_109 {pc : Nat} {e : Instr × Nat × Nat} (h : am_fetch cd_109 pc = some e) : tb_code 109 pc = some e := h
theorem f_110 {pc : Nat} {e : Instr × Nat × Nat} (h : am_fetch cd_110 pc = some e) : tb_code 110 pc = some e := h
theorem f_111 {pc : Nat} {e : Instr × Nat × Nat} (h : am_fetch cd_111 pc = some e) : tb_code 111 pc = some e := h
theorem f_112 {pc : Nat} {e : Instr × Nat × Nat} (h : am_fetch cd_112 pc = some e) : tb_code 112 pc = some e := h
theorem f_113 {pc : Nat} {e : Instr × Nat × Nat} (h : am_fetch cd_113 pc = some e) : tb_code 113 pc = some e := h
theorem f_114 {pc : Nat} {e : Instr × Nat × Nat} (h : am_fetch cd_114 pc = some e) : tb_code 114 pc = some e := h
theorem f_115 {pc : Nat} {e : Instr × Nat × Nat} (h : am_fetch cd_115 pc = some e) : tb_code 115 pc = some e := h
theorem f_116 {pc : Nat} {e : Instr × Nat × Nat} (h : am_fetch cd_116 pc = some e) : tb_code 116 pc = some e := h
theorem f_117 {pc : Nat} {e : Instr × Nat × Nat} (h : am_fetch cd_117 pc = some e) : tb_code 117 pc = some e := h
theorem f_118 {pc : Nat} {e : Instr × Nat × Nat} (h : am_fetch cd_118 pc = some e) : tb_code 118 pc = some e := h
theorem f_119 {pc : Nat} {e : Instr × Nat × Nat} (h : am_fetch cd_119 pc = some e) : tb_code 119 pc = some e := h
theorem f_120 {pc : Nat} {e : Instr × Nat × Nat} (h : am_fetch cd_120 pc = some e) : tb_code 120 pc = some e := h
theorem f_121 {pc : Nat} {e : Instr × Nat × Nat} (h : am_fetch cd_121 pc = some e) : tb_code 121 pc = some e := h
theorem f_122 {pc : Nat} {e : Instr × Nat × Nat} (h : am_fetch cd_122 pc = some e) : tb_code 122 pc = some e := h
theorem f_123 {pc : Nat} {e : Instr × Nat × Nat} (h : am_fetch cd_123 pc = some e) : tb_code 123 pc = some e := h
theorem f_124 {pc : Nat} {e : Instr × Nat × Nat} (h : am_fetch cd_124 pc = some e) : tb_code 124 pc = some e := h
theorem f_125 {pc : Nat} {e : Instr × Nat × Nat} (h : am_fetch cd_125 pc = some e) : tb_code 125 pc = some e := h
theorem f_126 {pc : Nat} {e : Instr × Nat × Nat} (h : am_fetch cd_126 pc = some e) : tb_code 126 pc = some e := h
theorem f_127 {pc : Nat} {e : Instr × Nat × Nat} (h : am_fetch cd_127 pc = some e) : tb_code 127 pc = some e := h
theorem f_128 {pc : Nat} {e : Instr × Nat × Nat} (h : am_fetch cd_128 pc = some e) : tb_code 128 pc = some e := h
theorem f_129 {pc : Nat} {e : Instr × Nat × Nat} (h : am_fetch cd_129 pc = some e) : tb_code 129 pc = some e := h
theorem f_130 {pc : Nat} {e : Instr × Nat × Nat} (h : am_fetch cd_130 pc = some e) : tb_code 130 pc = some e := h
theorem f_131 {pc : Nat} {e : Instr × Nat × Nat} (h : am_fetch cd_131 pc = some e) : tb_code 131 pc = some e := h
theorem f_132 {pc : Nat} {e : Instr × Nat × Nat} (h : am_fetch cd_132 pc = some e) : tb_code 132 pc = some e := h
theorem f_133 {pc : Nat} {e : Instr × Nat × Nat} (h : am_fetch cd_133 pc = some e) : tb_code 133 pc = some e := h
theorem f_134 {pc : Nat} {e : Instr × Nat × Nat} (h : am_fetch cd_134 pc = some e) : tb_code 134 pc = some e := h
theorem f_135 {pc : Nat} {e : Instr × Nat × Nat} (h : am_fetch cd_135 pc = some e) : tb_code 135 pc = some e := h
theorem f_136 {pc : Nat} {e : Instr × Nat × Nat} (h : am_fetch cd_136 pc = some e) : tb_code 136 pc = some e := h
theorem f_137 {pc : Nat} {e : Instr × Nat × Nat} (h : am_fetch cd_137 pc = some e) : tb_code 137 pc = some e := h
theorem f_138 {pc : Nat} {e : Instr × Nat × Nat} (h : am_fetch cd_138 pc = some e) : tb_code 138 pc = some e := h
theorem f_139 {pc : Nat} {e : Instr × Nat × Nat} (h : am_fetch cd_139 pc = some e) : tb_code 139 pc = some e := h
theorem f_140 {pc : Nat} {e : Instr × Nat × Nat} (h : am_fetch cd_140 pc = some e) : tb_code 140 pc = some e := h
theorem f_141 {pc : Nat} {e : Instr × Nat × Nat} (h : am_fetch cd_141 pc = some e) : tb_code 141 pc = some e := h
theorem f_142 {pc : Nat} {e : Instr × Nat × Nat} (h : am_fetch cd_142 pc = some e) : tb_code 142 pc = some e := h
theorem f_143 {pc : Nat} {e : Instr × Nat × Nat} (h : am_fetch cd_143 pc = some e) : tb_code 143 pc = some e := h
theorem f_144 {pc : Nat} {e : Instr × Nat × Nat} (h : am_fetch cd_144 pc = some e) : tb_code 144 pc = some e := h
theorem f_145 {pc : Nat} {e : Instr × Nat × Nat} (h : am_fetch cd_145 pc = some e) : tb_code 145 pc = some e := h
theorem f_146 {pc : Nat} {e : Instr × Nat × Nat} (h : am_fetch cd_146 pc = some e) : tb_code 146 pc = some e := h
theorem f_147 {pc : Nat} {e : Instr × Nat × Nat} (h : am_fetch cd_147 pc = some e) : tb_code 147 pc = some e := h
theorem f_148 {pc : Nat} {e : Instr × Nat × Nat} (h : am_fetch cd_148 pc = some e) : tb_code 148 pc = some e := h
theorem f_149 {pc : Nat} {e : Instr × Nat × Nat} (h : am_fetch cd_149 pc = some e) : tb_code 149 pc = some e := h
theorem f_150 {pc : Nat} {e : Instr × Nat × Nat} (h : am_fetch cd_150 pc = some e) : tb_code 150 pc = some e := h
theorem f_151 {pc : Nat} {e : Instr × Nat × Nat} (h : am_fetch cd_151 pc = some e) : tb_code 151 pc = some e := h
theorem f_152 {pc : Nat} {e : Instr × Nat × Nat} (h : am_fetch cd_152 pc = some e) : tb_code 152 pc = some e := h
theorem f_153 {pc : Nat} {e : Instr × Nat × Nat} (h : am_fetch cd_153 pc = some e) : tb_code 153 pc = some e := h
theorem f_154 {pc : Nat} {e : Instr × Nat × Nat} (h : am_fetch cd_154 pc = some e) : tb_code 154 pc = some e := h
theorem f_155 {pc : Nat} {e : Instr × Nat × Nat} (h : am_fetch cd_155 pc = some e) : tb_code 155 pc = some e := h
theorem f_156 {pc : Nat} {e : Instr × Nat × Nat} (h : am_fetch cd_156 pc = some e) : tb_code 156 pc = some e := h
theorem f_157 {pc : Nat} {e : Instr × Nat × Nat} (h : am_fetch cd_157 pc = some e) : tb_code 157 pc = some e := h
theorem f_158 {pc : Nat} {e : Instr × Nat × Nat} (h : am_fetch cd_158 pc = some e) : tb_code 158 pc = some e := h
theorem f_159 {pc : Nat} {e : Instr × Nat × Nat} (h : am_fetch cd_159 pc = some e) : tb_code 159 pc = some e := h
theorem f_160 {pc : Nat} {e : Instr × Nat × Nat} (h : am_fetch cd_160 pc = some e) : tb_code 160 pc = some e := h
theorem f_161 {pc : Nat} {e : Instr × Nat × Nat} (h : am_fetch cd_161 pc = some e) : tb_code 161 pc = some e := h
theorem f_162 {pc : Nat} {e : Instr × Nat × Nat} (h : am_fetch cd_162 pc = some e) : tb_code 162 pc = some e := h
theorem f_163 {pc : Nat} {e : Instr × Nat × Nat} (h : am_fetch cd_163 pc = some e) : tb_code 163 pc = some e := h
theorem f_164 {pc : Nat} {e : Instr × Nat × Nat} (h : am_fetch cd_164 pc = some e) : tb_code 164 pc = some e := h
theorem f_165 {pc : Nat} {e : Instr × Nat × Nat} (h : am_fetch cd_165 pc = some e) : tb_code 165 pc = some e := h
theorem f_166 {pc : Nat} {e : Instr × Nat × Nat} (h : am_fetch cd_166 pc = some e) : tb_code 166 pc = some e := h
theorem f_167 {pc : Nat} {e : Instr × Nat × Nat} (h : am_fetch cd_167 pc = some e) : tb_code 167 pc = some e := h
theorem f_168 {pc : Nat} {e : Instr × Nat × Nat} (h : am_fetch cd_168 pc = some e) : tb_code 168 pc = some e := h
theorem f_169 {pc : Nat} {e : Instr × Nat × Nat} (h : am_fetch cd_169 pc = some e) : tb_code 169 pc = some e := h
theorem f_170 {pc : Nat} {e : Instr × Nat × Nat} (h : am_fetch cd_170 pc = some e) : tb_code 170 pc = some e := h
theorem f_171 {pc : Nat} {e : Instr × Nat × Nat} (h : am_fetch cd_171 pc = some e) : tb_code 171 pc = some e := h
theorem f_172 {pc : Nat} {e : Instr × Nat × Nat} (h : am_fetch cd_172 pc = some e) : tb_code 172 pc = some e := h
theorem f_173 {pc : Nat} {e : Instr × Nat × Nat} (h : am_fetch cd_173 pc = some e) : tb_code 173 pc = some e := h
theorem f_174 {pc : Nat} {e : Instr × Nat × Nat} (h : am_fetch cd_174 pc = some e) : tb_code 174 pc = some e := h
theorem f_175 {pc : Nat} {e : Instr × Nat × Nat} (h : am_fetch cd_175 pc = some e) : tb_code 175 pc = some e := h
theorem f_176 {pc : Nat} {e : Instr × Nat × Nat} (h : am_fetch cd_176 pc = some e) : tb_code 176 pc = some e := h
theorem f_177 {pc : Nat} {e : Instr × Nat × Nat} (h : am_fetch cd_177 pc = some e) : tb_code 177 pc = some e := h
theorem f_178 {pc : Nat} {e : Instr × Nat × Nat} (h : am_fetch cd_178 pc = some e) : tb_code 178 pc = some e := h
theorem f_179 {pc : Nat} {e : Instr × Nat × Nat} (h : am_fetch cd_179 pc = some e) : tb_code 179 pc = some e := h
theorem f_180 {pc : Nat} {e : Instr × Nat × Nat} (h : am_fetch cd_180 pc = some e) : tb_code 180 pc = some e := h
theorem f_181 {pc : Nat} {e : Instr × Nat × Nat} (h : am_fetch cd_181 pc = some e) : tb_code 181 pc = some e := h
theorem f_182 {pc : Nat} {e : Instr × Nat × Nat} (h : am_fetch cd_182 pc = some e) : tb_code 182 pc = some e := h
theorem f_183 {pc : Nat} {e : Instr × Nat × Nat} (h : am_fetch cd_183 pc = some e) : tb_code 183 pc = some e := h
theorem f_184 {pc : Nat} {e : Instr × Nat × Nat} (h : am_fetch cd_184 pc = some e) : tb_code 184 pc = some e := h
theorem f_185 {pc : Nat} {e : Instr × Nat × Nat} (h : am_fetch cd_185 pc = some e) : tb_code 185 pc = some e := h
theorem f_186 {pc : Nat} {e : Instr × Nat × Nat} (h : am_fetch cd_186 pc = some e) : tb_code 186 pc = some e := h
theorem f_187 {pc : Nat} {e : Instr × Nat × Nat} (h : am_fetch cd_187 pc = some e) : tb_code 187 pc = some e := h
theorem f_188 {pc : Nat} {e : Instr × Nat × Nat} (h : am_fetch cd_188 pc = some e) : tb_code 188 pc = some e := h
theorem f_189 {pc : Nat} {e : Instr × Nat × Nat} (h : am_fetch cd_189 pc = some e) : tb_code 189 pc = some e := h
theorem f_190 {pc : Nat} {e : Instr × Nat × Nat} (h : am_fetch cd_190 pc = some e) : tb_code 190 pc = some e := h
theorem f_191 {pc : Nat} {e : Instr × Nat × Nat} (h : am_fetch cd_191 pc = some e) : tb_code 191 pc = some e := h
theorem f_192 {pc : Nat} {e : Instr × Nat × Nat} (h : am_fetch cd_192 pc = some e) : tb_code 192 pc = some e := h
theorem f_193 {pc : Nat} {e : Instr × Nat × Nat} (h : am_fetch cd_193 pc = some e) : tb_code 193 pc = some e := h
theorem f_194 {pc : Nat} {e : Instr × Nat × Nat} (h : am_fetch cd_194 pc = some e) : tb_code 194 pc = some e := h
theorem f_195 {pc : Nat} {e : Instr × Nat × Nat} (h : am_fetch cd_195 pc = some e) : tb_code 195 pc = some e := h
theorem f_196 {pc : Nat} {e : Instr × Nat × Nat} (h : am_fetch cd_196 pc = some e) : tb_code 196 pc = some e := h
theorem f_197 {pc : Nat} {e : Instr × Nat × Nat} (h : am_fetch cd_197 pc = some e) : tb_code 197 pc = some e := h
theorem f_198 {pc : Nat} {e : Instr × Nat × Nat} (h : am_fetch cd_198 pc = some e) : tb_code 198 pc = some e := h
theorem f_199 {pc : Nat} {e : Instr × Nat × Nat} (h : am_fetch cd_199 pc = some e) : tb_code 199 pc = some e := h
theorem f_200 {pc : Nat} {e : Instr × Nat × Nat} (h : am_fetch cd_200 pc = some e) : tb_code 200 pc = some e := h
theorem f_201 {pc : Nat} {e : Instr × Nat × Nat} (h : am_fetch cd_201 pc = some e) : tb_code 201 pc = some e := h
theorem f_202 {pc : Nat} {e : Instr × Nat × Nat} (h : am_fetch cd_202 pc = some e) : tb_code 202 pc = some e := h
theorem f_203 {pc : Nat} {e : Instr × Nat × Nat} (h : am_fetch cd_203 pc = some e) : tb_code 203 pc = some e := h
theorem f_204 {pc : Nat} {e : Instr × Nat × Nat} (h : am_fetch cd_204 pc = some e) : tb_code 204 pc = some e := h
theorem f_205 {pc : Nat} {e : Instr × Nat × Nat} (h : am_fetch cd_205 pc = some e) : tb_code 205 pc = some e := h
theorem f_206 {pc : Nat} {e : Instr × Nat × Nat} (h : am_fetch cd_206 pc = some e) : tb_code 206 pc = some e := h
theorem f_207 {pc : Nat} {e : Instr × Nat × Nat} (h : am_fetch cd_207 pc = some e) : tb_code 207 pc = some e := h
theorem f_208 {pc : Nat} {e : Instr × Nat × Nat} (h : am_fetch cd_208 pc = some e) : tb_code 208 pc = some e := h
theorem f_209 {pc : Nat} {e : Instr × Nat × Nat} (h : am_fetch cd_209 pc = some e) : tb_code 209 pc = some e := h
theorem f_210 {pc : Nat} {e : Instr × Nat × Nat} (h : am_fetch cd_210 pc = some e) : tb_code 210 pc = some e := h
theorem f_211 {pc : Nat} {e : Instr × Nat × Nat} (h : am_fetch cd_211 pc = some e) : tb_code 211 pc = some e := h
theorem f_212 {pc : Nat} {e : Instr × Nat × Nat} (h : am_fetch cd_212 pc = some e) : tb_code 212 pc = some e := h
theorem f_213 {pc : Nat} {e : Instr × Nat × Nat} (h : am_fetch cd_213 pc = some e) : tb_code 213 pc = some e := h
theorem f_214 {pc : Nat} {e : Instr × Nat × Nat} (h : am_fetch cd_214 pc = some e) : tb_code 214 pc = some e := h
theorem f_215 {pc : Nat} {e : Instr × Nat × Nat} (h : am_fetch cd_215 pc = some e) : tb_code 215 pc = some e := h
theorem f_216 {pc : Nat} {e : Instr × Nat × Nat} (h : am_fetch cd_216 pc = some e) : tb_code 216 pc = some e := h
theorem f_217 {pc : Nat} {e : Instr × Nat × Nat} (h : am_fetch cd_217 pc = some e) : tb_code 217 pc = some e := h
theorem f_218 {pc : Nat} {e : Instr × Nat × Nat} (h : am_fetch cd_218 pc = some e) : tb_code 218 pc = some e := h
theorem f_219 {pc : Nat} {e : Instr × Nat × Nat} (h : am_fetch cd_219 pc = some e) : tb_code 219 pc = some e := h
theorem f_220 {pc : Nat} {e : Instr × Nat × Nat} (h : am_fetch cd_220 pc = some e) : tb_code 220 pc = some e := h
theorem f_221 {pc : Nat} {e : Instr × Nat × Nat} (h : am_fetch cd_221 pc = some e) : tb_code 221 pc = some e := h
theorem f_222 {pc : Nat} {e : Instr × Nat × Nat} (h : am_fetch cd_222 pc = some e) : tb_code 222 pc = some e := h
theorem f_223 {pc : Nat} {e : Instr × Nat × Nat} (h : am_fetch cd_223 pc = some e) : tb_code 223 pc = some e := h
theorem f_224 {pc : Nat} {e : Instr × Nat × Nat} (h : am_fetch cd_224 pc = some e) : tb_code 224 pc = some e := h
theorem f_225 {pc : Nat} {e : Instr × Nat × Nat} (h : am_fetch cd_225 pc = some e) : tb_code 225 pc = some e := h
theorem f_226 {pc : Nat} {e : Instr × Nat × Nat} (h : am_fetch cd_226 pc = some e) : tb_code 226 pc = some e := h
theorem f_227 {pc : Nat} {e : Instr × Nat × Nat} (h : am_fetch cd_227 pc = some e) : tb_code 227 pc = some e := h
theorem f_228 {pc : Nat} {e : Instr × Nat × Nat} (h : am_fetch cd_228 pc = some e) : tb_code 228 pc = some e := h
theorem f_229 {pc : Nat} {e : Instr × Nat × Nat} (h : am_fetch cd_229 pc = some e) : tb_code 229 pc = some e := h
theorem f_230 {pc : Nat} {e : Instr × Nat × Nat} (h : am_fetch cd_230 pc = some e) : tb_code 230 pc = some e := h
theorem f_231 {pc : Nat} {e : Instr × Nat × Nat} (h : am_fetch cd_231 pc = some e) : tb_code 231 pc = some e := h
theorem f_232 {pc : Nat} {e : Instr × Nat × Nat} (h : am_fetch cd_232 pc = some e) : tb_code 232 pc = some e := h
theorem f_233 {pc : Nat} {e : Instr × Nat × Nat} (h : am_fetch cd_233 pc = some e) : tb_code 233 pc = some e := h
theorem f_234 {pc : Nat} {e : Instr × Nat × Nat} (h : am_fetch cd_234 pc = some e) : tb_code 234 pc = some e := h
theorem f_235 {pc : Nat} {e : Instr × Nat × Nat} (h : am_fetch cd_235 pc = some e) : tb_code 235 pc = some e := h
theorem f_236 {pc : Nat} {e : Instr × Nat × Nat} (h : am_fetch cd_236 pc = some e) : tb_code 236 pc = some e := h
theorem f_237 {pc : Nat} {e : Instr × Nat × Nat} (h : am_fetch cd_237 pc = some e) : tb_code 237 pc = some e := h
theorem f_238 {pc : Nat} {e : Instr × Nat × Nat} (h : am_fetch cd_238 pc = some e) : tb_code 238 pc = some e := h
theorem f_239 {pc : Nat} {e : Instr × Nat × Nat} (h : am_fetch cd_239 pc = some e) : tb_code 239 pc = some e := h
theorem f_240 {pc : Nat} {e : Instr × Nat × Nat} (h : am_fetch cd_240 pc = some e) : tb_code 240 pc = some e := h
theorem f_241 {pc : Nat} {e : Instr × Nat × Nat} (h : am_fetch cd_241 pc = some e) : tb_code 241 pc = some e := h
theorem f_242 {pc : Nat} {e : Instr × Nat × Nat} (h : am_fetch cd_242 pc = some e) : tb_code 242 pc = some e := h
theorem f_243 {pc : Nat} {e : Instr × Nat × Nat} (h : am_fetch cd_243 pc = some e) : tb_code 243 pc = some e := h
theorem f_244 {pc : Nat} {e : Instr × Nat × Nat} (h : am_fetch cd_244 pc = some e) : tb_code 244 pc = some e := h
theorem f_245 {pc : Nat} {e : Instr × Nat × Nat} (h : am_fetch cd_245 pc = some e) : tb_code 245 pc = some e := h
theorem f_246 {pc : Nat} {e : Instr × Nat × Nat} (h : am_fetch cd_246 pc = some e) : tb_code 246 pc = some e := h
theorem f_247 {pc : Nat} {e : Instr × Nat × Nat} (h : am_fetch cd_247 pc = some e) : tb_code 247 pc = some e := h
theorem f_248 {pc : Nat} {e : Instr × Nat × Nat} (h : am_fetch cd_248 pc = some e) : tb_code 248 pc = some e := h
theorem f_249 {pc : Nat} {e : Instr × Nat × Nat} (h : am_fetch cd_249 pc = some e) : tb_code 249 pc = some e := h
theorem f_250 {pc : Nat} {e : Instr × Nat × Nat} (h : am_fetch cd_250 pc = some e) : tb_code 250 pc = some e := h
theorem f_251 {pc : Nat} {e : Instr × Nat × Nat} (h : am_fetch cd_251 pc = some e) : tb_code 251 pc = some e := h
theorem f_252 {pc : Nat} {e : Instr × Nat × Nat} (h : am_fetch cd_252 pc = some e) : tb_code 252 pc = some e := h
theorem f_253 {pc : Nat} {e : Instr × Nat × Nat} (h : am_fetch cd_253 pc = some e) : tb_code 253 pc = some e := h
theorem f_254 {pc : Nat} {e : Instr × Nat × Nat} (h : am_fetch cd_254 pc = some e) : tb_code 254 pc = some e := h
theorem f_255 {pc : Nat} {e : Instr × Nat × Nat} (h : am_fetch cd_255 pc = some e) : tb_code 255 pc = some e := h
theorem f_256 {pc : Nat} {e : Instr × Nat × Nat} (h : am_fetch cd_256 pc = some e) : tb_code 256 pc = some e := h
theorem f_257 {pc : Nat} {e : Instr × Nat × Nat} (h : am_fetch cd_257 pc = some e) : tb_code 257 pc = some e := h
theorem f_258 {pc : Nat} {e : Instr × Nat × Nat} (h : am_fetch cd_258 pc = some e) : tb_code 258 pc = some e := h
theorem f_259 {pc : Nat} {e : Instr × Nat × Nat} (h : am_fetch cd_259 pc = some e) : tb_code 259 pc = some e := h
theorem f_260 {pc : Nat} {e : Instr × Nat × Nat} (h : am_fetch cd_260 pc = some e) : tb_code 260 pc = some e := h
theorem f_261 {pc : Nat} {e : Instr × Nat × Nat} (h : am_fetch cd_261 pc = some e) : tb_code 261 pc = some e := h
theorem f_262 {pc : Nat} {e : Instr × Nat × Nat} (h : am_fetch cd_262 pc = some e) : tb_code 262 pc = some e := h
theorem f_263 {pc : Nat} {e : Instr × Nat × Nat} (h : am_fetch cd_263 pc = some e) : tb_code 263 pc = some e := h
theorem f_264 {pc : Nat} {e : Instr × Nat × Nat} (h : am_fetch cd_264 pc = some e) : tb_code 264 pc = some e := h
theorem f_265 {pc : Nat} {e : Instr × Nat × Nat} (h : am_fetch cd_265 pc = some e) : tb_code 265 pc = some e := h
theorem f_266 {pc : Nat} {e : Instr × Nat × Nat} (h : am_fetch cd_266 pc = some e) : tb_code 266 pc = some e := h
theorem f_267 {pc : Nat} {e : Instr × Nat × Nat} (h : am_fetch cd_267 pc = some e) : tb_code 267 pc = some e := h
theorem f_268 {pc : Nat} {e : Instr × Nat × Nat} (h : am_fetch cd_268 pc = some e) : tb_code 268 pc = some e := h
theorem f_269 {pc : Nat} {e : Instr × Nat × Nat} (h : am_fetch cd_269 pc = some e) : tb_code 269 pc = some e := h
theorem f_270 {pc : Nat} {e : Instr × Nat × Nat} (h : am_fetch cd_270 pc = some e) : tb_code 270 pc = some e := h
theorem f_271 {pc : Nat} {e : Instr × Nat × Nat} (h : am_fetch cd_271 pc = some e) : tb_code 271 pc = some e := h
theorem f_272 {pc : Nat} {e : Instr × Nat × Nat} (h : am_fetch cd_272 pc = some e) : tb_code 272 pc = some e := h
theorem f_273 {pc : Nat} {e : Instr × Nat × Nat} (h : am_fetch cd_273 pc = some e) : tb_code 273 pc = some e := h
theorem f_274 {pc : Nat} {e : Instr × Nat × Nat} (h : am_fetch cd_274 pc = some e) : tb_code 274 pc = some e := h
theorem f_275 {pc : Nat} {e : Instr × Nat × Nat} (h : am_fetch cd_275 pc = some e) : tb_code 275 pc = some e := h
theorem f_276 {pc : Nat} {e : Instr × Nat × Nat} (h : am_fetch cd_276 pc = some e) : tb_code 276 pc = some e := h
theorem f_277 {pc : Nat} {e : Instr × Nat × Nat} (h : am_fetch cd_277 pc = some e) : tb_code 277 pc = some e := h
theorem f_278 {pc : Nat} {e : Instr × Nat × Nat} (h : am_fetch cd_278 pc = some e) : tb_code 278 pc = some e := h
theorem f_279 {pc : Nat} {e : Instr × Nat × Nat} (h : am_fetch cd_279 pc = some e) : tb_code 279 pc = some e := h
theorem f_280 {pc : Nat} {e : Instr × Nat × Nat} (h : am_fetch cd_280 pc = some e) : tb_code 280 pc = some e := h
theorem f_281 {pc : Nat} {e : Instr × Nat × Nat} (h : am_fetch cd_281 pc = some e) : tb_code 281 pc = some e := h
theorem f_282 {pc : Nat} {e : Instr × Nat × Nat} (h : am_fetch cd_282 pc = some e) : tb_code 282 pc = some e := h
theorem f_283 {pc : Nat} {e : Instr × Nat × Nat} (h : am_fetch cd_283 pc = some e) : tb_code 283 pc = some e := h
theorem f_284 {pc : Nat} {e : Instr × Nat × Nat} (h : am_fetch cd_284 pc = some e) : tb_code 284 pc = some e := h
theorem f_285 {pc : Nat} {e : Instr × Nat × Nat} (h : am_fetch cd_285 pc = some e) : tb_code 285 pc = some e := h
theorem f_286 {pc : Nat} {e : Instr × Nat × Nat} (h : am_fetch cd_286 pc = some e) : tb_code 286 pc = some e := h
theorem f_287 {pc : Nat} {e : Instr × Nat × Nat} (h : am_fetch cd_287 pc = some e) : tb_code 287 pc = some e := h
theorem f_288 {pc : Nat} {e : Instr × Nat × Nat} (h : am_fetch cd_288 pc = some e) : tb_code 288 pc = some e := h
theorem f_289 {pc : Nat} {e : Instr × Nat × Nat} (h : am_fetch cd_289 pc = some e) : tb_code 289 pc = some e := h
theorem f_290 {pc : Nat} {e : Instr × Nat × Nat} (h : am_fetch cd_290 pc = some e) : tb_code 290 pc = some e := h
theorem f_291 {pc : Nat} {e : Instr × Nat × Nat} (h : am_fetch cd_291 pc = some e) : tb_code 291 pc = some e := h
theorem f_292 {pc : Nat} {e : Instr × Nat × Nat} (h : am_fetch cd_292 pc = some e) : tb_code 292 pc = some e := h
theorem f_293 {pc : Nat} {e : Instr × Nat × Nat} (h : am_fetch cd_293 pc = some e) : tb_code 293 pc = some e := h
theorem f_294 {pc : Nat} {e : Instr × Nat × Nat} (h : am_fetch cd_294 pc = some e) : tb_code 294 pc = some e := h
theorem f_295 {pc : Nat} {e : Instr × Nat × Nat} (h : am_fetch cd_295 pc = some e) : tb_code 295 pc = some e := h
theorem f_296 {pc : Nat} {e : Instr × Nat × Nat} (h : am_fetch cd_296 pc = some e) : tb_code 296 pc = some e := h
theorem f_297 {pc : Nat} {e : Instr × Nat × Nat} (h : am_fetch cd_297 pc = some e) : tb_code 297 pc = some e := h
theorem f_298 {pc : Nat} {e : Instr × Nat × Nat} (h : am_fetch cd_298 pc = some e) : tb_code 298 pc = some e := h
theorem f_299 {pc : Nat} {e : Instr × Nat × Nat} (h : am_fetch cd_299 pc = some e) : tb_code 299 pc = some e := h
theorem f_300 {pc : Nat} {e : Instr × Nat × Nat} (h : am_fetch cd_300 pc = some e) : tb_code 300 pc = some e := h
theorem f_301 {pc : Nat} {e : Instr × Nat × Nat} (h : am_fetch cd_301 pc = some e) : tb_code 301 pc = some e := h
theorem f_302 {pc : Nat} {e : Instr × Nat × Nat} (h : am_fetch cd_302 pc = some e) : tb_code 302 pc = some e := h
theorem f_303 {pc : Nat} {e : Instr × Nat × Nat} (h : am_fetch cd_303 pc = some e) : tb_code 303 pc = some e := h
theorem f_304 {pc : Nat} {e : Instr × Nat × Nat} (h : am_fetch cd_304 pc = some e) : tb_code 304 pc = some e := h
theorem f_305 {pc : Nat} {e : Instr × Nat × Nat} (h : am_fetch cd_305 pc = some e) : tb_code 305 pc = some e := h
theorem f_306 {pc : Nat} {e : Instr × Nat × Nat} (h : am_fetch cd_306 pc = some e) : tb_code 306 pc = some e := h
theorem f_307 {pc : Nat} {e : Instr × Nat × Nat} (h : am_fetch cd_307 pc = some e) : tb_code 307 pc = some e := h
theorem f_308 {pc : Nat} {e : Instr × Nat × Nat} (h : am_fetch cd_308 pc = some e) : tb_code 308 pc = some e := h
theorem f_309 {pc : Nat} {e : Instr × Nat × Nat} (h : am_fetch cd_309 pc = some e) : tb_code 309 pc = some e := h
theorem f_310 {pc : Nat} {e : Instr × Nat × Nat} (h : am_fetch cd_310 pc = some e) : tb_code 310 pc = some e := h
theorem f_311 {pc : Nat} {e : Instr × Nat × Nat} (h : am_fetch cd_311 pc = some e) : tb_code 311 pc = some e := h
theorem f_312 {pc : Nat} {e : Instr × Nat × Nat} (h : am_fetch cd_312 pc = some e) : tb_code 312 pc = some e := h
theorem f_313 {pc : Nat} {e : Instr × Nat × Nat} (h : am_fetch cd_313 pc = some e) : tb_code 313 pc = some e := h
theorem f_314 {pc : Nat} {e : Instr × Nat × Nat} (h : am_fetch cd_314 pc = some e) : tb_code 314 pc = some e := h
theorem f_315 {pc : Nat} {e : Instr × Nat × Nat} (h : am_fetch cd_315 pc = some e) : tb_code 315 pc = some e := h
theorem f_316 {pc : Nat} {e : Instr × Nat × Nat} (h : am_fetch cd_316 pc = some e) : tb_code 316 pc = some e := h
theorem f_317 {pc : Nat} {e : Instr × Nat × Nat} (h : am_fetch cd_317 pc = some e) : tb_code 317 pc = some e := h
theorem f_318 {pc : Nat} {e : Instr × Nat × Nat} (h : am_fetch cd_318 pc = some e) : tb_code 318 pc = some e := h
theorem f_319 {pc : Nat} {e : Instr × Nat × Nat} (h : am_fetch cd_319 pc = some e) : tb_code 319 pc = some e := h
theorem f_320 {pc : Nat} {e : Instr × Nat × Nat} (h : am_fetch cd_320 pc = some e) : tb_code 320 pc = some e := h
theorem f_321 {pc : Nat} {e : Instr × Nat × Nat} (h : am_fetch cd_321 pc = some e) : tb_code 321 pc = some e := h
theorem f_322 {pc : Nat} {e : Instr × Nat × Nat} (h : am_fetch cd_322 pc = some e) : tb_code 322 pc = some e := h
theorem f_323 {pc : Nat} {e : Instr × Nat × Nat} (h : am_fetch cd_323 pc = some e) : tb_code 323 pc = some e := h
theorem f_324 {pc : Nat} {e : Instr × Nat × Nat} (h : am_fetch cd_324 pc = some e) : tb_code 324 pc = some e := h
theorem f_325 {pc : Nat} {e : Instr × Nat × Nat} (h : am_fetch cd_325 pc = some e) : tb_code 325 pc = some e := h
theorem f_326 {pc : Nat} {e : Instr × Nat × Nat} (h : am_fetch cd_326 pc = some e) : tb_code 326 pc = some e := h
theorem f_327 {pc : Nat} {e : Instr × Nat × Nat} (h : am_fetch cd_327 pc = some e) : tb_code 327 pc = some e := h
theorem f_328 {pc : Nat} {e : Instr × Nat × Nat} (h : am_fetch cd_328 pc = some e) : tb_code 328 pc = some e := h
theorem f_329 {pc : Nat} {e : Instr × Nat × Nat} (h : am_fetch cd_329 pc = some e) : tb_code 329 pc = some e := h
theorem f_330 {pc : Nat} {e : Instr × Nat × Nat} (h : am_fetch cd_330 pc = some e) : tb_code 330 pc = some e := h
theorem f_331 {pc : Nat} {e : Instr × Nat × Nat} (h : am_fetch cd_331 pc = some e) : tb_code 331 pc = some e := h
theorem f_332 {pc : Nat} {e : Instr × Nat × Nat} (h : am_fetch cd_332 pc = some e) : tb_code 332 pc = some e := h
theorem f_333 {pc : Nat} {e : Instr × Nat × Nat} (h : am_fetch cd_333 pc = some e) : tb_code 333 pc = some e := h
theorem f_334 {pc : Nat} {e : Instr × Nat × Nat} (h : am_fetch cd_334 pc = some e) : tb_code 334 pc = some e := h
theorem f_335 {pc : Nat} {e : Instr × Nat × Nat} (h : am_fetch cd_335 pc = some e) : tb_code 335 pc = some e := h
theorem f_336 {pc : Nat} {e : Instr × Nat × Nat} (h : am_fetch cd_336 pc = some e) : tb_code 336 pc = some e := h
theorem f_337 {pc : Nat} {e : Instr × Nat × Nat} (h : am_fetch cd_337 pc = some e) : tb_code 337 pc = some e := h
theorem f_338 {pc : Nat} {e : Instr × Nat × Nat} (h : am_fetch cd_338 pc = some e) : tb_code 338 pc = some e := h
theorem f_339 {pc : Nat} {e : Instr × Nat × Nat} (h : am_fetch cd_339 pc = some e) : tb_code 339 pc = some e := h
theorem f_340 {pc : Nat} {e : Instr × Nat × Nat} (h : am_fetch cd_340 pc = some e) : tb_code 340 pc = some e := h
theorem f_341 {pc : Nat} {e : Instr × Nat × Nat} (h : am_fetch cd_341 pc = some e) : tb_code 341 pc = some e := h
