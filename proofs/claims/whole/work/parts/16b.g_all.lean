/-! am_G TT: printed by wip/gen/gall.py. -/
def tb_ids : List Nat := [4, 5, 6, 7, 8, 9, 10, 11, 12, 13, 14, 15] ++ ([16, 17, 18, 19, 20, 21, 22, 23, 24, 25, 26, 27, 28, 29, 30, 31] ++ ([32, 33, 34, 35, 36, 37, 38, 39, 40, 41, 42, 43, 44, 45, 46, 47] ++ ([48, 49, 50, 51, 52, 53, 54, 55, 56, 57, 58, 59, 60, 61, 62, 63] ++ ([64, 65, 66, 67, 68, 69, 70, 71, 72, 73, 74, 75, 76, 77, 78, 79] ++ ([80, 81, 82, 83, 84, 85, 86, 87, 88, 89, 90, 91, 92, 93, 94, 95] ++ ([96, 97, 98, 99, 100, 101, 102, 103, 104, 105, 106, 107, 108, 109, 110, 111] ++ ([112, 113, 114, 115, 116, 117, 118, 119, 120, 121, 122, 123, 124, 125, 126, 127] ++ ([128, 129, 130, 131, 132, 133, 134, 135, 136, 137, 138, 139, 140, 141, 142, 143] ++ ([144, 145, 146, 147, 148, 149, 150, 151, 152, 153, 154, 155, 156, 157, 158, 159] ++ ([160, 161, 162, 163, 164, 165, 166, 167, 168, 169, 170, 171, 172, 173, 174, 175] ++ ([176, 177, 178, 179, 180, 181, 182, 183, 184, 185, 186, 187, 188, 189, 190, 191] ++ ([192, 193, 194, 195, 196, 197, 198, 199, 200, 201, 202, 203, 204, 205, 206, 207] ++ ([208, 209, 210, 211, 212, 213, 214, 215, 216, 217, 218, 219, 220, 221, 222, 223] ++ ([224, 225, 226, 227, 228, 229, 230, 231, 232, 233, 234, 235, 236, 237, 238, 239] ++ ([240, 241, 242, 243, 244, 245, 246, 247, 248, 249, 250, 251, 252, 253, 254, 255] ++ ([256, 257, 258, 259, 260, 261, 262, 263, 264, 265, 266, 267, 268, 269, 270, 271] ++ ([272, 273, 274, 275, 276, 277, 278, 279, 280, 281, 282, 283, 284, 285, 286, 287] ++ ([288, 289, 290, 291, 292, 293, 294, 295, 296, 297, 298, 299, 300, 301, 302, 303] ++ ([304, 305, 306, 307, 308, 309, 310, 311, 312, 313, 314, 315, 316, 317, 318, 319] ++ ([320, 321, 322, 323, 324, 325, 326, 327, 328, 329, 330, 331, 332, 333, 334, 335] ++ ([336, 337, 338, 339, 341])))))))))))))))))))))
theorem tb_ids_ok : ∀ y ∈ tb_ids, am_mok TT y := List.forall_mem_append.mpr ⟨mkc_0, List.forall_mem_append.mpr ⟨mkc_1, List.forall_mem_append.mpr ⟨mkc_2, List.forall_mem_append.mpr ⟨mkc_3, List.forall_mem_append.mpr ⟨mkc_4, List.forall_mem_append.mpr ⟨mkc_5, List.forall_mem_append.mpr ⟨mkc_6, List.forall_mem_append.mpr ⟨mkc_7, List.forall_mem_append.mpr ⟨mkc_8, List.forall_mem_append.mpr ⟨mkc_9, List.forall_mem_append.mpr ⟨mkc_10, List.forall_mem_append.mpr ⟨mkc_11, List.forall_mem_append.mpr ⟨mkc_12, List.forall_mem_append.mpr ⟨mkc_13, List.forall_mem_append.mpr ⟨mkc_14, List.forall_mem_append.mpr ⟨mkc_15, List.forall_mem_append.mpr ⟨mkc_16, List.forall_mem_append.mpr ⟨mkc_17, List.forall_mem_append.mpr ⟨mkc_18, List.forall_mem_append.mpr ⟨mkc_19, List.forall_mem_append.mpr ⟨mkc_20, mkc_21⟩⟩⟩⟩⟩⟩⟩⟩⟩⟩⟩⟩⟩⟩⟩⟩⟩⟩⟩⟩⟩
theorem tb_icov : (List.range 19).all (fun own => (tb_ms.getD own []).all fun e => Nat.blt e.2 4 || tb_ids.any fun x => Nat.beq x e.2) = true := by decide +kernel
theorem tb_g7 (own k y : Nat) (h : pMth PP own k = some y) (h4 : 4 ≤ y) : am_mok TT y := by
  obtain ⟨h1, h2⟩ := tb_look (t := tb_ms) h
  have h3 := List.all_eq_true.mp (List.all_eq_true.mp tb_icov own (List.mem_range.mpr h1)) _ h2
  simp only [Bool.or_eq_true] at h3
  rcases h3 with h3 | h3
  · have : y < 4 := by simpa [Nat.blt_eq] using h3
    omega
  · obtain ⟨x, hx, hb⟩ := List.any_eq_true.mp h3
    have e := Nat.eq_of_beq_eq_true hb
    subst e
    exact tb_ids_ok _ hx
theorem tb_g8 : ∀ w ∈ lw_good, goodWord w = true := fun w h => (List.mem_filter.mp h).2
def tb_nk (r : am_Row) (i : Instr) : Bool := match i with
  | .anewarray k => (match am_look (tb_cs.getD r.2.1.1 []) k with
    | some ci => Nat.beq ci 0 || Nat.beq ci 7
    | none => true)
  | .newarray a => decide (a = .int) || decide (a = .long) || decide (a = .byte) || decide (a = .boolean)
  | _ => true
theorem tb_nkc : rcs.all (fun l => l.all fun r => r.2.2.2.2.all fun ch => ch.all fun e => tb_nk r e.2.1) = true := by decide +kernel
theorem tb_nk_of {y pc : Nat} {i : Instr} {n t : Nat} (h : tb_code y pc = some (i, n, t)) : ∃ r, am_row y = some r ∧ tb_nk r i = true := by
  obtain ⟨r, hr, ⟨l, hl, hrl⟩, -, ch, hch, he⟩ := tb_code_mem h
  exact ⟨r, hr, List.all_eq_true.mp (List.all_eq_true.mp (List.all_eq_true.mp (List.all_eq_true.mp tb_nkc l hl) r hrl) ch hch) _ he⟩
theorem tb_g9 (y pc k n t ci : Nat) (h : pCode PP y pc = some (.anewarray k, n, t)) (hc : pCls PP (iOwn (pInf PP y)) k = some ci) : pNm PP ci ∈ (["IslandCall$Boat", "IslandCall$Years"] : List String) := by
  obtain ⟨r, hr, hk⟩ := tb_nk_of h
  have e1 : iOwn (pInf PP y) = r.2.1.1 := by show (tb_inf y).1 = _; unfold tb_inf; rw [hr]
  rw [e1] at hc
  unfold tb_nk at hk
  dsimp only at hk
  rw [show am_look (tb_cs.getD r.2.1.1 []) k = some ci from hc] at hk
  simp only [Bool.or_eq_true] at hk
  rcases hk with z | z
  · rw [Nat.eq_of_beq_eq_true z]; exact List.mem_cons_self
  · rw [Nat.eq_of_beq_eq_true z]; exact List.mem_cons_of_mem _ List.mem_cons_self
theorem tb_ac_int : Cond.arrayClass .int ∈ lw_good := lw_in 159 (by decide +kernel) rfl
theorem tb_ac_long : Cond.arrayClass .long ∈ lw_good := lw_in 160 (by decide +kernel) rfl
theorem tb_ac_byte : Cond.arrayClass .byte ∈ lw_good := lw_in 415 (by decide +kernel) rfl
theorem tb_ac_boolean : Cond.arrayClass .boolean ∈ lw_good := lw_in 161 (by decide +kernel) rfl
theorem tb_na_of {y pc : Nat} {a : ArrayType} {n t : Nat} (h : pCode PP y pc = some (.newarray a, n, t)) : a = .int ∨ a = .long ∨ a = .byte ∨ a = .boolean := by
  obtain ⟨r, hr, hk⟩ := tb_nk_of h
  unfold tb_nk at hk
  dsimp only at hk
  simp only [Bool.or_eq_true, decide_eq_true_eq] at hk
  rcases hk with ((z | z) | z) | z
  · exact Or.inl z
  · exact Or.inr (Or.inl z)
  · exact Or.inr (Or.inr (Or.inl z))
  · exact Or.inr (Or.inr (Or.inr z))
theorem tb_g10 (y pc : Nat) (a : ArrayType) (n t : Nat) (h : pCode PP y pc = some (.newarray a, n, t)) : Cond.arrayClass (newarray.typeOf a) ∈ lw_good := by
  rcases tb_na_of h with rfl | rfl | rfl | rfl
  · exact tb_ac_int
  · exact tb_ac_long
  · exact tb_ac_byte
  · exact tb_ac_boolean
theorem tb_G : am_G TT := ⟨tb_g1, tb_g2, tb_g3, tb_g4, tb_g5, tb_g6, tb_g7, tb_g8, tb_g9, tb_g10⟩
theorem tb_no (ci j : Nat) : am_kd (pTy PP ci j) ≠ 3 := by
  have hall : ∀ l ∈ tb_ts, ∀ t ∈ l, am_kd t ≠ 3 := by
    have h : tb_ts.all (fun l => l.all fun t => !(Nat.beq (am_kd t) 3)) = true := by decide +kernel
    intro l hl t ht e
    have := List.all_eq_true.mp (List.all_eq_true.mp h l hl) t ht
    rw [e] at this
    cases this
  show am_kd ((tb_ts.getD ci []).getD j .int) ≠ 3
  rw [List.getD_eq_getElem?_getD, List.getD_eq_getElem?_getD]
  cases h1 : tb_ts[ci]? with
  | none => simp [am_kd]
  | some l =>
    simp only [Option.getD_some]
    cases h2 : l[j]? with
    | none => simp [am_kd]
    | some t => exact hall l (List.mem_of_getElem? h1) t (List.mem_of_getElem? h2)
theorem tb_hna (y pc : Nat) (a : ArrayType) (n t : Nat) (h : pCode PP y pc = some (.newarray a, n, t)) : am_kd (newarray.typeOf a) ≠ 3 := by
  rcases tb_na_of h with rfl | rfl | rfl | rfl <;> decide
theorem tb_h01 : ∀ y, y < 4 → iKnd (pInf PP y) = 3 := by
  intro y h
  match y, h with
  | 0, _ => rfl
  | 1, _ => rfl
  | 2, _ => rfl
  | 3, _ => rfl
