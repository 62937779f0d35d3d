/-! am_G TT: printed by wip/gen/gok.py. -/
theorem am_look_mem {α : Type} {k : Nat} {v : α} : ∀ {l : List (Nat × α)}, am_look l k = some v → (k, v) ∈ l
  | [], h => by cases h
  | (a, b) :: t, h => by
    unfold am_look at h
    split at h
    · next hb => cases h; rw [Nat.eq_of_beq_eq_true hb]; exact List.mem_cons_self
    · exact List.mem_cons_of_mem _ (am_look_mem h)
theorem am_rfind_mem {k : Nat} {r : am_Row} : ∀ {l : List am_Row}, am_rfind l k = some r → r ∈ l ∧ r.1 = k
  | [], h => by cases h
  | a :: t, h => by
    unfold am_rfind at h
    split at h
    · next hb => cases h; exact ⟨List.mem_cons_self, Nat.eq_of_beq_eq_true hb⟩
    · exact ⟨List.mem_cons_of_mem _ (am_rfind_mem h).1, (am_rfind_mem h).2⟩
theorem am_row_mem {y : Nat} {r : am_Row} (h : am_row y = some r) : (∃ l ∈ rcs, r ∈ l) ∧ r.1 = y := by
  unfold am_row at h
  split at h
  · next l hl => exact ⟨⟨l, List.mem_of_getElem? hl, (am_rfind_mem h).1⟩, (am_rfind_mem h).2⟩
  · cases h
theorem am_fetch_mem {c : List (List (Nat × Instr × Nat × Nat))} {pc : Nat} {e : Instr × Nat × Nat} (h : am_fetch c pc = some e) : ∃ ch ∈ c, (pc, e) ∈ ch := by
  unfold am_fetch at h
  split at h
  · next ch hc => exact ⟨ch, List.mem_of_getElem? hc, am_look_mem h⟩
  · cases h
theorem tb_code_mem {y pc : Nat} {e : Instr × Nat × Nat} (h : tb_code y pc = some e) : ∃ r, am_row y = some r ∧ (∃ l ∈ rcs, r ∈ l) ∧ r.1 = y ∧ ∃ ch ∈ r.2.2.2.2, (pc, e) ∈ ch := by
  unfold tb_code at h
  split at h
  · next r hr => exact ⟨r, hr, (am_row_mem hr).1, (am_row_mem hr).2, am_fetch_mem h⟩
  · cases h
theorem tb_g1 (y pc : Nat) (i : Instr) (n t : Nat) (h : tb_code y pc = some (i, n, t)) : decode (tb_by y) pc = .ok (i, (am_ln i).getD n) ∧ am_tg i pc t := by
  obtain ⟨r, hr, ⟨l, hl, hrl⟩, -, ch, hch, he⟩ := tb_code_mem h
  have h1 := List.all_eq_true.mp (List.all_eq_true.mp (ckcs l hl r hrl) ch hch) _ he
  simp only [Bool.and_eq_true, decide_eq_true_eq] at h1
  have e1 : tb_by y = r.2.2.2.1 := by unfold tb_by; rw [hr]
  rw [e1]
  refine ⟨h1.1, ?_⟩
  have h2 := h1.2
  unfold am_tgb at h2
  unfold am_tg
  cases i <;> first | trivial | exact of_decide_eq_true h2
theorem tb_look {α : Type} {t : List (List (Nat × α))} {own k : Nat} {v : α} (h : am_look (t.getD own []) k = some v) : own < t.length ∧ (k, v) ∈ t.getD own [] := by
  refine ⟨?_, am_look_mem h⟩
  rcases Nat.lt_or_ge own t.length with z | z
  · exact z
  · rw [List.getD_eq_getElem?_getD, List.getElem?_eq_none z] at h
    cases h
def tb_fok (e : Nat × Nat × Nat × Nat × Nat) : Bool := decide (e.2.2.2.1 < (tb_Fs.getD e.2.2.1 []).length) && decide (e.2.2.1 < 11) && decide (lw_tbl[e.2.2.2.2]? = some (Cond.fieldLink (tb_nm.getD e.1 "") e.2.1 (tb_u e.2.2.1 e.2.2.2.1).1 (tb_u e.2.2.1 e.2.2.2.1).2.1 (tb_u e.2.2.1 e.2.2.2.1).2.2.1)) && decide ((tb_u e.2.2.1 e.2.2.2.1).1 = tb_nm.getD e.2.2.1 "")
def tb_fp0 : List (Nat × Nat × Nat × Nat × Nat) := [(9, 9, 9, 3, 514), (9, 16, 9, 4, 515), (9, 23, 9, 5, 516), (9, 30, 9, 6, 517), (9, 37, 9, 7, 518), (9, 41, 9, 8, 519), (9, 44, 9, 9, 520), (9, 47, 9, 10, 521), (9, 51, 9, 11, 522), (9, 60, 9, 12, 523), (9, 69, 9, 13, 524), (9, 78, 9, 14, 525), (9, 85, 9, 15, 526), (9, 89, 9, 16, 527), (9, 97, 9, 17, 528), (9, 101, 9, 0, 511), (9, 105, 2, 0, 169), (9, 109, 2, 1, 171), (9, 149, 9, 1, 512), (9, 169, 0, 5, 203)]
theorem tb_fp0_ok : tb_fp0.all tb_fok = true := by decide +kernel
def tb_fp1 : List (Nat × Nat × Nat × Nat × Nat) := [(9, 179, 7, 1, 275), (9, 182, 5, 9, 389), (9, 185, 5, 10, 391), (9, 188, 0, 4, 199), (9, 191, 0, 0, 188), (9, 194, 0, 1, 190), (9, 197, 0, 2, 193), (9, 200, 0, 3, 195), (9, 203, 0, 7, 213), (9, 206, 0, 6, 207), (9, 216, 0, 8, 215), (9, 225, 0, 10, 219), (9, 231, 0, 11, 221), (9, 234, 0, 12, 224), (9, 237, 0, 13, 228), (9, 373, 7, 0, 272), (9, 381, 3, 1, 463), (9, 382, 3, 0, 461), (9, 385, 3, 2, 465), (9, 388, 3, 3, 467)]
theorem tb_fp1_ok : tb_fp1.all tb_fok = true := by decide +kernel
def tb_fp2 : List (Nat × Nat × Nat × Nat × Nat) := [(9, 391, 3, 4, 469), (9, 394, 3, 5, 471), (9, 397, 3, 6, 473), (9, 400, 9, 2, 513), (0, 9, 0, 8, 214), (0, 15, 0, 9, 216), (0, 19, 0, 10, 217), (0, 22, 0, 11, 220), (0, 25, 0, 12, 222), (0, 28, 0, 13, 225), (0, 31, 0, 14, 229), (0, 34, 0, 15, 230), (0, 40, 0, 0, 187), (0, 44, 0, 1, 189), (0, 47, 0, 2, 191), (0, 50, 0, 3, 194), (0, 53, 0, 4, 196), (0, 56, 0, 5, 201), (0, 59, 0, 6, 204), (0, 62, 0, 7, 210)]
theorem tb_fp2_ok : tb_fp2.all tb_fok = true := by decide +kernel
def tb_fp3 : List (Nat × Nat × Nat × Nat × Nat) := [(1, 9, 1, 0, 422), (1, 15, 1, 1, 423), (1, 30, 1, 2, 424), (1, 44, 5, 8, 386), (1, 68, 5, 6, 379), (1, 84, 0, 4, 197), (1, 90, 5, 7, 383), (1, 105, 0, 6, 205), (1, 111, 0, 5, 202), (1, 117, 0, 7, 212), (1, 126, 0, 12, 223), (1, 130, 0, 13, 226), (2, 7, 2, 0, 168), (2, 13, 2, 1, 170), (3, 11, 3, 8, 475), (3, 17, 3, 0, 460), (3, 21, 3, 1, 462), (3, 25, 3, 2, 464), (3, 28, 3, 3, 466), (3, 31, 3, 4, 468)]
theorem tb_fp3_ok : tb_fp3.all tb_fok = true := by decide +kernel
def tb_fp4 : List (Nat × Nat × Nat × Nat × Nat) := [(3, 34, 3, 5, 470), (3, 37, 3, 6, 472), (3, 40, 3, 7, 474), (3, 44, 7, 2, 277), (3, 47, 7, 3, 280), (3, 58, 7, 8, 294), (3, 61, 7, 6, 288), (3, 64, 7, 7, 291), (3, 71, 0, 2, 192), (3, 113, 0, 7, 211), (3, 117, 7, 4, 283), (3, 123, 0, 6, 206), (3, 129, 0, 10, 218), (3, 132, 7, 5, 285), (4, 11, 4, 1, 502), (4, 15, 4, 2, 503), (4, 18, 4, 0, 501), (4, 28, 0, 5, 200), (4, 32, 0, 7, 209), (4, 63, 0, 4, 198)]
theorem tb_fp4_ok : tb_fp4.all tb_fok = true := by decide +kernel
def tb_fp5 : List (Nat × Nat × Nat × Nat × Nat) := [(4, 80, 0, 13, 227), (4, 99, 0, 6, 208), (5, 9, 5, 1, 374), (5, 15, 5, 9, 388), (5, 19, 5, 10, 390), (5, 22, 5, 0, 373), (5, 40, 5, 2, 375), (5, 42, 5, 3, 376), (5, 45, 5, 4, 377), (5, 48, 5, 8, 387), (5, 51, 5, 7, 382), (5, 55, 5, 6, 380), (5, 58, 5, 5, 378), (6, 13, 6, 0, 146), (6, 16, 6, 1, 147), (6, 20, 6, 2, 148), (6, 23, 6, 3, 149), (7, 11, 7, 3, 279), (7, 15, 7, 4, 281), (7, 18, 7, 5, 284)]
theorem tb_fp5_ok : tb_fp5.all tb_fok = true := by decide +kernel
def tb_fp6 : List (Nat × Nat × Nat × Nat × Nat) := [(7, 21, 7, 6, 287), (7, 24, 7, 7, 290), (7, 27, 7, 8, 293), (7, 30, 7, 0, 270), (7, 34, 7, 1, 273), (7, 38, 7, 2, 276), (8, 11, 8, 3, 441), (8, 15, 8, 0, 438), (8, 19, 8, 1, 439), (8, 23, 8, 2, 440), (8, 38, 7, 0, 271), (8, 42, 8, 4, 442), (8, 57, 5, 8, 385), (8, 60, 7, 2, 278), (8, 83, 7, 8, 295), (8, 86, 7, 1, 274), (8, 99, 7, 4, 282), (8, 108, 5, 7, 384), (8, 118, 7, 6, 289), (8, 124, 7, 5, 286)]
theorem tb_fp6_ok : tb_fp6.all tb_fok = true := by decide +kernel
def tb_fp7 : List (Nat × Nat × Nat × Nat × Nat) := [(8, 127, 5, 6, 381), (8, 136, 7, 7, 292), (10, 7, 10, 0, 1305), (10, 13, 10, 1, 1306), (10, 17, 10, 4, 1309), (10, 21, 10, 5, 1310), (10, 24, 10, 6, 1311), (10, 27, 10, 7, 1312), (10, 30, 10, 8, 1313), (10, 34, 10, 9, 1314), (10, 37, 10, 16, 1321), (10, 41, 10, 17, 1322), (10, 44, 10, 21, 1326), (10, 47, 10, 24, 1329), (10, 50, 10, 26, 1331), (10, 53, 10, 27, 1332), (10, 56, 10, 29, 1334), (10, 59, 10, 32, 1337), (10, 62, 10, 33, 1338), (10, 65, 10, 34, 1339)]
theorem tb_fp7_ok : tb_fp7.all tb_fok = true := by decide +kernel
def tb_fp8 : List (Nat × Nat × Nat × Nat × Nat) := [(10, 72, 10, 2, 1307), (10, 75, 10, 3, 1308), (10, 102, 10, 10, 1315), (10, 108, 10, 11, 1316), (10, 111, 10, 14, 1319), (10, 117, 10, 13, 1318), (10, 120, 10, 15, 1320), (10, 123, 10, 12, 1317), (10, 148, 10, 18, 1323), (10, 151, 10, 19, 1324), (10, 206, 10, 20, 1325), (10, 241, 10, 22, 1327), (10, 244, 10, 23, 1328), (10, 302, 10, 25, 1330), (10, 390, 10, 28, 1333), (10, 406, 10, 30, 1335), (10, 416, 10, 31, 1336), (10, 433, 10, 35, 1340), (10, 437, 10, 36, 1341)]
theorem tb_fp8_ok : tb_fp8.all tb_fok = true := by decide +kernel
def tb_fp : List (Nat × Nat × Nat × Nat × Nat) := tb_fp0 ++ tb_fp1 ++ tb_fp2 ++ tb_fp3 ++ tb_fp4 ++ tb_fp5 ++ tb_fp6 ++ tb_fp7 ++ tb_fp8
theorem tb_fp_ok : ∀ e ∈ tb_fp, tb_fok e = true := by
  intro e h
  unfold tb_fp at h
  simp only [List.mem_append] at h
  rcases h with ((((((((h | h) | h) | h) | h) | h) | h) | h) | h)
  · exact List.all_eq_true.mp tb_fp0_ok e h
  · exact List.all_eq_true.mp tb_fp1_ok e h
  · exact List.all_eq_true.mp tb_fp2_ok e h
  · exact List.all_eq_true.mp tb_fp3_ok e h
  · exact List.all_eq_true.mp tb_fp4_ok e h
  · exact List.all_eq_true.mp tb_fp5_ok e h
  · exact List.all_eq_true.mp tb_fp6_ok e h
  · exact List.all_eq_true.mp tb_fp7_ok e h
  · exact List.all_eq_true.mp tb_fp8_ok e h
theorem tb_fcov : (List.range 19).all (fun own => (tb_fs.getD own []).all fun e => tb_fp.any fun x => Nat.beq x.1 own && Nat.beq x.2.1 e.1 && Nat.beq x.2.2.1 e.2.1 && Nat.beq x.2.2.2.1 e.2.2) = true := by decide +kernel
theorem tb_cl_get {ci : Nat} (h : ci < 11) : tb_cl[ci]? = some (tb_nm.getD ci "", tb_u ci, (tb_Fs.getD ci []).length) := by
  match ci, h with
  | 0, _ => rfl
  | 1, _ => rfl
  | 2, _ => rfl
  | 3, _ => rfl
  | 4, _ => rfl
  | 5, _ => rfl
  | 6, _ => rfl
  | 7, _ => rfl
  | 8, _ => rfl
  | 9, _ => rfl
  | 10, _ => rfl
theorem tb_g2 (own k : Nat) (f : Nat × Nat) (h : pFld PP own k = some f) : ∃ (F : u_T) (N : Nat), tb_cl[f.1]? = some (pNm PP f.1, F, N) ∧ f.2 < N ∧ Cond.fieldLink (pNm PP own) k (F f.2).1 (F f.2).2.1 (F f.2).2.2.1 ∈ lw_good ∧ pFin PP f.1 f.2 = (F f.2).2.2.2 ∧ (F f.2).1 = pNm PP f.1 := by
  obtain ⟨h1, h2⟩ := tb_look (t := tb_fs) h
  have h3 := List.all_eq_true.mp (List.all_eq_true.mp tb_fcov own (List.mem_range.mpr h1)) _ h2
  obtain ⟨x, hx, hb⟩ := List.any_eq_true.mp h3
  simp only [Bool.and_eq_true] at hb
  obtain ⟨⟨⟨b1, b2⟩, b3⟩, b4⟩ := hb
  obtain ⟨x1, x2, x3, x4, x5⟩ := x
  have e1 : x1 = own := Nat.eq_of_beq_eq_true b1
  have e2 : x2 = k := Nat.eq_of_beq_eq_true b2
  have e3 : x3 = f.1 := Nat.eq_of_beq_eq_true b3
  have e4 : x4 = f.2 := Nat.eq_of_beq_eq_true b4
  subst e1; subst e2; subst e3; subst e4
  have h4 := tb_fp_ok _ hx
  unfold tb_fok at h4
  simp only [Bool.and_eq_true, decide_eq_true_eq] at h4
  obtain ⟨⟨⟨g1, g2⟩, g3⟩, g4⟩ := h4
  exact ⟨tb_u f.1, _, tb_cl_get g2, g1, lw_in _ g3 rfl, rfl, g4⟩
theorem tb_lay0 : (List.range 16).all (fun k => decide (lw_tbl[([231, 233, 235, 237, 239, 241, 243, 245, 247, 249, 251, 253, 255, 257, 259, 261] : List Nat).getD k 0]? = some (u_lay (tb_nm.getD 0 "") (tb_u 0) k)) && goodWord (u_lay (tb_nm.getD 0 "") (tb_u 0) k)) = true := by decide +kernel
theorem tb_ty0 : ∀ k, k < 16 → parseFieldDescriptor (tb_u 0 k).2.2.1 = some (pTy PP 0 k) := by decide +kernel
theorem tb_nm0 : ∀ a, a < 16 → ∀ b, b < 16 → a ≠ b → (tb_u 0 a).2.1 ≠ (tb_u 0 b).2.1 := by decide +kernel
theorem tb_in0 : Cond.instantiable (tb_nm.getD 0 "") 16 ∈ lw_good := lw_in 178 (by decide +kernel) rfl
theorem tb_it0 : Cond.initialized (tb_nm.getD 0 "") ∈ lw_good := lw_in 115 (by decide +kernel) rfl
theorem tb_lay1 : (List.range 3).all (fun k => decide (lw_tbl[([425, 427, 429] : List Nat).getD k 0]? = some (u_lay (tb_nm.getD 1 "") (tb_u 1) k)) && goodWord (u_lay (tb_nm.getD 1 "") (tb_u 1) k)) = true := by decide +kernel
theorem tb_ty1 : ∀ k, k < 3 → parseFieldDescriptor (tb_u 1 k).2.2.1 = some (pTy PP 1 k) := by decide +kernel
theorem tb_nm1 : ∀ a, a < 3 → ∀ b, b < 3 → a ≠ b → (tb_u 1 a).2.1 ≠ (tb_u 1 b).2.1 := by decide +kernel
theorem tb_in1 : Cond.instantiable (tb_nm.getD 1 "") 3 ∈ lw_good := lw_in 417 (by decide +kernel) rfl
theorem tb_it1 : Cond.initialized (tb_nm.getD 1 "") ∈ lw_good := lw_in 122 (by decide +kernel) rfl
theorem tb_lay2 : (List.range 2).all (fun k => decide (lw_tbl[([172, 174] : List Nat).getD k 0]? = some (u_lay (tb_nm.getD 2 "") (tb_u 2) k)) && goodWord (u_lay (tb_nm.getD 2 "") (tb_u 2) k)) = true := by decide +kernel
theorem tb_ty2 : ∀ k, k < 2 → parseFieldDescriptor (tb_u 2 k).2.2.1 = some (pTy PP 2 k) := by decide +kernel
theorem tb_nm2 : ∀ a, a < 2 → ∀ b, b < 2 → a ≠ b → (tb_u 2 a).2.1 ≠ (tb_u 2 b).2.1 := by decide +kernel
theorem tb_in2 : Cond.instantiable (tb_nm.getD 2 "") 2 ∈ lw_good := lw_in 163 (by decide +kernel) rfl
theorem tb_it2 : Cond.initialized (tb_nm.getD 2 "") ∈ lw_good := lw_in 114 (by decide +kernel) rfl
theorem tb_lay3 : (List.range 9).all (fun k => decide (lw_tbl[([476, 478, 480, 482, 484, 486, 488, 490, 492] : List Nat).getD k 0]? = some (u_lay (tb_nm.getD 3 "") (tb_u 3) k)) && goodWord (u_lay (tb_nm.getD 3 "") (tb_u 3) k)) = true := by decide +kernel
theorem tb_ty3 : ∀ k, k < 9 → parseFieldDescriptor (tb_u 3 k).2.2.1 = some (pTy PP 3 k) := by decide +kernel
theorem tb_nm3 : ∀ a, a < 9 → ∀ b, b < 9 → a ≠ b → (tb_u 3 a).2.1 ≠ (tb_u 3 b).2.1 := by decide +kernel
theorem tb_in3 : Cond.instantiable (tb_nm.getD 3 "") 9 ∈ lw_good := lw_in 455 (by decide +kernel) rfl
theorem tb_it3 : Cond.initialized (tb_nm.getD 3 "") ∈ lw_good := lw_in 124 (by decide +kernel) rfl
theorem tb_lay4 : (List.range 3).all (fun k => decide (lw_tbl[([504, 506, 508] : List Nat).getD k 0]? = some (u_lay (tb_nm.getD 4 "") (tb_u 4) k)) && goodWord (u_lay (tb_nm.getD 4 "") (tb_u 4) k)) = true := by decide +kernel
theorem tb_ty4 : ∀ k, k < 3 → parseFieldDescriptor (tb_u 4 k).2.2.1 = some (pTy PP 4 k) := by decide +kernel
theorem tb_nm4 : ∀ a, a < 3 → ∀ b, b < 3 → a ≠ b → (tb_u 4 a).2.1 ≠ (tb_u 4 b).2.1 := by decide +kernel
theorem tb_in4 : Cond.instantiable (tb_nm.getD 4 "") 3 ∈ lw_good := lw_in 496 (by decide +kernel) rfl
theorem tb_it4 : Cond.initialized (tb_nm.getD 4 "") ∈ lw_good := lw_in 125 (by decide +kernel) rfl
theorem tb_lay5 : (List.range 11).all (fun k => decide (lw_tbl[([392, 394, 396, 398, 400, 402, 404, 406, 408, 410, 412] : List Nat).getD k 0]? = some (u_lay (tb_nm.getD 5 "") (tb_u 5) k)) && goodWord (u_lay (tb_nm.getD 5 "") (tb_u 5) k)) = true := by decide +kernel
theorem tb_ty5 : ∀ k, k < 11 → parseFieldDescriptor (tb_u 5 k).2.2.1 = some (pTy PP 5 k) := by decide +kernel
theorem tb_nm5 : ∀ a, a < 11 → ∀ b, b < 11 → a ≠ b → (tb_u 5 a).2.1 ≠ (tb_u 5 b).2.1 := by decide +kernel
theorem tb_in5 : Cond.instantiable (tb_nm.getD 5 "") 11 ∈ lw_good := lw_in 318 (by decide +kernel) rfl
theorem tb_it5 : Cond.initialized (tb_nm.getD 5 "") ∈ lw_good := lw_in 117 (by decide +kernel) rfl
theorem tb_lay6 : (List.range 4).all (fun k => decide (lw_tbl[([150, 152, 154, 156] : List Nat).getD k 0]? = some (u_lay (tb_nm.getD 6 "") (tb_u 6) k)) && goodWord (u_lay (tb_nm.getD 6 "") (tb_u 6) k)) = true := by decide +kernel
theorem tb_ty6 : ∀ k, k < 4 → parseFieldDescriptor (tb_u 6 k).2.2.1 = some (pTy PP 6 k) := by decide +kernel
theorem tb_nm6 : ∀ a, a < 4 → ∀ b, b < 4 → a ≠ b → (tb_u 6 a).2.1 ≠ (tb_u 6 b).2.1 := by decide +kernel
theorem tb_in6 : Cond.instantiable (tb_nm.getD 6 "") 4 ∈ lw_good := lw_in 139 (by decide +kernel) rfl
theorem tb_it6 : Cond.initialized (tb_nm.getD 6 "") ∈ lw_good := lw_in 113 (by decide +kernel) rfl
theorem tb_lay7 : (List.range 9).all (fun k => decide (lw_tbl[([296, 298, 300, 302, 304, 306, 308, 310, 312] : List Nat).getD k 0]? = some (u_lay (tb_nm.getD 7 "") (tb_u 7) k)) && goodWord (u_lay (tb_nm.getD 7 "") (tb_u 7) k)) = true := by decide +kernel
theorem tb_ty7 : ∀ k, k < 9 → parseFieldDescriptor (tb_u 7 k).2.2.1 = some (pTy PP 7 k) := by decide +kernel
theorem tb_nm7 : ∀ a, a < 9 → ∀ b, b < 9 → a ≠ b → (tb_u 7 a).2.1 ≠ (tb_u 7 b).2.1 := by decide +kernel
theorem tb_in7 : Cond.instantiable (tb_nm.getD 7 "") 9 ∈ lw_good := lw_in 265 (by decide +kernel) rfl
theorem tb_it7 : Cond.initialized (tb_nm.getD 7 "") ∈ lw_good := lw_in 116 (by decide +kernel) rfl
theorem tb_lay8 : (List.range 5).all (fun k => decide (lw_tbl[([443, 445, 447, 449, 451] : List Nat).getD k 0]? = some (u_lay (tb_nm.getD 8 "") (tb_u 8) k)) && goodWord (u_lay (tb_nm.getD 8 "") (tb_u 8) k)) = true := by decide +kernel
theorem tb_ty8 : ∀ k, k < 5 → parseFieldDescriptor (tb_u 8 k).2.2.1 = some (pTy PP 8 k) := by decide +kernel
theorem tb_nm8 : ∀ a, a < 5 → ∀ b, b < 5 → a ≠ b → (tb_u 8 a).2.1 ≠ (tb_u 8 b).2.1 := by decide +kernel
theorem tb_in8 : Cond.instantiable (tb_nm.getD 8 "") 5 ∈ lw_good := lw_in 433 (by decide +kernel) rfl
theorem tb_it8 : Cond.initialized (tb_nm.getD 8 "") ∈ lw_good := lw_in 123 (by decide +kernel) rfl
theorem tb_lay9 : (List.range 18).all (fun k => decide (lw_tbl[([529, 531, 533, 535, 537, 539, 541, 543, 545, 547, 549, 551, 553, 555, 557, 559, 561, 563] : List Nat).getD k 0]? = some (u_lay (tb_nm.getD 9 "") (tb_u 9) k)) && goodWord (u_lay (tb_nm.getD 9 "") (tb_u 9) k)) = true := by decide +kernel
theorem tb_ty9 : ∀ k, k < 18 → parseFieldDescriptor (tb_u 9 k).2.2.1 = some (pTy PP 9 k) := by decide +kernel
theorem tb_nm9 : ∀ a, a < 18 → ∀ b, b < 18 → a ≠ b → (tb_u 9 a).2.1 ≠ (tb_u 9 b).2.1 := by decide +kernel
theorem tb_in9 : Cond.instantiable (tb_nm.getD 9 "") 18 ∈ lw_good := lw_in 131 (by decide +kernel) rfl
theorem tb_it9 : Cond.initialized (tb_nm.getD 9 "") ∈ lw_good := lw_in 112 (by decide +kernel) rfl
theorem tb_lay10 : (List.range 37).all (fun k => decide (lw_tbl[([1342, 1344, 1346, 1348, 1350, 1352, 1354, 1356, 1358, 1360, 1362, 1364, 1366, 1368, 1370, 1372, 1374, 1376, 1378, 1380, 1382, 1384, 1386, 1388, 1390, 1392, 1394, 1396, 1398, 1400, 1402, 1404, 1406, 1408, 1410, 1412, 1414] : List Nat).getD k 0]? = some (u_lay (tb_nm.getD 10 "") (tb_u 10) k)) && goodWord (u_lay (tb_nm.getD 10 "") (tb_u 10) k)) = true := by decide +kernel
theorem tb_ty10 : ∀ k, k < 37 → parseFieldDescriptor (tb_u 10 k).2.2.1 = some (pTy PP 10 k) := by decide +kernel
theorem tb_nm10 : ∀ a, a < 37 → ∀ b, b < 37 → a ≠ b → (tb_u 10 a).2.1 ≠ (tb_u 10 b).2.1 := by decide +kernel
theorem tb_in10 : Cond.instantiable (tb_nm.getD 10 "") 37 ∈ lw_good := lw_in 1296 (by decide +kernel) rfl
theorem tb_it10 : Cond.initialized (tb_nm.getD 10 "") ∈ lw_good := lw_in 126 (by decide +kernel) rfl
theorem tb_lays {ci n : Nat} {ps : List Nat} (h : (List.range n).all (fun k => decide (lw_tbl[ps.getD k 0]? = some (u_lay (tb_nm.getD ci "") (tb_u ci) k)) && goodWord (u_lay (tb_nm.getD ci "") (tb_u ci) k)) = true) : ∀ w ∈ u_ws (tb_nm.getD ci "") (tb_u ci) n, w ∈ lw_good := by
  intro w hw
  obtain ⟨k, hk, rfl⟩ := List.mem_map.mp hw
  have h1 := List.all_eq_true.mp h k hk
  simp only [Bool.and_eq_true, decide_eq_true_eq] at h1
  exact lw_in _ h1.1 h1.2
theorem tb_g3 (ci : Nat) (C : String) (F : u_T) (N : Nat) (h : tb_cl[ci]? = some (C, F, N)) : C = pNm PP ci ∧ N = pNf PP ci ∧ (∀ w ∈ u_ws C F N, w ∈ lw_good) ∧ (∀ k, k < N → parseFieldDescriptor (F k).2.2.1 = some (pTy PP ci k)) ∧ (∀ a, a < N → ∀ b, b < N → a ≠ b → (F a).2.1 ≠ (F b).2.1) ∧ Cond.instantiable C N ∈ lw_good ∧ Cond.initialized C ∈ lw_good := by
  have hlt : ci < 11 := (List.getElem?_eq_some_iff.mp h).1
  match ci, hlt, h with
  | 0, _, h => cases h; exact ⟨rfl, rfl, tb_lays tb_lay0, tb_ty0, tb_nm0, tb_in0, tb_it0⟩
  | 1, _, h => cases h; exact ⟨rfl, rfl, tb_lays tb_lay1, tb_ty1, tb_nm1, tb_in1, tb_it1⟩
  | 2, _, h => cases h; exact ⟨rfl, rfl, tb_lays tb_lay2, tb_ty2, tb_nm2, tb_in2, tb_it2⟩
  | 3, _, h => cases h; exact ⟨rfl, rfl, tb_lays tb_lay3, tb_ty3, tb_nm3, tb_in3, tb_it3⟩
  | 4, _, h => cases h; exact ⟨rfl, rfl, tb_lays tb_lay4, tb_ty4, tb_nm4, tb_in4, tb_it4⟩
  | 5, _, h => cases h; exact ⟨rfl, rfl, tb_lays tb_lay5, tb_ty5, tb_nm5, tb_in5, tb_it5⟩
  | 6, _, h => cases h; exact ⟨rfl, rfl, tb_lays tb_lay6, tb_ty6, tb_nm6, tb_in6, tb_it6⟩
  | 7, _, h => cases h; exact ⟨rfl, rfl, tb_lays tb_lay7, tb_ty7, tb_nm7, tb_in7, tb_it7⟩
  | 8, _, h => cases h; exact ⟨rfl, rfl, tb_lays tb_lay8, tb_ty8, tb_nm8, tb_in8, tb_it8⟩
  | 9, _, h => cases h; exact ⟨rfl, rfl, tb_lays tb_lay9, tb_ty9, tb_nm9, tb_in9, tb_it9⟩
  | 10, _, h => cases h; exact ⟨rfl, rfl, tb_lays tb_lay10, tb_ty10, tb_nm10, tb_in10, tb_it10⟩
def tb_kp : List (Nat × Nat × Value) := [(9, 139, .long (-1)), (3, 43, .int (100000)), (3, 116, .int (65536)), (5, 26, .retAddr 2), (5, 38, .long (32)), (6, 11, .double 3), (11, 32, .long (4294967295)), (10, 100, .long (-1)), (10, 132, .int (100000)), (10, 171, .retAddr 4), (10, 324, .long (9)), (10, 329, .long (5)), (10, 331, .long (3)), (10, 333, .long (16)), (10, 363, .long (60)), (10, 374, .long (20)), (10, 400, .long (12)), (10, 409, .int (65536)), (10, 428, .long (9999)), (12, 265, .int (1431655765)), (12, 266, .int (858993459)), (12, 267, .int (252645135)), (14, 9, .float 2), (14, 15, .float 1), (14, 38, .double 1), (14, 1053, .double 2)]
theorem tb_kp_ok : ∀ e ∈ tb_kp, am_cok TT e.1 e.2.1 e.2.2 := List.forall_mem_cons.mpr ⟨(lw_in 625 (by decide +kernel) rfl), List.forall_mem_cons.mpr ⟨(lw_in 1242 (by decide +kernel) rfl), List.forall_mem_cons.mpr ⟨(lw_in 1262 (by decide +kernel) rfl), List.forall_mem_cons.mpr ⟨(trivial), List.forall_mem_cons.mpr ⟨(lw_in 372 (by decide +kernel) rfl), List.forall_mem_cons.mpr ⟨(trivial), List.forall_mem_cons.mpr ⟨(lw_in 2002 (by decide +kernel) rfl), List.forall_mem_cons.mpr ⟨(lw_in 1455 (by decide +kernel) rfl), List.forall_mem_cons.mpr ⟨(lw_in 1494 (by decide +kernel) rfl), List.forall_mem_cons.mpr ⟨(trivial), List.forall_mem_cons.mpr ⟨(lw_in 1714 (by decide +kernel) rfl), List.forall_mem_cons.mpr ⟨(lw_in 1734 (by decide +kernel) rfl), List.forall_mem_cons.mpr ⟨(lw_in 1743 (by decide +kernel) rfl), List.forall_mem_cons.mpr ⟨(lw_in 1744 (by decide +kernel) rfl), List.forall_mem_cons.mpr ⟨(lw_in 1857 (by decide +kernel) rfl), List.forall_mem_cons.mpr ⟨(lw_in 1886 (by decide +kernel) rfl), List.forall_mem_cons.mpr ⟨(lw_in 1939 (by decide +kernel) rfl), List.forall_mem_cons.mpr ⟨(lw_in 1973 (by decide +kernel) rfl), List.forall_mem_cons.mpr ⟨(lw_in 1956 (by decide +kernel) rfl), List.forall_mem_cons.mpr ⟨(lw_in 909 (by decide +kernel) rfl), List.forall_mem_cons.mpr ⟨(lw_in 910 (by decide +kernel) rfl), List.forall_mem_cons.mpr ⟨(lw_in 911 (by decide +kernel) rfl), List.forall_mem_cons.mpr ⟨(lw_in 2003 (by decide +kernel) rfl), List.forall_mem_cons.mpr ⟨(lw_in 2004 (by decide +kernel) rfl), List.forall_mem_cons.mpr ⟨(lw_in 332 (by decide +kernel) rfl), List.forall_mem_cons.mpr ⟨(lw_in 348 (by decide +kernel) rfl), fun _ h => absurd h List.not_mem_nil⟩⟩⟩⟩⟩⟩⟩⟩⟩⟩⟩⟩⟩⟩⟩⟩⟩⟩⟩⟩⟩⟩⟩⟩⟩⟩
theorem tb_kcov : (List.range 19).all (fun own => (tb_ks.getD own []).all fun e => tb_kp.any fun x => decide (x = (own, e.1, e.2))) = true := by decide +kernel
theorem tb_g4 (own k : Nat) (v : Value) (h : pCst PP own k = some v) : am_cok TT own k v := by
  obtain ⟨h1, h2⟩ := tb_look (t := tb_ks) h
  have h3 := List.all_eq_true.mp (List.all_eq_true.mp tb_kcov own (List.mem_range.mpr h1)) _ h2
  obtain ⟨x, hx, hb⟩ := List.any_eq_true.mp h3
  have e := of_decide_eq_true hb
  subst e
  exact tb_kp_ok _ hx
def tb_cp : List (Nat × Nat × Nat × Nat) := [(9, 13, 6, 138), (9, 20, 2, 162), (9, 27, 0, 177), (9, 34, 7, 264), (9, 55, 5, 317), (9, 64, 1, 416), (9, 73, 8, 432), (9, 82, 3, 454), (9, 92, 4, 495), (11, 7, 9, 130), (11, 10, 10, 1295)]
theorem tb_cp_ok : tb_cp.all (fun e => decide (e.2.2.1 < 11) && decide (lw_tbl[e.2.2.2]? = some (Cond.classLink (tb_nm.getD e.1 "") e.2.1 (tb_nm.getD e.2.2.1 "")))) = true := by decide +kernel
theorem tb_ccov : (List.range 19).all (fun own => (tb_cs.getD own []).all fun e => tb_cp.any fun x => Nat.beq x.1 own && Nat.beq x.2.1 e.1 && Nat.beq x.2.2.1 e.2) = true := by decide +kernel
theorem tb_g5 (own k ci : Nat) (h : pCls PP own k = some ci) : ∃ (F : u_T) (N : Nat), tb_cl[ci]? = some (pNm PP ci, F, N) ∧ Cond.classLink (pNm PP own) k (pNm PP ci) ∈ lw_good := by
  obtain ⟨h1, h2⟩ := tb_look (t := tb_cs) h
  have h3 := List.all_eq_true.mp (List.all_eq_true.mp tb_ccov own (List.mem_range.mpr h1)) _ h2
  obtain ⟨x, hx, hb⟩ := List.any_eq_true.mp h3
  simp only [Bool.and_eq_true] at hb
  obtain ⟨⟨b1, b2⟩, b3⟩ := hb
  obtain ⟨x1, x2, x3, x4⟩ := x
  have e1 : x1 = own := Nat.eq_of_beq_eq_true b1
  have e2 : x2 = k := Nat.eq_of_beq_eq_true b2
  have e3 : x3 = ci := Nat.eq_of_beq_eq_true b3
  subst e1; subst e2; subst e3
  have h4 := List.all_eq_true.mp tb_cp_ok _ hx
  simp only [Bool.and_eq_true, decide_eq_true_eq] at h4
  exact ⟨tb_u x3, _, tb_cl_get h4.1, lw_in _ h4.2 rfl⟩
