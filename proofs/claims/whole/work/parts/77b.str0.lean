/-! The length and the letters of the class's text, over any shape; its words' codes: printed by wip/gen/str0.py. -/
theorem e0_J0_length_8abf5 {E : am_E} {d : Nat} {K : am_K} {Sl : List am_Shp} {f : Nat → Nat → Option Nat} {mi : Nat → Nat → Int32} {ml : Nat → Nat → Int64}  (hE0 : 0 < E.2.1) (h : (narrow .byte (.int (nI 0)) = .int (nI 0)) ∧ (K (some (.int ((Int32.ofNat (E.2.2.1 0)) >>> ms (nI 0)))) ((Sl, f), mi, ml))) : am_call PP E (d + 2) 329 [.retAddr 2] ((Sl, f), mi, ml) K :=
  q_ent0 (L' := [.retAddr 2]) rfl rfl rfl rfl ⟨rfl, rfl⟩ (q_aload_nT (f_329 rfl) rfl (q_sva (j := 0) (f_329 rfl) rfl rfl hE0 (q_alenT (j := 0) (f_329 rfl) hE0 (q_aload_nT (f_329 rfl) rfl (q_callV (y' := 331) (as := [.retAddr 2]) (rest := [.int (Int32.ofNat (E.2.2.1 0))]) (f_329 rfl) rfl rfl rfl rfl rfl ⟨rfl, rfl⟩ ⟨0, rfl, hE0, rfl⟩ (q_ent0 (L' := [.retAddr 2]) rfl rfl rfl rfl ⟨rfl, rfl⟩ (q_gs1 (f_331 rfl) rfl (q_if_eq (f_331 rfl) (fun q => absurd q (by decide)) (fun _ => (q_aload_nT (f_331 rfl) rfl (q_sco (j := 0) (f_331 rfl) rfl rfl hE0 (q_goto (f_331 rfl) (q_ret0 (f_331 rfl) rfl h.1 (q_ishr (f_329 rfl) (q_ret0 (f_329 rfl) rfl trivial h.2)))))))))))))))
theorem e0_J0_charAt_5068e {E : am_E} {d : Nat} {K : am_K} {Sl : List am_Shp} {f : Nat → Nat → Option Nat} {mi : Nat → Nat → Int32} {ml : Nat → Nat → Int64} {x1 : Int32} (hE0 : 0 < E.2.1) (h : (x1 < (nI 0) → (False)) ∧ (¬ (x1 < (nI 0)) → ((x1 < (Int32.ofNat (E.2.2.1 0)) → ((vp_in x1 (E.2.2.1 0)) ∧ ((narrow .char (.int (UInt32.toInt32 (Int32.toUInt32 ((E.2.2.2 0 (Int32.toNatClampNeg x1)) &&& (nI 255)) % 65536))) = .int (UInt32.toInt32 (Int32.toUInt32 ((E.2.2.2 0 (Int32.toNatClampNeg x1)) &&& (nI 255)) % 65536))) ∧ ((narrow .char (.int (UInt32.toInt32 (Int32.toUInt32 ((E.2.2.2 0 (Int32.toNatClampNeg x1)) &&& (nI 255)) % 65536))) = .int (UInt32.toInt32 (Int32.toUInt32 ((E.2.2.2 0 (Int32.toNatClampNeg x1)) &&& (nI 255)) % 65536))) ∧ (K (some (.int (UInt32.toInt32 (Int32.toUInt32 ((E.2.2.2 0 (Int32.toNatClampNeg x1)) &&& (nI 255)) % 65536)))) ((Sl, f), mi, ml)))))) ∧ (¬ (x1 < (Int32.ofNat (E.2.2.1 0))) → (False))))) : am_call PP E (d + 5) 330 [.retAddr 2, .int x1] ((Sl, f), mi, ml) K :=
  q_ent0 (L' := [.retAddr 2, .int x1]) rfl rfl rfl rfl ⟨rfl, rfl⟩ (q_aload_nT (f_330 rfl) rfl (q_callV (y' := 332) (as := [.retAddr 2]) (rest := []) (f_330 rfl) rfl rfl rfl rfl rfl ⟨rfl, rfl⟩ ⟨0, rfl, hE0, rfl⟩ (q_ent0 (L' := [.retAddr 2]) rfl rfl rfl rfl ⟨rfl, rfl⟩ (q_gs1 (f_332 rfl) rfl (q_if_eq (f_332 rfl) (fun q => absurd q (by decide)) (fun _ => (q_aload_nT (f_332 rfl) rfl (q_sco (j := 0) (f_332 rfl) rfl rfl hE0 (q_if_ne (f_332 rfl) (fun q => absurd q (by decide)) (fun _ => (q_iconst (f_332 rfl) kc_1 (q_goto (f_332 rfl) (q_ret0 (f_332 rfl) rfl (Or.inr rfl) (q_if_eq (f_330 rfl) (fun q => absurd q (by decide)) (fun _ => (q_aload_nT (f_330 rfl) rfl (q_sva (j := 0) (f_330 rfl) rfl rfl hE0 (q_iload_n (f_330 rfl) rfl (q_callS (y' := 330) (as := [.retAddr 3, .int x1]) (rest := []) (f_330 rfl) rfl rfl rfl rfl rfl ⟨rfl, rfl⟩ trivial (q_ent0 (L' := [.retAddr 3, .int x1]) rfl rfl rfl rfl ⟨rfl, rfl⟩ (q_iload_n (f_334 rfl) rfl (q_aload_nT (f_334 rfl) rfl (q_alenT (j := 0) (f_334 rfl) hE0 (q_callS (y' := 329) (as := [.int x1, .int (Int32.ofNat (E.2.2.1 0))]) (rest := []) (f_334 rfl) rfl rfl rfl rfl rfl ⟨rfl, rfl⟩ trivial (q_ent0 (L' := [.int x1, .int (Int32.ofNat (E.2.2.1 0))]) rfl rfl rfl rfl ⟨rfl, rfl⟩ (q_iload_n (f_333 rfl) rfl (q_iload_n (f_333 rfl) rfl (q_gs2 (f_333 rfl) rfl (q_callS (y' := 335) (as := [.int x1, .int (Int32.ofNat (E.2.2.1 0)), .retAddr 1]) (rest := []) (f_333 rfl) rfl rfl rfl rfl rfl ⟨rfl, rfl⟩ trivial (q_ent0 (L' := [.int x1, .int (Int32.ofNat (E.2.2.1 0)), .retAddr 1]) rfl rfl rfl rfl ⟨rfl, rfl⟩ (q_iload_n (f_339 rfl) rfl (q_if_lt (f_339 rfl) (fun q1 => (q_aload_nT (f_339 rfl) rfl (q_iload_n (f_339 rfl) rfl (q_iload_n (f_339 rfl) rfl (False.elim (h.1 q1)))))) (fun q1 => (q_iload_n (f_339 rfl) rfl (q_iload_n (f_339 rfl) rfl (q_ic_lt (f_339 rfl) (fun q2 => (q_iload_n (f_339 rfl) rfl (q_ret0 (f_339 rfl) rfl trivial (q_popI (f_333 rfl) (q_vret0 (f_333 rfl) rfl  (q_aload_nT (f_334 rfl) rfl (q_iload_n (f_334 rfl) rfl (q_baldT (j := 0) (f_334 rfl) hE0 ((h.2 q1).1 q2).1 (q_sipush (f_334 rfl) ks_255 (q_iand (f_334 rfl) (q_i2c (f_334 rfl) (q_ret0 (f_334 rfl) rfl ((h.2 q1).1 q2).2.1 (q_ret0 (f_330 rfl) rfl ((h.2 q1).1 q2).2.2.1 ((h.2 q1).1 q2).2.2.2))))))))))))) (fun q2 => (q_aload_nT (f_339 rfl) rfl (q_iload_n (f_339 rfl) rfl (q_iload_n (f_339 rfl) rfl (False.elim ((h.2 q1).2 q2))))))))))))))))))))))))))))))))))))))))))
def kch0 (j : Nat) : Nat := ([112, 108, 97, 110, 107, 32, 104, 97, 98, 105, 116, 32, 111, 100, 100, 115, 32, 115, 105, 103, 110, 32, 112, 117, 108, 108, 115, 32, 115, 104, 111, 119, 110, 32, 112, 101, 114, 115, 111, 110, 32, 104, 111, 108, 100, 115, 32, 111, 117, 116, 32, 97, 103, 97, 105, 110, 115, 116, 32, 98, 108, 105, 110, 100, 32, 99, 97, 108, 108, 32, 115, 104, 111, 119, 32, 104, 105, 100, 101, 32, 98, 111, 97, 114, 100, 32, 115, 119, 97, 121, 32, 97, 110, 121, 32, 119, 104, 101, 110, 32, 115, 104, 111, 119, 115, 32, 108, 111, 111, 112, 32, 101, 110, 100, 32, 115, 116, 111, 112] : List Nat).getD j 0
def T0 (E : am_E) : Prop := 0 < E.2.1 ∧ E.2.2.1 0 = 119 ∧ ∀ j, j < 119 → E.2.2.2 0 j = nI (kch0 j)
theorem kch0_lt : ∀ j, j < 119 → kch0 j < 128 := by decide +kernel
theorem e0_len {E : am_E} {d : Nat} {K : am_K} {Sl : List am_Shp} {f : Nat → Nat → Option Nat} {mi : Nat → Nat → Int32} {ml : Nat → Nat → Int64} (hT : T0 E) (hk : K (some (.int (nI 119))) ((Sl, f), mi, ml)) : am_call PP E (d + 2) 329 [.retAddr 2] ((Sl, f), mi, ml) K := by
  apply e0_J0_length_8abf5 hT.1
  rw [hT.2.1]
  exact ⟨nr_b0, hk⟩
theorem e0_chr {E : am_E} {d : Nat} {K : am_K} {Sl : List am_Shp} {f : Nat → Nat → Option Nat} {mi : Nat → Nat → Int32} {ml : Nat → Nat → Int64} (hT : T0 E) {j : Nat} (hj : j < 119) (hk : K (some (.int (nI (kch0 j)))) ((Sl, f), mi, ml)) : am_call PP E (d + 5) 330 [.retAddr 2, .int (nI j)] ((Sl, f), mi, ml) K := by
  have hc := kch0_lt j hj
  apply e0_J0_charAt_5068e hT.1
  rw [hT.2.1, ni_cl (by omega), hT.2.2 j hj, ch_val _ hc, show Int32.ofNat 119 = nI 119 from rfl, ni_lt (by omega) (by omega), ni_lt (by omega) (by omega)]
  exact br_f (by omega) (br_t hj ⟨by rw [ni_in (by omega)]; exact hj, ch_nar _ hc, ch_nar _ hc, hk⟩)
/-- which word, and the words' codes, behind so many letters -/
def wdn : Nat → Nat
  | 0 => 0
  | i + 1 => if kch0 i = 32 then wdn i + 1 else wdn i
def wac : Nat → Nat → Nat
  | 0, _ => 0
  | i + 1, k => if kch0 i = 32 then wac i k else if k = wdn i then wac i k * 32 + (kch0 i - 96) else wac i k
theorem wdn_lt : ∀ i, i < 119 → wdn i < 22 := by decide +kernel
theorem wac_all : ∀ k, k < 22 → wac 119 k = kwc k := by decide +kernel
theorem kch0_let : ∀ j, j < 119 → kch0 j = 32 ∨ 97 ≤ kch0 j := by decide +kernel

theorem ini_X5_46 {E : am_E} {d : Nat} {K : am_K} {f : Nat → Nat → Option Nat} {mi : Nat → Nat → Int32} {ml : Nat → Nat → Int64} (hT : T0 E) (h0 : ∀ i, ml 47 i = 0) (h : ∀ ml5, (∀ i, i < 22 → ml5 47 i = lN (kwc i)) → (∀ k j, k ≠ 47 → ml5 k j = ml k j) → K none ((Sh 48, rfS (rfS f 46 1 47) 46 0 1), am_si (am_si mi 46 9 nM) 46 10 nM, ml5)) : am_call PP E (d + 6) 73 [.ref 46, .ref 1] ((Sh 47, f), mi, ml) K := by
  refine q_ent (L' := [.ref 46, .ref 1, am_mk, am_mk, am_mk]) (n1 := 48) (z1 := 2109) rfl rfl rfl rfl rfl (by rw [sz_47]; rfl) ?_
  refine q_aload_n (f_73 rfl) rfl (q_obj (f_73 rfl) rfl rfl (q_aload_n (f_73 rfl) rfl (q_bipush (v := nI 22) (f_73 rfl) rfl (q_newa (N := 22) (Sl' := Sh 48) (f_73 rfl) rfl (by decide) rfl sl_47 sz_47 rfl rfl rfl (q_putR (f_73 rfl) rfl rfl rfl rfl (q_aload_n (f_73 rfl) rfl (q_iconst (v := nM) (f_73 rfl) rfl (q_putI (f_73 rfl) rfl rfl rfl rfl trivial (q_aload_n (f_73 rfl) rfl (q_iconst (v := nM) (f_73 rfl) rfl (q_putI (f_73 rfl) rfl rfl rfl rfl trivial (q_aload_n (f_73 rfl) rfl (q_aload_n (f_73 rfl) rfl (q_putR (f_73 rfl) rfl rfl rfl rfl (q_iconst (v := nI 0) (f_73 rfl) rfl (q_istore_n (L' := [.ref 46, .ref 1, .int (nI 0), am_mk, am_mk]) (f_73 rfl) rfl rfl (q_iconst (v := nI 0) (f_73 rfl) rfl (q_istore_n (L' := [.ref 46, .ref 1, .int (nI 0), .int (nI 0), am_mk]) (f_73 rfl) rfl rfl ?_))))))))))))))))))
  have key : ∀ i, i ≤ 119 → ∀ l, (∀ k, k < 22 → l 47 k = lN (wac i k)) → (∀ k j, k ≠ 47 → l k j = ml k j) → qw E (d + 5) 73 (48, 2109) (kz 48 2109 K) (Sh 48) (rfS (rfS f 46 1 47) 46 0 1) 31 [.ref 46, .ref 1, .int (nI (wdn i)), .int (nI i), am_mk] [] (am_si (am_si mi 46 9 nM) 46 10 nM) l := by
    refine dn_ind 119 (fun i hi ih l hl hf => ?_)
    refine q_iload_n (f_73 rfl) rfl (q_ldcT (f_73 rfl) rfl (q_callV (y' := 329) (as := [.retAddr 2]) (rest := [.int (nI i)]) (f_73 rfl) rfl rfl rfl rfl rfl ⟨rfl, rfl⟩ ⟨0, rfl, hT.1, rfl⟩ (e0_len hT ?_)))
    refine q_ic_ge (f_73 rfl) (fun q => ?_) (fun q => ?_)
    · rw [ni_le (by omega) (by omega)] at q
      have ei : i = 119 := by omega
      subst ei
      exact q_vret (f_73 rfl) rfl sl_48 sz_48 (h l (fun k hk => by rw [hl k hk, wac_all k hk]) hf)
    · rw [ni_le (by omega) (by omega)] at q
      have hi2 : i < 119 := by omega
      have hw := wdn_lt i hi2
      have hcl := kch0_lt i hi2
      have hin : vp_in (nI (wdn i)) 22 := by rw [ni_in (by omega)]; exact hw
      refine q_iload_n (f_73 rfl) rfl (q_bipush (v := nI 22) (f_73 rfl) rfl (q_ic_ge (f_73 rfl) (fun q2 => ?_) (fun q2 => ?_)))
      · rw [ni_le (by omega) (by omega)] at q2; omega
      refine q_ldcT (f_73 rfl) rfl (q_iload_n (f_73 rfl) rfl (q_callV (y' := 330) (as := [.retAddr 2, .int (nI i)]) (rest := []) (f_73 rfl) rfl rfl rfl rfl rfl ⟨rfl, rfl⟩ ⟨0, rfl, hT.1, rfl⟩ (e0_chr hT hi2 ?_)))
      refine q_istore (L' := [.ref 46, .ref 1, .int (nI (wdn i)), .int (nI i), .int (nI (kch0 i))]) (f_73 rfl) rfl rfl (q_iload (f_73 rfl) rfl (q_bipush (v := nI 32) (f_73 rfl) rfl (q_ic_ne (f_73 rfl) (fun q3 => ?_) (fun q3 => ?_))))
      · rw [ni_eq (by omega) (by omega)] at q3
        have h97 := (kch0_let i hi2).resolve_left q3
        refine q_aload_n (f_73 rfl) rfl (q_getR (b := 47) (f_73 rfl) rfl rfl rfl rfl (q_iload_n (f_73 rfl) rfl (q_aload_n (f_73 rfl) rfl (q_getR (b := 47) (f_73 rfl) rfl rfl rfl rfl (q_iload_n (f_73 rfl) rfl (q_laldK (j := wdn i) (f_73 rfl) rfl hin (ni_cl (by omega)) (q_ldc2 (v := 32) (f_73 rfl) rfl (q_lmul (f_73 rfl) (q_iload (f_73 rfl) rfl (q_bipush (v := nI 97) (f_73 rfl) rfl (q_isub (f_73 rfl) (q_iconst (v := nI 1) (f_73 rfl) rfl (q_iadd (f_73 rfl) (q_i2l (f_73 rfl) (q_ladd (f_73 rfl) (q_last (f_73 rfl) rfl hin ?_))))))))))))))))
        refine q_iinc (L' := [.ref 46, .ref 1, .int (nI (wdn i)), .int (nI i + nI 1), .int (nI (kch0 i))]) (v := nI 1) (f_73 rfl) rfl rfl rfl rfl (q_goto (f_73 rfl) ?_)
        have ew : wdn (i + 1) = wdn i := by
          show (if kch0 i = 32 then wdn i + 1 else wdn i) = wdn i
          rw [if_neg q3]
        have hn := ih hi2 (am_sj l 47 (wdn i) (lN (wac i (wdn i) * 32 + (kch0 i - 96)))) (fun k hk => by
          show _ = lN (if kch0 i = 32 then wac i k else if k = wdn i then wac i k * 32 + (kch0 i - 96) else wac i k)
          rw [if_neg q3]
          by_cases ek : k = wdn i
          · rw [if_pos ek, ek, sj_t ⟨rfl, rfl⟩]
          · rw [if_neg ek, sj_f (by omega)]; exact hl k hk) (fun k j hk => by rw [sj_f (by omega)]; exact hf k j hk)
        rw [ew] at hn
        rw [ni_cl (by omega), hl _ hw, ni_sub (by omega), nI_add, nI_add, nI_l (by omega), lN_32, lN_mul, lN_add, show kch0 i - 97 + 1 = kch0 i - 96 by omega]
        exact am_wp_weak (am_call_mono _) (am_le_cons (am_le_cons (am_le_cons (am_le_cons (am_le_mk am_le_nil))))) hn
      · rw [ni_eq (by omega) (by omega)] at q3
        have q3' := Classical.byContradiction q3
        refine q_iinc (L' := [.ref 46, .ref 1, .int (nI (wdn i) + nI 1), .int (nI i), .int (nI (kch0 i))]) (v := nI 1) (f_73 rfl) rfl rfl rfl rfl (q_goto (f_73 rfl) (q_iinc (L' := [.ref 46, .ref 1, .int (nI (wdn i) + nI 1), .int (nI i + nI 1), .int (nI (kch0 i))]) (v := nI 1) (f_73 rfl) rfl rfl rfl rfl (q_goto (f_73 rfl) ?_)))
        have ew : wdn (i + 1) = wdn i + 1 := by
          show (if kch0 i = 32 then wdn i + 1 else wdn i) = wdn i + 1
          rw [if_pos q3']
        have hn := ih hi2 l (fun k hk => by
          show _ = lN (if kch0 i = 32 then wac i k else if k = wdn i then wac i k * 32 + (kch0 i - 96) else wac i k)
          rw [if_pos q3']; exact hl k hk) hf
        rw [ew] at hn
        rw [nI_add, nI_add]
        exact am_wp_weak (am_call_mono _) (am_le_cons (am_le_cons (am_le_cons (am_le_cons (am_le_mk am_le_nil))))) hn
  exact key 0 (by omega) ml (fun k hk => h0 k) (fun _ _ _ => rfl)

