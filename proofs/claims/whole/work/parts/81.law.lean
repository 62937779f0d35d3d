/-! The law's loop: printed by wip/gen/lawp.py. -/
section
variable {E : am_E} {K : am_K} {i : Nat} {mi : Nat → Nat → Int32} {ml : Nat → Nat → Int64}
theorem lw_v {j : Nat} (hi : i + 6 ≤ E.1.1) (hL : E.1.1 ≤ 3072) (hj : j < 6) : vp_in (nI i + nI j) E.1.1 := by rw [nI_add, ni_in (by omega)]; omega
theorem lgc_0 (x : Int64) : lg_cmp x x = nI 0 := lgc_eq.mpr rfl
theorem lw_c0 (hE : EK E) (hI : INV mi ml) (hi : i + 6 ≤ E.1.1) (hL : E.1.1 ≤ 3072) (hk : ∀ mi ml, INV mi ml → rn E 14 340 K 1972 [.retAddr 0, .ref 0, .ref 106, .int (nI i)] [] mi ml) : rn E 14 340 K 284 [.retAddr 0, .ref 0, .ref 106, .int (nI i)] [] mi ml := by
  apply rg_L_law_284 (d := 1)
  apply cq_int (d := 13) ⟨_, rfl, fun z => by cases z⟩
  refine op_status hI (fun r mi1 ml1 hm hx => ?_)
  obtain ⟨x, hx⟩ := hx
  obtain rfl : r = .int x := Option.some.inj hx
  apply rg_L_law_288 (d := 1)
  refine ?_
  refine hm _ (fun mi2 ml2 hI2 => ?_)
  apply rg_L_law_292 (d := 1)
  exact br_t rfl (hk mi2 ml2 hI2)
theorem lw_c1 (hE : EK E) (hI : INV mi ml) (hi : i + 6 ≤ E.1.1) (hL : E.1.1 ≤ 3072) (hk : ∀ mi ml, INV mi ml → rn E 14 340 K 1972 [.retAddr 0, .ref 0, .ref 106, .int (nI i)] [] mi ml) : rn E 14 340 K 297 [.retAddr 0, .ref 0, .ref 106, .int (nI i)] [] mi ml := by
  apply rg_L_law_297 (d := 1)
  apply cq_long (d := 13) rfl
  refine op_top hI (fun r mi1 ml1 hm hx => ?_)
  obtain ⟨x, hx⟩ := hx
  obtain rfl : r = .long x := Option.some.inj hx
  apply rg_L_law_301 (d := 1)
  refine ?_
  refine hm _ (fun mi2 ml2 hI2 => ?_)
  apply rg_L_law_305 (d := 1)
  exact br_t (lgc_0 _) (hk mi2 ml2 hI2)
theorem lw_c2 (hE : EK E) (hI : INV mi ml) (hi : i + 6 ≤ E.1.1) (hL : E.1.1 ≤ 3072) (hk : ∀ mi ml, INV mi ml → rn E 14 340 K 1972 [.retAddr 0, .ref 0, .ref 106, .int (nI i)] [] mi ml) : rn E 14 340 K 311 [.retAddr 0, .ref 0, .ref 106, .int (nI i)] [] mi ml := by
  apply rg_L_law_311 (d := 1)
  apply cq_long (d := 13) rfl
  refine op_bottom hI (fun r mi1 ml1 hm hx => ?_)
  obtain ⟨x, hx⟩ := hx
  obtain rfl : r = .long x := Option.some.inj hx
  apply rg_L_law_315 (d := 1)
  refine ?_
  refine hm _ (fun mi2 ml2 hI2 => ?_)
  apply rg_L_law_319 (d := 1)
  exact br_t (lgc_0 _) (hk mi2 ml2 hI2)
theorem lw_c3 (hE : EK E) (hI : INV mi ml) (hi : i + 6 ≤ E.1.1) (hL : E.1.1 ≤ 3072) (hk : ∀ mi ml, INV mi ml → rn E 14 340 K 1972 [.retAddr 0, .ref 0, .ref 106, .int (nI i)] [] mi ml) : rn E 14 340 K 325 [.retAddr 0, .ref 0, .ref 106, .int (nI i)] [] mi ml := by
  apply rg_L_law_325 (d := 1)
  refine ⟨lw_v hi hL (by omega), lw_v hi hL (by omega), lw_v hi hL (by omega), ?_⟩
  apply cq_int (d := 13) ⟨_, rfl, fun z => by cases z⟩
  refine op_tray hI (fun r mi1 ml1 hm hx => ?_)
  obtain ⟨x, hx⟩ := hx
  obtain rfl : r = .int x := Option.some.inj hx
  apply rg_L_law_344 (d := 1)
  refine ⟨lw_v hi hL (by omega), lw_v hi hL (by omega), lw_v hi hL (by omega), ?_⟩
  refine hm _ (fun mi2 ml2 hI2 => ?_)
  apply rg_L_law_363 (d := 1)
  exact br_t rfl (hk mi2 ml2 hI2)
theorem lw_c4 (hE : EK E) (hI : INV mi ml) (hi : i + 6 ≤ E.1.1) (hL : E.1.1 ≤ 3072) (hk : ∀ mi ml, INV mi ml → rn E 14 340 K 1972 [.retAddr 0, .ref 0, .ref 106, .int (nI i)] [] mi ml) : rn E 14 340 K 368 [.retAddr 0, .ref 0, .ref 106, .int (nI i)] [] mi ml := by
  apply rg_L_law_368 (d := 1)
  refine ⟨lw_v hi hL (by omega), lw_v hi hL (by omega), lw_v hi hL (by omega), lw_v hi hL (by omega), ?_⟩
  apply cq_int (d := 13) ⟨_, rfl, fun z => by cases z⟩
  refine op_write hI (fun r mi1 ml1 hm hx => ?_)
  obtain ⟨x, hx⟩ := hx
  obtain rfl : r = .int x := Option.some.inj hx
  apply rg_L_law_402 (d := 1)
  refine ⟨lw_v hi hL (by omega), lw_v hi hL (by omega), lw_v hi hL (by omega), lw_v hi hL (by omega), ?_⟩
  refine hm _ (fun mi2 ml2 hI2 => ?_)
  apply rg_L_law_436 (d := 1)
  exact br_t rfl (hk mi2 ml2 hI2)
theorem lw_c5 (hE : EK E) (hI : INV mi ml) (hi : i + 6 ≤ E.1.1) (hL : E.1.1 ≤ 3072) (hk : ∀ mi ml, INV mi ml → rn E 14 340 K 1972 [.retAddr 0, .ref 0, .ref 106, .int (nI i)] [] mi ml) : rn E 14 340 K 441 [.retAddr 0, .ref 0, .ref 106, .int (nI i)] [] mi ml := by
  apply rg_L_law_441 (d := 1)
  refine ⟨lw_v hi hL (by omega), lw_v hi hL (by omega), ?_⟩
  apply cq_long (d := 13) rfl
  refine op_read hI (fun r mi1 ml1 hm hx => ?_)
  obtain ⟨x, hx⟩ := hx
  obtain rfl : r = .long x := Option.some.inj hx
  apply rg_L_law_455 (d := 1)
  refine ⟨lw_v hi hL (by omega), lw_v hi hL (by omega), ?_⟩
  refine hm _ (fun mi2 ml2 hI2 => ?_)
  apply rg_L_law_469 (d := 1)
  exact br_t (lgc_0 _) (hk mi2 ml2 hI2)
theorem lw_c6 (hE : EK E) (hI : INV mi ml) (hi : i + 6 ≤ E.1.1) (hL : E.1.1 ≤ 3072) (hk : ∀ mi ml, INV mi ml → rn E 14 340 K 1972 [.retAddr 0, .ref 0, .ref 106, .int (nI i)] [] mi ml) : rn E 14 340 K 475 [.retAddr 0, .ref 0, .ref 106, .int (nI i)] [] mi ml := by
  apply rg_L_law_475 (d := 1)
  refine ⟨lw_v hi hL (by omega), lw_v hi hL (by omega), lw_v hi hL (by omega), lw_v hi hL (by omega), lw_v hi hL (by omega), ?_⟩
  apply cq_int (d := 13) ⟨_, rfl, fun z => by cases z⟩
  refine op_pour hI (fun r mi1 ml1 hm hx => ?_)
  obtain ⟨x, hx⟩ := hx
  obtain rfl : r = .int x := Option.some.inj hx
  apply rg_L_law_504 (d := 1)
  refine ⟨lw_v hi hL (by omega), lw_v hi hL (by omega), lw_v hi hL (by omega), lw_v hi hL (by omega), lw_v hi hL (by omega), ?_⟩
  refine hm _ (fun mi2 ml2 hI2 => ?_)
  apply rg_L_law_533 (d := 1)
  exact br_t rfl (hk mi2 ml2 hI2)
theorem lw_c7 (hE : EK E) (hI : INV mi ml) (hi : i + 6 ≤ E.1.1) (hL : E.1.1 ≤ 3072) (hk : ∀ mi ml, INV mi ml → rn E 14 340 K 1972 [.retAddr 0, .ref 0, .ref 106, .int (nI i)] [] mi ml) : rn E 14 340 K 538 [.retAddr 0, .ref 0, .ref 106, .int (nI i)] [] mi ml := by
  apply rg_L_law_538 (d := 1)
  refine ⟨lw_v hi hL (by omega), lw_v hi hL (by omega), lw_v hi hL (by omega), lw_v hi hL (by omega), lw_v hi hL (by omega), ?_⟩
  apply cq_int (d := 13) ⟨_, rfl, fun z => by cases z⟩
  refine op_feed hI (fun r mi1 ml1 hm hx => ?_)
  obtain ⟨x, hx⟩ := hx
  obtain rfl : r = .int x := Option.some.inj hx
  apply rg_L_law_567 (d := 1)
  refine ⟨lw_v hi hL (by omega), lw_v hi hL (by omega), lw_v hi hL (by omega), lw_v hi hL (by omega), lw_v hi hL (by omega), ?_⟩
  refine hm _ (fun mi2 ml2 hI2 => ?_)
  apply rg_L_law_596 (d := 1)
  exact br_t rfl (hk mi2 ml2 hI2)
theorem lw_c8 (hE : EK E) (hI : INV mi ml) (hi : i + 6 ≤ E.1.1) (hL : E.1.1 ≤ 3072) (hk : ∀ mi ml, INV mi ml → rn E 14 340 K 1972 [.retAddr 0, .ref 0, .ref 106, .int (nI i)] [] mi ml) : rn E 14 340 K 601 [.retAddr 0, .ref 0, .ref 106, .int (nI i)] [] mi ml := by
  apply rg_L_law_601 (d := 1)
  refine ⟨lw_v hi hL (by omega), ?_⟩
  apply cq_int (d := 13) ⟨_, rfl, fun z => by cases z⟩
  refine op_boat hI hE (fun r mi1 ml1 hm hx => ?_)
  obtain ⟨x, hx⟩ := hx
  obtain rfl : r = .int x := Option.some.inj hx
  apply rg_L_law_610 (d := 1)
  refine ⟨lw_v hi hL (by omega), ?_⟩
  refine hm _ (fun mi2 ml2 hI2 => ?_)
  apply rg_L_law_619 (d := 1)
  exact br_t rfl (hk mi2 ml2 hI2)
theorem lw_c9 (hE : EK E) (hI : INV mi ml) (hi : i + 6 ≤ E.1.1) (hL : E.1.1 ≤ 3072) (hk : ∀ mi ml, INV mi ml → rn E 14 340 K 1972 [.retAddr 0, .ref 0, .ref 106, .int (nI i)] [] mi ml) : rn E 14 340 K 624 [.retAddr 0, .ref 0, .ref 106, .int (nI i)] [] mi ml := by
  apply rg_L_law_624 (d := 1)
  refine ⟨lw_v hi hL (by omega), ?_⟩
  apply cq_int (d := 13) ⟨_, rfl, fun z => by cases z⟩
  refine op_years hI hE (fun r mi1 ml1 hm hx => ?_)
  obtain ⟨x, hx⟩ := hx
  obtain rfl : r = .int x := Option.some.inj hx
  apply rg_L_law_633 (d := 1)
  refine ⟨lw_v hi hL (by omega), ?_⟩
  refine hm _ (fun mi2 ml2 hI2 => ?_)
  apply rg_L_law_642 (d := 1)
  exact br_t rfl (hk mi2 ml2 hI2)
theorem lw_c10 (hE : EK E) (hI : INV mi ml) (hi : i + 6 ≤ E.1.1) (hL : E.1.1 ≤ 3072) (hk : ∀ mi ml, INV mi ml → rn E 14 340 K 1972 [.retAddr 0, .ref 0, .ref 106, .int (nI i)] [] mi ml) : rn E 14 340 K 647 [.retAddr 0, .ref 0, .ref 106, .int (nI i)] [] mi ml := by
  apply rg_L_law_647 (d := 1)
  refine ⟨lw_v hi hL (by omega), ?_⟩
  apply cq_int (d := 13) ⟨_, rfl, fun z => by cases z⟩
  refine op_fault hI (fun r mi1 ml1 hm hx => ?_)
  obtain ⟨x, hx⟩ := hx
  obtain rfl : r = .int x := Option.some.inj hx
  apply rg_L_law_656 (d := 1)
  refine ⟨lw_v hi hL (by omega), ?_⟩
  refine hm _ (fun mi2 ml2 hI2 => ?_)
  apply rg_L_law_665 (d := 1)
  exact br_t rfl (hk mi2 ml2 hI2)
theorem lw_c11 (hE : EK E) (hI : INV mi ml) (hi : i + 6 ≤ E.1.1) (hL : E.1.1 ≤ 3072) (hk : ∀ mi ml, INV mi ml → rn E 14 340 K 1972 [.retAddr 0, .ref 0, .ref 106, .int (nI i)] [] mi ml) : rn E 14 340 K 670 [.retAddr 0, .ref 0, .ref 106, .int (nI i)] [] mi ml := by
  apply rg_L_law_670 (d := 1)
  refine ⟨lw_v hi hL (by omega), ?_⟩
  apply cq_int (d := 13) ⟨_, rfl, fun z => by cases z⟩
  refine op_told hI (fun r mi1 ml1 hm hx => ?_)
  obtain ⟨x, hx⟩ := hx
  obtain rfl : r = .int x := Option.some.inj hx
  apply rg_L_law_679 (d := 1)
  refine ⟨lw_v hi hL (by omega), ?_⟩
  refine hm _ (fun mi2 ml2 hI2 => ?_)
  apply rg_L_law_688 (d := 1)
  exact br_t rfl (hk mi2 ml2 hI2)
theorem lw_c12 (hE : EK E) (hI : INV mi ml) (hi : i + 6 ≤ E.1.1) (hL : E.1.1 ≤ 3072) (hk : ∀ mi ml, INV mi ml → rn E 14 340 K 1972 [.retAddr 0, .ref 0, .ref 106, .int (nI i)] [] mi ml) : rn E 14 340 K 693 [.retAddr 0, .ref 0, .ref 106, .int (nI i)] [] mi ml := by
  apply rg_L_law_693 (d := 1)
  refine ⟨lw_v hi hL (by omega), lw_v hi hL (by omega), ?_⟩
  apply cq_int (d := 13) ⟨_, rfl, fun z => by cases z⟩
  refine op_omen hI (fun r mi1 ml1 hm hx => ?_)
  obtain ⟨x, hx⟩ := hx
  obtain rfl : r = .int x := Option.some.inj hx
  apply rg_L_law_707 (d := 1)
  refine ⟨lw_v hi hL (by omega), lw_v hi hL (by omega), ?_⟩
  refine hm _ (fun mi2 ml2 hI2 => ?_)
  apply rg_L_law_721 (d := 1)
  exact br_t rfl (hk mi2 ml2 hI2)
theorem lw_c13 (hE : EK E) (hI : INV mi ml) (hi : i + 6 ≤ E.1.1) (hL : E.1.1 ≤ 3072) (hk : ∀ mi ml, INV mi ml → rn E 14 340 K 1972 [.retAddr 0, .ref 0, .ref 106, .int (nI i)] [] mi ml) : rn E 14 340 K 726 [.retAddr 0, .ref 0, .ref 106, .int (nI i)] [] mi ml := by
  apply rg_L_law_726 (d := 1)
  refine ⟨lw_v hi hL (by omega), lw_v hi hL (by omega), ?_⟩
  apply cq_int (d := 13) ⟨_, rfl, fun z => by cases z⟩
  refine op_person hI (fun r mi1 ml1 hm hx => ?_)
  obtain ⟨x, hx⟩ := hx
  obtain rfl : r = .int x := Option.some.inj hx
  apply rg_L_law_740 (d := 1)
  refine ⟨lw_v hi hL (by omega), lw_v hi hL (by omega), ?_⟩
  refine hm _ (fun mi2 ml2 hI2 => ?_)
  apply rg_L_law_754 (d := 1)
  exact br_t rfl (hk mi2 ml2 hI2)
theorem lw_c14 (hE : EK E) (hI : INV mi ml) (hi : i + 6 ≤ E.1.1) (hL : E.1.1 ≤ 3072) (hk : ∀ mi ml, INV mi ml → rn E 14 340 K 1972 [.retAddr 0, .ref 0, .ref 106, .int (nI i)] [] mi ml) : rn E 14 340 K 759 [.retAddr 0, .ref 0, .ref 106, .int (nI i)] [] mi ml := by
  apply rg_L_law_759 (d := 1)
  apply cq_int (d := 13) ⟨_, rfl, fun z => by cases z⟩
  refine op_call hI (fun r mi1 ml1 hm hx => ?_)
  obtain ⟨x, hx⟩ := hx
  obtain rfl : r = .int x := Option.some.inj hx
  apply rg_L_law_763 (d := 1)
  refine ?_
  refine hm _ (fun mi2 ml2 hI2 => ?_)
  apply rg_L_law_767 (d := 1)
  exact br_t rfl (hk mi2 ml2 hI2)
theorem lw_c15 (hE : EK E) (hI : INV mi ml) (hi : i + 6 ≤ E.1.1) (hL : E.1.1 ≤ 3072) (hk : ∀ mi ml, INV mi ml → rn E 14 340 K 1972 [.retAddr 0, .ref 0, .ref 106, .int (nI i)] [] mi ml) : rn E 14 340 K 772 [.retAddr 0, .ref 0, .ref 106, .int (nI i)] [] mi ml := by
  apply rg_L_law_772 (d := 1)
  refine ⟨lw_v hi hL (by omega), lw_v hi hL (by omega), fun q => ?_, fun q => ?_⟩
  · apply cq_int (d := 13) ⟨_, rfl, fun z => by cases z⟩
    refine op_show hI (Or.inl rfl) (fun r mi1 ml1 hm hx => ?_)
    obtain ⟨x, hx⟩ := hx
    obtain rfl : r = .int x := Option.some.inj hx
    apply rg_L_law_794 (d := 1)
    refine ⟨lw_v hi hL (by omega), lw_v hi hL (by omega), ?_⟩
    refine br_t q ?_
    refine hm _ (fun mi2 ml2 hI2 => ?_)
    apply rg_L_law_816 (d := 1)
    exact br_t rfl (hk mi2 ml2 hI2)
  · apply cq_int (d := 13) ⟨_, rfl, fun z => by cases z⟩
    refine op_show hI (Or.inr rfl) (fun r mi1 ml1 hm hx => ?_)
    obtain ⟨x, hx⟩ := hx
    obtain rfl : r = .int x := Option.some.inj hx
    apply rg_L_law_794 (d := 1)
    refine ⟨lw_v hi hL (by omega), lw_v hi hL (by omega), ?_⟩
    refine br_f q ?_
    refine hm _ (fun mi2 ml2 hI2 => ?_)
    apply rg_L_law_816 (d := 1)
    exact br_t rfl (hk mi2 ml2 hI2)
theorem lw_c16 (hE : EK E) (hI : INV mi ml) (hi : i + 6 ≤ E.1.1) (hL : E.1.1 ≤ 3072) (hk : ∀ mi ml, INV mi ml → rn E 14 340 K 1972 [.retAddr 0, .ref 0, .ref 106, .int (nI i)] [] mi ml) : rn E 14 340 K 821 [.retAddr 0, .ref 0, .ref 106, .int (nI i)] [] mi ml := by
  apply rg_L_law_821 (d := 1)
  refine ⟨lw_v hi hL (by omega), ?_⟩
  apply cq_int (d := 13) ⟨_, rfl, fun z => by cases z⟩
  refine op_board hI (fun r mi1 ml1 hm hx => ?_)
  obtain ⟨x, hx⟩ := hx
  obtain rfl : r = .int x := Option.some.inj hx
  apply rg_L_law_830 (d := 1)
  refine ⟨lw_v hi hL (by omega), ?_⟩
  refine hm _ (fun mi2 ml2 hI2 => ?_)
  apply rg_L_law_839 (d := 1)
  exact br_t rfl (hk mi2 ml2 hI2)
theorem lw_c17 (hE : EK E) (hI : INV mi ml) (hi : i + 6 ≤ E.1.1) (hL : E.1.1 ≤ 3072) (hk : ∀ mi ml, INV mi ml → rn E 14 340 K 1972 [.retAddr 0, .ref 0, .ref 106, .int (nI i)] [] mi ml) : rn E 14 340 K 844 [.retAddr 0, .ref 0, .ref 106, .int (nI i)] [] mi ml := by
  apply rg_L_law_844 (d := 1)
  refine ⟨lw_v hi hL (by omega), lw_v hi hL (by omega), ?_⟩
  apply cq_int (d := 13) ⟨_, rfl, fun z => by cases z⟩
  refine op_sway hI (fun r mi1 ml1 hm hx => ?_)
  obtain ⟨x, hx⟩ := hx
  obtain rfl : r = .int x := Option.some.inj hx
  apply rg_L_law_858 (d := 1)
  refine ⟨lw_v hi hL (by omega), lw_v hi hL (by omega), ?_⟩
  refine hm _ (fun mi2 ml2 hI2 => ?_)
  apply rg_L_law_872 (d := 1)
  exact br_t rfl (hk mi2 ml2 hI2)
theorem lw_c18 (hE : EK E) (hI : INV mi ml) (hi : i + 6 ≤ E.1.1) (hL : E.1.1 ≤ 3072) (hk : ∀ mi ml, INV mi ml → rn E 14 340 K 1972 [.retAddr 0, .ref 0, .ref 106, .int (nI i)] [] mi ml) : rn E 14 340 K 877 [.retAddr 0, .ref 0, .ref 106, .int (nI i)] [] mi ml := by
  apply rg_L_law_877 (d := 1)
  refine ⟨lw_v hi hL (by omega), lw_v hi hL (by omega), lw_v hi hL (by omega), fun q => ?_, fun q => ?_⟩
  · apply cq_int (d := 13) ⟨_, rfl, fun z => by cases z⟩
    refine op_excuse hI (Or.inl rfl) (fun r mi1 ml1 hm hx => ?_)
    obtain ⟨x, hx⟩ := hx
    obtain rfl : r = .int x := Option.some.inj hx
    apply rg_L_law_904 (d := 1)
    refine ⟨lw_v hi hL (by omega), lw_v hi hL (by omega), lw_v hi hL (by omega), ?_⟩
    refine br_t q ?_
    refine hm _ (fun mi2 ml2 hI2 => ?_)
    apply rg_L_law_931 (d := 1)
    exact br_t rfl (hk mi2 ml2 hI2)
  · apply cq_int (d := 13) ⟨_, rfl, fun z => by cases z⟩
    refine op_excuse hI (Or.inr rfl) (fun r mi1 ml1 hm hx => ?_)
    obtain ⟨x, hx⟩ := hx
    obtain rfl : r = .int x := Option.some.inj hx
    apply rg_L_law_904 (d := 1)
    refine ⟨lw_v hi hL (by omega), lw_v hi hL (by omega), lw_v hi hL (by omega), ?_⟩
    refine br_f q ?_
    refine hm _ (fun mi2 ml2 hI2 => ?_)
    apply rg_L_law_931 (d := 1)
    exact br_t rfl (hk mi2 ml2 hI2)
theorem lw_c19 (hE : EK E) (hI : INV mi ml) (hi : i + 6 ≤ E.1.1) (hL : E.1.1 ≤ 3072) (hk : ∀ mi ml, INV mi ml → rn E 14 340 K 1972 [.retAddr 0, .ref 0, .ref 106, .int (nI i)] [] mi ml) : rn E 14 340 K 936 [.retAddr 0, .ref 0, .ref 106, .int (nI i)] [] mi ml := by
  apply rg_L_law_936 (d := 1)
  refine ⟨lw_v hi hL (by omega), lw_v hi hL (by omega), lw_v hi hL (by omega), fun q => ?_, fun q => ?_⟩
  · apply cq_int (d := 13) ⟨_, rfl, fun z => by cases z⟩
    refine op_see hI (Or.inl rfl) (fun r mi1 ml1 hm hx => ?_)
    obtain ⟨x, hx⟩ := hx
    obtain rfl : r = .int x := Option.some.inj hx
    apply rg_L_law_963 (d := 1)
    refine ⟨lw_v hi hL (by omega), lw_v hi hL (by omega), lw_v hi hL (by omega), ?_⟩
    refine br_t q ?_
    refine hm _ (fun mi2 ml2 hI2 => ?_)
    apply rg_L_law_990 (d := 1)
    exact br_t rfl (hk mi2 ml2 hI2)
  · apply cq_int (d := 13) ⟨_, rfl, fun z => by cases z⟩
    refine op_see hI (Or.inr rfl) (fun r mi1 ml1 hm hx => ?_)
    obtain ⟨x, hx⟩ := hx
    obtain rfl : r = .int x := Option.some.inj hx
    apply rg_L_law_963 (d := 1)
    refine ⟨lw_v hi hL (by omega), lw_v hi hL (by omega), lw_v hi hL (by omega), ?_⟩
    refine br_f q ?_
    refine hm _ (fun mi2 ml2 hI2 => ?_)
    apply rg_L_law_990 (d := 1)
    exact br_t rfl (hk mi2 ml2 hI2)
theorem lw_c20 (hE : EK E) (hI : INV mi ml) (hi : i + 6 ≤ E.1.1) (hL : E.1.1 ≤ 3072) (hk : ∀ mi ml, INV mi ml → rn E 14 340 K 1972 [.retAddr 0, .ref 0, .ref 106, .int (nI i)] [] mi ml) : rn E 14 340 K 995 [.retAddr 0, .ref 0, .ref 106, .int (nI i)] [] mi ml := by
  apply rg_L_law_995 (d := 1)
  refine ⟨lw_v hi hL (by omega), lw_v hi hL (by omega), ?_⟩
  apply cq_int (d := 13) ⟨_, rfl, fun z => by cases z⟩
  refine op_paint hI (fun r mi1 ml1 hm hx => ?_)
  obtain ⟨x, hx⟩ := hx
  obtain rfl : r = .int x := Option.some.inj hx
  apply rg_L_law_1009 (d := 1)
  refine ⟨lw_v hi hL (by omega), lw_v hi hL (by omega), ?_⟩
  refine hm _ (fun mi2 ml2 hI2 => ?_)
  apply rg_L_law_1023 (d := 1)
  exact br_t rfl (hk mi2 ml2 hI2)
theorem lw_c21 (hE : EK E) (hI : INV mi ml) (hi : i + 6 ≤ E.1.1) (hL : E.1.1 ≤ 3072) (hk : ∀ mi ml, INV mi ml → rn E 14 340 K 1972 [.retAddr 0, .ref 0, .ref 106, .int (nI i)] [] mi ml) : rn E 14 340 K 1028 [.retAddr 0, .ref 0, .ref 106, .int (nI i)] [] mi ml := by
  apply rg_L_law_1028 (d := 1)
  refine ⟨lw_v hi hL (by omega), ?_⟩
  apply cq_int (d := 13) ⟨_, rfl, fun z => by cases z⟩
  refine op_come hI (fun r mi1 ml1 hm hx => ?_)
  obtain ⟨x, hx⟩ := hx
  obtain rfl : r = .int x := Option.some.inj hx
  apply rg_L_law_1037 (d := 1)
  refine ⟨lw_v hi hL (by omega), ?_⟩
  refine hm _ (fun mi2 ml2 hI2 => ?_)
  apply rg_L_law_1046 (d := 1)
  exact br_t rfl (hk mi2 ml2 hI2)
theorem lw_c22 (hE : EK E) (hI : INV mi ml) (hi : i + 6 ≤ E.1.1) (hL : E.1.1 ≤ 3072) (hk : ∀ mi ml, INV mi ml → rn E 14 340 K 1972 [.retAddr 0, .ref 0, .ref 106, .int (nI i)] [] mi ml) : rn E 14 340 K 1051 [.retAddr 0, .ref 0, .ref 106, .int (nI i)] [] mi ml := by
  apply rg_L_law_1051 (d := 1)
  refine ⟨lw_v hi hL (by omega), lw_v hi hL (by omega), ?_⟩
  apply cq_int (d := 13) ⟨_, rfl, fun z => by cases z⟩
  refine op_rule hI (fun r mi1 ml1 hm hx => ?_)
  obtain ⟨x, hx⟩ := hx
  obtain rfl : r = .int x := Option.some.inj hx
  apply rg_L_law_1065 (d := 1)
  refine ⟨lw_v hi hL (by omega), lw_v hi hL (by omega), ?_⟩
  refine hm _ (fun mi2 ml2 hI2 => ?_)
  apply rg_L_law_1079 (d := 1)
  exact br_t rfl (hk mi2 ml2 hI2)
theorem lw_c23 (hE : EK E) (hI : INV mi ml) (hi : i + 6 ≤ E.1.1) (hL : E.1.1 ≤ 3072) (hk : ∀ mi ml, INV mi ml → rn E 14 340 K 1972 [.retAddr 0, .ref 0, .ref 106, .int (nI i)] [] mi ml) : rn E 14 340 K 1084 [.retAddr 0, .ref 0, .ref 106, .int (nI i)] [] mi ml := by
  apply rg_L_law_1084 (d := 1)
  refine ⟨lw_v hi hL (by omega), lw_v hi hL (by omega), ?_⟩
  apply cq_int (d := 13) ⟨_, rfl, fun z => by cases z⟩
  refine op_need hI (fun r mi1 ml1 hm hx => ?_)
  obtain ⟨x, hx⟩ := hx
  obtain rfl : r = .int x := Option.some.inj hx
  apply rg_L_law_1098 (d := 1)
  refine ⟨lw_v hi hL (by omega), lw_v hi hL (by omega), ?_⟩
  refine hm _ (fun mi2 ml2 hI2 => ?_)
  apply rg_L_law_1112 (d := 1)
  exact br_t rfl (hk mi2 ml2 hI2)
theorem lw_c24 (hE : EK E) (hI : INV mi ml) (hi : i + 6 ≤ E.1.1) (hL : E.1.1 ≤ 3072) (hk : ∀ mi ml, INV mi ml → rn E 14 340 K 1972 [.retAddr 0, .ref 0, .ref 106, .int (nI i)] [] mi ml) : rn E 14 340 K 1117 [.retAddr 0, .ref 0, .ref 106, .int (nI i)] [] mi ml := by
  apply rg_L_law_1117 (d := 1)
  refine ⟨lw_v hi hL (by omega), lw_v hi hL (by omega), ?_⟩
  apply cq_int (d := 13) ⟨_, rfl, fun z => by cases z⟩
  refine op_roundOf hI (fun r mi1 ml1 hm hx => ?_)
  obtain ⟨x, hx⟩ := hx
  obtain rfl : r = .int x := Option.some.inj hx
  apply rg_L_law_1131 (d := 1)
  refine ⟨lw_v hi hL (by omega), lw_v hi hL (by omega), ?_⟩
  refine hm _ (fun mi2 ml2 hI2 => ?_)
  apply rg_L_law_1145 (d := 1)
  exact br_t rfl (hk mi2 ml2 hI2)
theorem lw_c25 (hE : EK E) (hI : INV mi ml) (hi : i + 6 ≤ E.1.1) (hL : E.1.1 ≤ 3072) (hk : ∀ mi ml, INV mi ml → rn E 14 340 K 1972 [.retAddr 0, .ref 0, .ref 106, .int (nI i)] [] mi ml) : rn E 14 340 K 1150 [.retAddr 0, .ref 0, .ref 106, .int (nI i)] [] mi ml := by
  apply rg_L_law_1150 (d := 1)
  refine ⟨lw_v hi hL (by omega), ?_⟩
  apply cq_int (d := 13) ⟨_, rfl, fun z => by cases z⟩
  refine op_outBy hI (fun r mi1 ml1 hm hx => ?_)
  obtain ⟨x, hx⟩ := hx
  obtain rfl : r = .int x := Option.some.inj hx
  apply rg_L_law_1159 (d := 1)
  refine ⟨lw_v hi hL (by omega), ?_⟩
  refine hm _ (fun mi2 ml2 hI2 => ?_)
  apply rg_L_law_1168 (d := 1)
  exact br_t rfl (hk mi2 ml2 hI2)
theorem lw_c26 (hE : EK E) (hI : INV mi ml) (hi : i + 6 ≤ E.1.1) (hL : E.1.1 ≤ 3072) (hk : ∀ mi ml, INV mi ml → rn E 14 340 K 1972 [.retAddr 0, .ref 0, .ref 106, .int (nI i)] [] mi ml) : rn E 14 340 K 1173 [.retAddr 0, .ref 0, .ref 106, .int (nI i)] [] mi ml := by
  apply rg_L_law_1173 (d := 1)
  refine ⟨lw_v hi hL (by omega), ?_⟩
  apply cq_int (d := 13) ⟨_, rfl, fun z => by cases z⟩
  refine op_restBy hI (fun r mi1 ml1 hm hx => ?_)
  obtain ⟨x, hx⟩ := hx
  obtain rfl : r = .int x := Option.some.inj hx
  apply rg_L_law_1182 (d := 1)
  refine ⟨lw_v hi hL (by omega), ?_⟩
  refine hm _ (fun mi2 ml2 hI2 => ?_)
  apply rg_L_law_1191 (d := 1)
  exact br_t rfl (hk mi2 ml2 hI2)
theorem lw_c27 (hE : EK E) (hI : INV mi ml) (hi : i + 6 ≤ E.1.1) (hL : E.1.1 ≤ 3072) (hk : ∀ mi ml, INV mi ml → rn E 14 340 K 1972 [.retAddr 0, .ref 0, .ref 106, .int (nI i)] [] mi ml) : rn E 14 340 K 1196 [.retAddr 0, .ref 0, .ref 106, .int (nI i)] [] mi ml := by
  apply rg_L_law_1196 (d := 1)
  refine ⟨lw_v hi hL (by omega), ?_⟩
  apply cq_int (d := 13) ⟨_, rfl, fun z => by cases z⟩
  refine op_rounds hI (fun r mi1 ml1 hm hx => ?_)
  obtain ⟨x, hx⟩ := hx
  obtain rfl : r = .int x := Option.some.inj hx
  apply rg_L_law_1205 (d := 1)
  refine ⟨lw_v hi hL (by omega), ?_⟩
  refine hm _ (fun mi2 ml2 hI2 => ?_)
  apply rg_L_law_1214 (d := 1)
  exact br_t rfl (hk mi2 ml2 hI2)
theorem lw_c28 (hE : EK E) (hI : INV mi ml) (hi : i + 6 ≤ E.1.1) (hL : E.1.1 ≤ 3072) (hk : ∀ mi ml, INV mi ml → rn E 14 340 K 1972 [.retAddr 0, .ref 0, .ref 106, .int (nI i)] [] mi ml) : rn E 14 340 K 1219 [.retAddr 0, .ref 0, .ref 106, .int (nI i)] [] mi ml := by
  apply rg_L_law_1219 (d := 1)
  refine ⟨lw_v hi hL (by omega), lw_v hi hL (by omega), ?_⟩
  apply cq_int (d := 13) ⟨_, rfl, fun z => by cases z⟩
  refine op_atRest hI (fun r mi1 ml1 hm hx => ?_)
  obtain ⟨x, hx⟩ := hx
  obtain rfl : r = .int x := Option.some.inj hx
  apply rg_L_law_1233 (d := 1)
  refine ⟨lw_v hi hL (by omega), lw_v hi hL (by omega), ?_⟩
  refine hm _ (fun mi2 ml2 hI2 => ?_)
  apply rg_L_law_1247 (d := 1)
  exact br_t rfl (hk mi2 ml2 hI2)
theorem lw_c29 (hE : EK E) (hI : INV mi ml) (hi : i + 6 ≤ E.1.1) (hL : E.1.1 ≤ 3072) (hk : ∀ mi ml, INV mi ml → rn E 14 340 K 1972 [.retAddr 0, .ref 0, .ref 106, .int (nI i)] [] mi ml) : rn E 14 340 K 1252 [.retAddr 0, .ref 0, .ref 106, .int (nI i)] [] mi ml := by
  apply rg_L_law_1252 (d := 1)
  refine ⟨lw_v hi hL (by omega), ?_⟩
  apply cq_int (d := 13) ⟨_, rfl, fun z => by cases z⟩
  refine op_rests hI (fun r mi1 ml1 hm hx => ?_)
  obtain ⟨x, hx⟩ := hx
  obtain rfl : r = .int x := Option.some.inj hx
  apply rg_L_law_1261 (d := 1)
  refine ⟨lw_v hi hL (by omega), ?_⟩
  refine hm _ (fun mi2 ml2 hI2 => ?_)
  apply rg_L_law_1270 (d := 1)
  exact br_t rfl (hk mi2 ml2 hI2)
theorem lw_c30 (hE : EK E) (hI : INV mi ml) (hi : i + 6 ≤ E.1.1) (hL : E.1.1 ≤ 3072) (hk : ∀ mi ml, INV mi ml → rn E 14 340 K 1972 [.retAddr 0, .ref 0, .ref 106, .int (nI i)] [] mi ml) : rn E 14 340 K 1275 [.retAddr 0, .ref 0, .ref 106, .int (nI i)] [] mi ml := by
  apply rg_L_law_1275 (d := 1)
  refine ⟨lw_v hi hL (by omega), ?_⟩
  apply cq_int (d := 13) ⟨_, rfl, fun z => by cases z⟩
  refine op_greatest hI (fun r mi1 ml1 hm hx => ?_)
  obtain ⟨x, hx⟩ := hx
  obtain rfl : r = .int x := Option.some.inj hx
  apply rg_L_law_1284 (d := 1)
  refine ⟨lw_v hi hL (by omega), ?_⟩
  refine hm _ (fun mi2 ml2 hI2 => ?_)
  apply rg_L_law_1293 (d := 1)
  exact br_t rfl (hk mi2 ml2 hI2)
theorem lw_c31 (hE : EK E) (hI : INV mi ml) (hi : i + 6 ≤ E.1.1) (hL : E.1.1 ≤ 3072) (hk : ∀ mi ml, INV mi ml → rn E 14 340 K 1972 [.retAddr 0, .ref 0, .ref 106, .int (nI i)] [] mi ml) : rn E 14 340 K 1298 [.retAddr 0, .ref 0, .ref 106, .int (nI i)] [] mi ml := by
  apply rg_L_law_1298 (d := 1)
  refine ⟨lw_v hi hL (by omega), ?_⟩
  apply cq_int (d := 13) ⟨_, rfl, fun z => by cases z⟩
  refine op_seeds hI (fun r mi1 ml1 hm hx => ?_)
  obtain ⟨x, hx⟩ := hx
  obtain rfl : r = .int x := Option.some.inj hx
  apply rg_L_law_1307 (d := 1)
  refine ⟨lw_v hi hL (by omega), ?_⟩
  refine hm _ (fun mi2 ml2 hI2 => ?_)
  apply rg_L_law_1316 (d := 1)
  exact br_t rfl (hk mi2 ml2 hI2)
theorem lw_c32 (hE : EK E) (hI : INV mi ml) (hi : i + 6 ≤ E.1.1) (hL : E.1.1 ≤ 3072) (hk : ∀ mi ml, INV mi ml → rn E 14 340 K 1972 [.retAddr 0, .ref 0, .ref 106, .int (nI i)] [] mi ml) : rn E 14 340 K 1321 [.retAddr 0, .ref 0, .ref 106, .int (nI i)] [] mi ml := by
  apply rg_L_law_1321 (d := 1)
  refine ⟨lw_v hi hL (by omega), ?_⟩
  apply cq_int (d := 13) ⟨_, rfl, fun z => by cases z⟩
  refine op_seedSet hI (fun r mi1 ml1 hm hx => ?_)
  obtain ⟨x, hx⟩ := hx
  obtain rfl : r = .int x := Option.some.inj hx
  apply rg_L_law_1330 (d := 1)
  refine ⟨lw_v hi hL (by omega), ?_⟩
  refine hm _ (fun mi2 ml2 hI2 => ?_)
  apply rg_L_law_1339 (d := 1)
  exact br_t rfl (hk mi2 ml2 hI2)
theorem lw_c33 (hE : EK E) (hI : INV mi ml) (hi : i + 6 ≤ E.1.1) (hL : E.1.1 ≤ 3072) (hk : ∀ mi ml, INV mi ml → rn E 14 340 K 1972 [.retAddr 0, .ref 0, .ref 106, .int (nI i)] [] mi ml) : rn E 14 340 K 1344 [.retAddr 0, .ref 0, .ref 106, .int (nI i)] [] mi ml := by
  apply rg_L_law_1344 (d := 1)
  refine ⟨lw_v hi hL (by omega), lw_v hi hL (by omega), ?_⟩
  apply cq_int (d := 13) ⟨_, rfl, fun z => by cases z⟩
  refine op_weight hI (fun r mi1 ml1 hm hx => ?_)
  obtain ⟨x, hx⟩ := hx
  obtain rfl : r = .int x := Option.some.inj hx
  apply rg_L_law_1358 (d := 1)
  refine ⟨lw_v hi hL (by omega), lw_v hi hL (by omega), ?_⟩
  refine hm _ (fun mi2 ml2 hI2 => ?_)
  apply rg_L_law_1372 (d := 1)
  exact br_t rfl (hk mi2 ml2 hI2)
theorem lw_c34 (hE : EK E) (hI : INV mi ml) (hi : i + 6 ≤ E.1.1) (hL : E.1.1 ≤ 3072) (hk : ∀ mi ml, INV mi ml → rn E 14 340 K 1972 [.retAddr 0, .ref 0, .ref 106, .int (nI i)] [] mi ml) : rn E 14 340 K 1377 [.retAddr 0, .ref 0, .ref 106, .int (nI i)] [] mi ml := by
  apply rg_L_law_1377 (d := 1)
  refine ⟨lw_v hi hL (by omega), ?_⟩
  apply cq_int (d := 13) ⟨_, rfl, fun z => by cases z⟩
  refine op_keystone hI (fun r mi1 ml1 hm hx => ?_)
  obtain ⟨x, hx⟩ := hx
  obtain rfl : r = .int x := Option.some.inj hx
  apply rg_L_law_1386 (d := 1)
  refine ⟨lw_v hi hL (by omega), ?_⟩
  refine hm _ (fun mi2 ml2 hI2 => ?_)
  apply rg_L_law_1395 (d := 1)
  exact br_t rfl (hk mi2 ml2 hI2)
theorem lw_c35 (hE : EK E) (hI : INV mi ml) (hi : i + 6 ≤ E.1.1) (hL : E.1.1 ≤ 3072) (hk : ∀ mi ml, INV mi ml → rn E 14 340 K 1972 [.retAddr 0, .ref 0, .ref 106, .int (nI i)] [] mi ml) : rn E 14 340 K 1400 [.retAddr 0, .ref 0, .ref 106, .int (nI i)] [] mi ml := by
  apply rg_L_law_1400 (d := 1)
  refine ⟨lw_v hi hL (by omega), ?_⟩
  apply cq_int (d := 13) ⟨_, rfl, fun z => by cases z⟩
  refine op_lures hI (fun r mi1 ml1 hm hx => ?_)
  obtain ⟨x, hx⟩ := hx
  obtain rfl : r = .int x := Option.some.inj hx
  apply rg_L_law_1409 (d := 1)
  refine ⟨lw_v hi hL (by omega), ?_⟩
  refine hm _ (fun mi2 ml2 hI2 => ?_)
  apply rg_L_law_1418 (d := 1)
  exact br_t rfl (hk mi2 ml2 hI2)
theorem lw_c36 (hE : EK E) (hI : INV mi ml) (hi : i + 6 ≤ E.1.1) (hL : E.1.1 ≤ 3072) (hk : ∀ mi ml, INV mi ml → rn E 14 340 K 1972 [.retAddr 0, .ref 0, .ref 106, .int (nI i)] [] mi ml) : rn E 14 340 K 1423 [.retAddr 0, .ref 0, .ref 106, .int (nI i)] [] mi ml := by
  apply rg_L_law_1423 (d := 1)
  refine ⟨lw_v hi hL (by omega), ?_⟩
  apply cq_int (d := 13) ⟨_, rfl, fun z => by cases z⟩
  refine op_lureSet hI (fun r mi1 ml1 hm hx => ?_)
  obtain ⟨x, hx⟩ := hx
  obtain rfl : r = .int x := Option.some.inj hx
  apply rg_L_law_1432 (d := 1)
  refine ⟨lw_v hi hL (by omega), ?_⟩
  refine hm _ (fun mi2 ml2 hI2 => ?_)
  apply rg_L_law_1441 (d := 1)
  exact br_t rfl (hk mi2 ml2 hI2)
theorem lw_c37 (hE : EK E) (hI : INV mi ml) (hi : i + 6 ≤ E.1.1) (hL : E.1.1 ≤ 3072) (hk : ∀ mi ml, INV mi ml → rn E 14 340 K 1972 [.retAddr 0, .ref 0, .ref 106, .int (nI i)] [] mi ml) : rn E 14 340 K 1446 [.retAddr 0, .ref 0, .ref 106, .int (nI i)] [] mi ml := by
  apply rg_L_law_1446 (d := 1)
  apply cq_int (d := 13) ⟨_, rfl, fun z => by cases z⟩
  refine op_best hI (fun r mi1 ml1 hm hx => ?_)
  obtain ⟨x, hx⟩ := hx
  obtain rfl : r = .int x := Option.some.inj hx
  apply rg_L_law_1450 (d := 1)
  refine ?_
  refine hm _ (fun mi2 ml2 hI2 => ?_)
  apply rg_L_law_1454 (d := 1)
  exact br_t rfl (hk mi2 ml2 hI2)
theorem lw_c38 (hE : EK E) (hI : INV mi ml) (hi : i + 6 ≤ E.1.1) (hL : E.1.1 ≤ 3072) (hk : ∀ mi ml, INV mi ml → rn E 14 340 K 1972 [.retAddr 0, .ref 0, .ref 106, .int (nI i)] [] mi ml) : rn E 14 340 K 1459 [.retAddr 0, .ref 0, .ref 106, .int (nI i)] [] mi ml := by
  apply rg_L_law_1459 (d := 1)
  apply cq_int (d := 13) ⟨_, rfl, fun z => by cases z⟩
  refine op_bestOut hI (fun r mi1 ml1 hm hx => ?_)
  obtain ⟨x, hx⟩ := hx
  obtain rfl : r = .int x := Option.some.inj hx
  apply rg_L_law_1463 (d := 1)
  refine ?_
  refine hm _ (fun mi2 ml2 hI2 => ?_)
  apply rg_L_law_1467 (d := 1)
  exact br_t rfl (hk mi2 ml2 hI2)
theorem lw_c39 (hE : EK E) (hI : INV mi ml) (hi : i + 6 ≤ E.1.1) (hL : E.1.1 ≤ 3072) (hk : ∀ mi ml, INV mi ml → rn E 14 340 K 1972 [.retAddr 0, .ref 0, .ref 106, .int (nI i)] [] mi ml) : rn E 14 340 K 1472 [.retAddr 0, .ref 0, .ref 106, .int (nI i)] [] mi ml := by
  apply rg_L_law_1472 (d := 1)
  apply cq_int (d := 13) ⟨_, rfl, fun z => by cases z⟩
  refine op_never hI (fun r mi1 ml1 hm hx => ?_)
  obtain ⟨x, hx⟩ := hx
  obtain rfl : r = .int x := Option.some.inj hx
  apply rg_L_law_1476 (d := 1)
  refine ?_
  refine hm _ (fun mi2 ml2 hI2 => ?_)
  apply rg_L_law_1480 (d := 1)
  exact br_t rfl (hk mi2 ml2 hI2)
theorem lw_c40 (hE : EK E) (hI : INV mi ml) (hi : i + 6 ≤ E.1.1) (hL : E.1.1 ≤ 3072) (hk : ∀ mi ml, INV mi ml → rn E 14 340 K 1972 [.retAddr 0, .ref 0, .ref 106, .int (nI i)] [] mi ml) : rn E 14 340 K 1485 [.retAddr 0, .ref 0, .ref 106, .int (nI i)] [] mi ml := by
  apply rg_L_law_1485 (d := 1)
  refine ⟨lw_v hi hL (by omega), ?_⟩
  apply cq_int (d := 13) ⟨_, rfl, fun z => by cases z⟩
  refine op_outIn hI (fun r mi1 ml1 hm hx => ?_)
  obtain ⟨x, hx⟩ := hx
  obtain rfl : r = .int x := Option.some.inj hx
  apply rg_L_law_1494 (d := 1)
  refine ⟨lw_v hi hL (by omega), ?_⟩
  refine hm _ (fun mi2 ml2 hI2 => ?_)
  apply rg_L_law_1503 (d := 1)
  exact br_t rfl (hk mi2 ml2 hI2)
theorem lw_c41 (hE : EK E) (hI : INV mi ml) (hi : i + 6 ≤ E.1.1) (hL : E.1.1 ≤ 3072) (hk : ∀ mi ml, INV mi ml → rn E 14 340 K 1972 [.retAddr 0, .ref 0, .ref 106, .int (nI i)] [] mi ml) : rn E 14 340 K 1508 [.retAddr 0, .ref 0, .ref 106, .int (nI i)] [] mi ml := by
  apply rg_L_law_1508 (d := 1)
  refine ⟨lw_v hi hL (by omega), ?_⟩
  apply cq_int (d := 13) ⟨_, rfl, fun z => by cases z⟩
  refine op_outAt hI (fun r mi1 ml1 hm hx => ?_)
  obtain ⟨x, hx⟩ := hx
  obtain rfl : r = .int x := Option.some.inj hx
  apply rg_L_law_1517 (d := 1)
  refine ⟨lw_v hi hL (by omega), ?_⟩
  refine hm _ (fun mi2 ml2 hI2 => ?_)
  apply rg_L_law_1526 (d := 1)
  exact br_t rfl (hk mi2 ml2 hI2)
theorem lw_c42 (hE : EK E) (hI : INV mi ml) (hi : i + 6 ≤ E.1.1) (hL : E.1.1 ≤ 3072) (hk : ∀ mi ml, INV mi ml → rn E 14 340 K 1972 [.retAddr 0, .ref 0, .ref 106, .int (nI i)] [] mi ml) : rn E 14 340 K 1531 [.retAddr 0, .ref 0, .ref 106, .int (nI i)] [] mi ml := by
  apply rg_L_law_1531 (d := 1)
  refine ⟨lw_v hi hL (by omega), lw_v hi hL (by omega), ?_⟩
  apply cq_int (d := 13) ⟨_, rfl, fun z => by cases z⟩
  refine op_holdIn hI (fun r mi1 ml1 hm hx => ?_)
  obtain ⟨x, hx⟩ := hx
  obtain rfl : r = .int x := Option.some.inj hx
  apply rg_L_law_1545 (d := 1)
  refine ⟨lw_v hi hL (by omega), lw_v hi hL (by omega), ?_⟩
  refine hm _ (fun mi2 ml2 hI2 => ?_)
  apply rg_L_law_1559 (d := 1)
  exact br_t rfl (hk mi2 ml2 hI2)
theorem lw_c43 (hE : EK E) (hI : INV mi ml) (hi : i + 6 ≤ E.1.1) (hL : E.1.1 ≤ 3072) (hk : ∀ mi ml, INV mi ml → rn E 14 340 K 1972 [.retAddr 0, .ref 0, .ref 106, .int (nI i)] [] mi ml) : rn E 14 340 K 1564 [.retAddr 0, .ref 0, .ref 106, .int (nI i)] [] mi ml := by
  apply rg_L_law_1564 (d := 1)
  refine ⟨lw_v hi hL (by omega), lw_v hi hL (by omega), lw_v hi hL (by omega), ?_⟩
  apply cq_int (d := 13) ⟨_, rfl, fun z => by cases z⟩
  refine op_fits hI (fun r mi1 ml1 hm hx => ?_)
  obtain ⟨x, hx⟩ := hx
  obtain rfl : r = .int x := Option.some.inj hx
  apply rg_L_law_1583 (d := 1)
  refine ⟨lw_v hi hL (by omega), lw_v hi hL (by omega), lw_v hi hL (by omega), ?_⟩
  refine hm _ (fun mi2 ml2 hI2 => ?_)
  apply rg_L_law_1602 (d := 1)
  exact br_t rfl (hk mi2 ml2 hI2)
theorem lw_c44 (hE : EK E) (hI : INV mi ml) (hi : i + 6 ≤ E.1.1) (hL : E.1.1 ≤ 3072) (hk : ∀ mi ml, INV mi ml → rn E 14 340 K 1972 [.retAddr 0, .ref 0, .ref 106, .int (nI i)] [] mi ml) : rn E 14 340 K 1607 [.retAddr 0, .ref 0, .ref 106, .int (nI i)] [] mi ml := by
  apply rg_L_law_1607 (d := 1)
  refine ⟨lw_v hi hL (by omega), lw_v hi hL (by omega), lw_v hi hL (by omega), lw_v hi hL (by omega), ?_⟩
  apply cq_int (d := 13) ⟨_, rfl, fun z => by cases z⟩
  refine op_fitsAt hI (fun r mi1 ml1 hm hx => ?_)
  obtain ⟨x, hx⟩ := hx
  obtain rfl : r = .int x := Option.some.inj hx
  apply rg_L_law_1631 (d := 1)
  refine ⟨lw_v hi hL (by omega), lw_v hi hL (by omega), lw_v hi hL (by omega), lw_v hi hL (by omega), ?_⟩
  refine hm _ (fun mi2 ml2 hI2 => ?_)
  apply rg_L_law_1655 (d := 1)
  exact br_t rfl (hk mi2 ml2 hI2)
theorem lw_c45 (hE : EK E) (hI : INV mi ml) (hi : i + 6 ≤ E.1.1) (hL : E.1.1 ≤ 3072) (hk : ∀ mi ml, INV mi ml → rn E 14 340 K 1972 [.retAddr 0, .ref 0, .ref 106, .int (nI i)] [] mi ml) : rn E 14 340 K 1660 [.retAddr 0, .ref 0, .ref 106, .int (nI i)] [] mi ml := by
  apply rg_L_law_1660 (d := 1)
  refine ⟨lw_v hi hL (by omega), lw_v hi hL (by omega), lw_v hi hL (by omega), ?_⟩
  apply cq_int (d := 13) ⟨_, rfl, fun z => by cases z⟩
  refine op_ask hI (fun r mi1 ml1 hm hx => ?_)
  obtain ⟨x, hx⟩ := hx
  obtain rfl : r = .int x := Option.some.inj hx
  apply rg_L_law_1679 (d := 1)
  refine ⟨lw_v hi hL (by omega), lw_v hi hL (by omega), lw_v hi hL (by omega), ?_⟩
  refine hm _ (fun mi2 ml2 hI2 => ?_)
  apply rg_L_law_1698 (d := 1)
  exact br_t rfl (hk mi2 ml2 hI2)
theorem lw_c46 (hE : EK E) (hI : INV mi ml) (hi : i + 6 ≤ E.1.1) (hL : E.1.1 ≤ 3072) (hk : ∀ mi ml, INV mi ml → rn E 14 340 K 1972 [.retAddr 0, .ref 0, .ref 106, .int (nI i)] [] mi ml) : rn E 14 340 K 1703 [.retAddr 0, .ref 0, .ref 106, .int (nI i)] [] mi ml := by
  apply rg_L_law_1703 (d := 1)
  apply cq_int (d := 13) ⟨_, rfl, fun z => by cases z⟩
  refine op_lookouts hI (fun r mi1 ml1 hm hx => ?_)
  obtain ⟨x, hx⟩ := hx
  obtain rfl : r = .int x := Option.some.inj hx
  apply rg_L_law_1707 (d := 1)
  refine ?_
  refine hm _ (fun mi2 ml2 hI2 => ?_)
  apply rg_L_law_1711 (d := 1)
  exact br_t rfl (hk mi2 ml2 hI2)
theorem lw_c47 (hE : EK E) (hI : INV mi ml) (hi : i + 6 ≤ E.1.1) (hL : E.1.1 ≤ 3072) (hk : ∀ mi ml, INV mi ml → rn E 14 340 K 1972 [.retAddr 0, .ref 0, .ref 106, .int (nI i)] [] mi ml) : rn E 14 340 K 1716 [.retAddr 0, .ref 0, .ref 106, .int (nI i)] [] mi ml := by
  apply rg_L_law_1716 (d := 1)
  apply cq_int (d := 13) ⟨_, rfl, fun z => by cases z⟩
  refine op_lookoutSet hI (fun r mi1 ml1 hm hx => ?_)
  obtain ⟨x, hx⟩ := hx
  obtain rfl : r = .int x := Option.some.inj hx
  apply rg_L_law_1720 (d := 1)
  refine ?_
  refine hm _ (fun mi2 ml2 hI2 => ?_)
  apply rg_L_law_1724 (d := 1)
  exact br_t rfl (hk mi2 ml2 hI2)
theorem lw_c48 (hE : EK E) (hI : INV mi ml) (hi : i + 6 ≤ E.1.1) (hL : E.1.1 ≤ 3072) (hk : ∀ mi ml, INV mi ml → rn E 14 340 K 1972 [.retAddr 0, .ref 0, .ref 106, .int (nI i)] [] mi ml) : rn E 14 340 K 1729 [.retAddr 0, .ref 0, .ref 106, .int (nI i)] [] mi ml := by
  apply rg_L_law_1729 (d := 1)
  apply cq_int (d := 13) ⟨_, rfl, fun z => by cases z⟩
  refine op_couples hI (fun r mi1 ml1 hm hx => ?_)
  obtain ⟨x, hx⟩ := hx
  obtain rfl : r = .int x := Option.some.inj hx
  apply rg_L_law_1733 (d := 1)
  refine ?_
  refine hm _ (fun mi2 ml2 hI2 => ?_)
  apply rg_L_law_1737 (d := 1)
  exact br_t rfl (hk mi2 ml2 hI2)
theorem lw_c49 (hE : EK E) (hI : INV mi ml) (hi : i + 6 ≤ E.1.1) (hL : E.1.1 ≤ 3072) (hk : ∀ mi ml, INV mi ml → rn E 14 340 K 1972 [.retAddr 0, .ref 0, .ref 106, .int (nI i)] [] mi ml) : rn E 14 340 K 1742 [.retAddr 0, .ref 0, .ref 106, .int (nI i)] [] mi ml := by
  apply rg_L_law_1742 (d := 1)
  refine ⟨lw_v hi hL (by omega), ?_⟩
  apply cq_int (d := 13) ⟨_, rfl, fun z => by cases z⟩
  refine op_game hI (fun r mi1 ml1 hm hx => ?_)
  obtain ⟨x, hx⟩ := hx
  obtain rfl : r = .int x := Option.some.inj hx
  apply rg_L_law_1751 (d := 1)
  refine ⟨lw_v hi hL (by omega), ?_⟩
  refine hm _ (fun mi2 ml2 hI2 => ?_)
  apply rg_L_law_1760 (d := 1)
  exact br_t rfl (hk mi2 ml2 hI2)
theorem lw_c50 (hE : EK E) (hI : INV mi ml) (hi : i + 6 ≤ E.1.1) (hL : E.1.1 ≤ 3072) (hk : ∀ mi ml, INV mi ml → rn E 14 340 K 1972 [.retAddr 0, .ref 0, .ref 106, .int (nI i)] [] mi ml) : rn E 14 340 K 1765 [.retAddr 0, .ref 0, .ref 106, .int (nI i)] [] mi ml := by
  apply rg_L_law_1765 (d := 1)
  refine ⟨lw_v hi hL (by omega), ?_⟩
  apply cq_int (d := 13) ⟨_, rfl, fun z => by cases z⟩
  refine op_moveOf hI (fun r mi1 ml1 hm hx => ?_)
  obtain ⟨x, hx⟩ := hx
  obtain rfl : r = .int x := Option.some.inj hx
  apply rg_L_law_1774 (d := 1)
  refine ⟨lw_v hi hL (by omega), ?_⟩
  refine hm _ (fun mi2 ml2 hI2 => ?_)
  apply rg_L_law_1783 (d := 1)
  exact br_t rfl (hk mi2 ml2 hI2)
theorem lw_c51 (hE : EK E) (hI : INV mi ml) (hi : i + 6 ≤ E.1.1) (hL : E.1.1 ≤ 3072) (hk : ∀ mi ml, INV mi ml → rn E 14 340 K 1972 [.retAddr 0, .ref 0, .ref 106, .int (nI i)] [] mi ml) : rn E 14 340 K 1788 [.retAddr 0, .ref 0, .ref 106, .int (nI i)] [] mi ml := by
  apply rg_L_law_1788 (d := 1)
  refine ⟨lw_v hi hL (by omega), lw_v hi hL (by omega), ?_⟩
  apply cq_int (d := 13) ⟨_, rfl, fun z => by cases z⟩
  refine op_tides hI (fun r mi1 ml1 hm hx => ?_)
  obtain ⟨x, hx⟩ := hx
  obtain rfl : r = .int x := Option.some.inj hx
  apply rg_L_law_1802 (d := 1)
  refine ⟨lw_v hi hL (by omega), lw_v hi hL (by omega), ?_⟩
  refine hm _ (fun mi2 ml2 hI2 => ?_)
  apply rg_L_law_1816 (d := 1)
  exact br_t rfl (hk mi2 ml2 hI2)
theorem lw_c52 (hE : EK E) (hI : INV mi ml) (hi : i + 6 ≤ E.1.1) (hL : E.1.1 ≤ 3072) (hk : ∀ mi ml, INV mi ml → rn E 14 340 K 1972 [.retAddr 0, .ref 0, .ref 106, .int (nI i)] [] mi ml) : rn E 14 340 K 1821 [.retAddr 0, .ref 0, .ref 106, .int (nI i)] [] mi ml := by
  apply rg_L_law_1821 (d := 1)
  refine ⟨lw_v hi hL (by omega), ?_⟩
  apply cq_int (d := 13) ⟨_, rfl, fun z => by cases z⟩
  refine op_sloth hI (fun r mi1 ml1 hm hx => ?_)
  obtain ⟨x, hx⟩ := hx
  obtain rfl : r = .int x := Option.some.inj hx
  apply rg_L_law_1830 (d := 1)
  refine ⟨lw_v hi hL (by omega), ?_⟩
  refine hm _ (fun mi2 ml2 hI2 => ?_)
  apply rg_L_law_1839 (d := 1)
  exact br_t rfl (hk mi2 ml2 hI2)
theorem lw_c53 (hE : EK E) (hI : INV mi ml) (hi : i + 6 ≤ E.1.1) (hL : E.1.1 ≤ 3072) (hk : ∀ mi ml, INV mi ml → rn E 14 340 K 1972 [.retAddr 0, .ref 0, .ref 106, .int (nI i)] [] mi ml) : rn E 14 340 K 1844 [.retAddr 0, .ref 0, .ref 106, .int (nI i)] [] mi ml := by
  apply rg_L_law_1844 (d := 1)
  refine ⟨lw_v hi hL (by omega), ?_⟩
  apply cq_int (d := 13) ⟨_, rfl, fun z => by cases z⟩
  refine op_copyHolds hI (fun r mi1 ml1 hm hx => ?_)
  obtain ⟨x, hx⟩ := hx
  obtain rfl : r = .int x := Option.some.inj hx
  apply rg_L_law_1853 (d := 1)
  refine ⟨lw_v hi hL (by omega), ?_⟩
  refine hm _ (fun mi2 ml2 hI2 => ?_)
  apply rg_L_law_1862 (d := 1)
  exact br_t rfl (hk mi2 ml2 hI2)
theorem lw_c54 (hE : EK E) (hI : INV mi ml) (hi : i + 6 ≤ E.1.1) (hL : E.1.1 ≤ 3072) (hk : ∀ mi ml, INV mi ml → rn E 14 340 K 1972 [.retAddr 0, .ref 0, .ref 106, .int (nI i)] [] mi ml) : rn E 14 340 K 1867 [.retAddr 0, .ref 0, .ref 106, .int (nI i)] [] mi ml := by
  apply rg_L_law_1867 (d := 1)
  refine ⟨lw_v hi hL (by omega), ?_⟩
  apply cq_int (d := 13) ⟨_, rfl, fun z => by cases z⟩
  refine op_live hI (fun r mi1 ml1 hm hx => ?_)
  obtain ⟨x, hx⟩ := hx
  obtain rfl : r = .int x := Option.some.inj hx
  apply rg_L_law_1876 (d := 1)
  refine ⟨lw_v hi hL (by omega), ?_⟩
  refine hm _ (fun mi2 ml2 hI2 => ?_)
  apply rg_L_law_1885 (d := 1)
  exact br_t rfl (hk mi2 ml2 hI2)
theorem lw_c55 (hE : EK E) (hI : INV mi ml) (hi : i + 6 ≤ E.1.1) (hL : E.1.1 ≤ 3072) (hk : ∀ mi ml, INV mi ml → rn E 14 340 K 1972 [.retAddr 0, .ref 0, .ref 106, .int (nI i)] [] mi ml) : rn E 14 340 K 1890 [.retAddr 0, .ref 0, .ref 106, .int (nI i)] [] mi ml := by
  apply rg_L_law_1890 (d := 1)
  refine ⟨lw_v hi hL (by omega), ?_⟩
  apply cq_int (d := 13) ⟨_, rfl, fun z => by cases z⟩
  refine op_lived hI (fun r mi1 ml1 hm hx => ?_)
  obtain ⟨x, hx⟩ := hx
  obtain rfl : r = .int x := Option.some.inj hx
  apply rg_L_law_1899 (d := 1)
  refine ⟨lw_v hi hL (by omega), ?_⟩
  refine hm _ (fun mi2 ml2 hI2 => ?_)
  apply rg_L_law_1908 (d := 1)
  exact br_t rfl (hk mi2 ml2 hI2)
theorem lw_c56 (hE : EK E) (hI : INV mi ml) (hi : i + 6 ≤ E.1.1) (hL : E.1.1 ≤ 3072) (hk : ∀ mi ml, INV mi ml → rn E 14 340 K 1972 [.retAddr 0, .ref 0, .ref 106, .int (nI i)] [] mi ml) : rn E 14 340 K 1913 [.retAddr 0, .ref 0, .ref 106, .int (nI i)] [] mi ml := by
  apply rg_L_law_1913 (d := 1)
  refine ⟨lw_v hi hL (by omega), lw_v hi hL (by omega), ?_⟩
  apply cq_int (d := 13) ⟨_, rfl, fun z => by cases z⟩
  refine op_mean hI (fun r mi1 ml1 hm hx => ?_)
  obtain ⟨x, hx⟩ := hx
  obtain rfl : r = .int x := Option.some.inj hx
  apply rg_L_law_1927 (d := 1)
  refine ⟨lw_v hi hL (by omega), lw_v hi hL (by omega), ?_⟩
  refine hm _ (fun mi2 ml2 hI2 => ?_)
  apply rg_L_law_1941 (d := 1)
  exact br_t rfl (hk mi2 ml2 hI2)
theorem lw_c57 (hE : EK E) (hI : INV mi ml) (hi : i + 6 ≤ E.1.1) (hL : E.1.1 ≤ 3072) (hk : ∀ mi ml, INV mi ml → rn E 14 340 K 1972 [.retAddr 0, .ref 0, .ref 106, .int (nI i)] [] mi ml) : rn E 14 340 K 1946 [.retAddr 0, .ref 0, .ref 106, .int (nI i)] [] mi ml := by
  apply rg_L_law_1946 (d := 1)
  apply cq_int (d := 13) ⟨_, rfl, fun z => by cases z⟩
  refine op_mark hI (fun r mi1 ml1 hm hx => ?_)
  obtain ⟨x, hx⟩ := hx
  obtain rfl : r = .int x := Option.some.inj hx
  apply rg_L_law_1950 (d := 1)
  refine ?_
  refine hm _ (fun mi2 ml2 hI2 => ?_)
  apply rg_L_law_1954 (d := 1)
  exact br_t rfl (hk mi2 ml2 hI2)
theorem lw_c58 (hE : EK E) (hI : INV mi ml) (hi : i + 6 ≤ E.1.1) (hL : E.1.1 ≤ 3072) (hk : ∀ mi ml, INV mi ml → rn E 14 340 K 1972 [.retAddr 0, .ref 0, .ref 106, .int (nI i)] [] mi ml) : rn E 14 340 K 1959 [.retAddr 0, .ref 0, .ref 106, .int (nI i)] [] mi ml := by
  apply rg_L_law_1959 (d := 1)
  apply cq_int (d := 13) ⟨_, rfl, fun z => by cases z⟩
  refine op_undo hI (fun r mi1 ml1 hm hx => ?_)
  obtain ⟨x, hx⟩ := hx
  obtain rfl : r = .int x := Option.some.inj hx
  apply rg_L_law_1963 (d := 1)
  refine ?_
  refine hm _ (fun mi2 ml2 hI2 => ?_)
  apply rg_L_law_1967 (d := 1)
  exact br_t rfl (hk mi2 ml2 hI2)
theorem lw_loop (hE : EK E) (hL : E.1.1 ≤ 3072) (h6 : 6 ≤ E.1.1) : ∀ f i mi ml, E.1.1 ≤ i + f → i ≤ E.1.1 → INV mi ml → rn E 14 340 (fun r _ => r = some (.int 1)) 18 [.retAddr 0, .ref 0, .ref 106, .int (nI i)] [] mi ml := by
  intro f
  induction f with
  | zero =>
    intro i mi ml h1 h2 hI
    apply rg_L_law_18 (d := 1)
    rw [show Int32.ofNat E.1.1 = nI E.1.1 from rfl, ni_sub h6, ni_lt (by omega) (by omega)]
    exact br_t (by omega) rfl
  | succ f ih =>
    intro i mi ml h1 h2 hI
    apply rg_L_law_18 (d := 1)
    rw [show Int32.ofNat E.1.1 = nI E.1.1 from rfl, ni_sub h6, ni_lt (by omega) (by omega)]
    refine ⟨fun _ => rfl, fun q => ⟨by rw [ni_in (by omega)]; omega, ?_⟩⟩
    have nx : ∀ mi ml, INV mi ml → rn E 14 340 (fun r _ => r = some (.int 1)) 1972 [.retAddr 0, .ref 0, .ref 106, .int (nI i)] [] mi ml := fun mi ml hI => by
      apply rg_L_law_1972 (d := 1)
      rw [nI_add]
      exact ih (i + 6) mi ml (by omega) (by omega) hI
    exact ⟨fun _ => lw_c0 hE hI (by omega) hL nx, fun _ => lw_c1 hE hI (by omega) hL nx, fun _ => lw_c2 hE hI (by omega) hL nx, fun _ => lw_c3 hE hI (by omega) hL nx, fun _ => lw_c4 hE hI (by omega) hL nx, fun _ => lw_c5 hE hI (by omega) hL nx, fun _ => lw_c6 hE hI (by omega) hL nx, fun _ => lw_c7 hE hI (by omega) hL nx, fun _ => lw_c8 hE hI (by omega) hL nx, fun _ => lw_c9 hE hI (by omega) hL nx, fun _ => lw_c10 hE hI (by omega) hL nx, fun _ => lw_c11 hE hI (by omega) hL nx, fun _ => lw_c12 hE hI (by omega) hL nx, fun _ => lw_c13 hE hI (by omega) hL nx, fun _ => lw_c14 hE hI (by omega) hL nx, fun _ => lw_c15 hE hI (by omega) hL nx, fun _ => lw_c16 hE hI (by omega) hL nx, fun _ => lw_c17 hE hI (by omega) hL nx, fun _ => lw_c18 hE hI (by omega) hL nx, fun _ => lw_c19 hE hI (by omega) hL nx, fun _ => lw_c20 hE hI (by omega) hL nx, fun _ => lw_c21 hE hI (by omega) hL nx, fun _ => lw_c22 hE hI (by omega) hL nx, fun _ => lw_c23 hE hI (by omega) hL nx, fun _ => lw_c24 hE hI (by omega) hL nx, fun _ => lw_c25 hE hI (by omega) hL nx, fun _ => lw_c26 hE hI (by omega) hL nx, fun _ => lw_c27 hE hI (by omega) hL nx, fun _ => lw_c28 hE hI (by omega) hL nx, fun _ => lw_c29 hE hI (by omega) hL nx, fun _ => lw_c30 hE hI (by omega) hL nx, fun _ => lw_c31 hE hI (by omega) hL nx, fun _ => lw_c32 hE hI (by omega) hL nx, fun _ => lw_c33 hE hI (by omega) hL nx, fun _ => lw_c34 hE hI (by omega) hL nx, fun _ => lw_c35 hE hI (by omega) hL nx, fun _ => lw_c36 hE hI (by omega) hL nx, fun _ => lw_c37 hE hI (by omega) hL nx, fun _ => lw_c38 hE hI (by omega) hL nx, fun _ => lw_c39 hE hI (by omega) hL nx, fun _ => lw_c40 hE hI (by omega) hL nx, fun _ => lw_c41 hE hI (by omega) hL nx, fun _ => lw_c42 hE hI (by omega) hL nx, fun _ => lw_c43 hE hI (by omega) hL nx, fun _ => lw_c44 hE hI (by omega) hL nx, fun _ => lw_c45 hE hI (by omega) hL nx, fun _ => lw_c46 hE hI (by omega) hL nx, fun _ => lw_c47 hE hI (by omega) hL nx, fun _ => lw_c48 hE hI (by omega) hL nx, fun _ => lw_c49 hE hI (by omega) hL nx, fun _ => lw_c50 hE hI (by omega) hL nx, fun _ => lw_c51 hE hI (by omega) hL nx, fun _ => lw_c52 hE hI (by omega) hL nx, fun _ => lw_c53 hE hI (by omega) hL nx, fun _ => lw_c54 hE hI (by omega) hL nx, fun _ => lw_c55 hE hI (by omega) hL nx, fun _ => lw_c56 hE hI (by omega) hL nx, fun _ => lw_c57 hE hI (by omega) hL nx, fun _ => lw_c58 hE hI (by omega) hL nx, fun _ _ _ _ _ _ _ _ _ _ _ _ _ _ _ _ _ _ _ _ _ _ _ _ _ _ _ _ _ _ _ _ _ _ _ _ _ _ _ _ _ _ _ _ _ _ _ _ _ _ _ _ _ _ _ _ _ _ _ => nx mi ml hI⟩
theorem lw_small : ∀ L, L < 6 → nI L - nI 6 < nI 0 := by decide +kernel
theorem lw_all (hE : EK E) (hL : E.1.1 ≤ 3072) (hI : INV mi ml) : rn E 14 340 (fun r _ => r = some (.int 1)) 18 [.retAddr 0, .ref 0, .ref 106, .int (nI 0)] [] mi ml := by
  by_cases h6 : 6 ≤ E.1.1
  · exact lw_loop hE hL h6 E.1.1 0 mi ml (by omega) (by omega) hI
  · apply rg_L_law_18 (d := 1)
    exact br_t (lw_small E.1.1 (by omega)) rfl
end
