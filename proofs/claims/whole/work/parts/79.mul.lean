/-! 'new T[n][m]' of rows of longs, by the machine's own words. -/
section
variable {E : CtlPost} {e : Env} {d : Bool} {acts : List Action} {s : State}
theorem mu_new {c comp : ClassId} {k : Class} {ty : FieldType} {N : Nat} {v : Value} (hk : s.vm.classes[c]? = some k) (hkd : k.kind = .array comp ty) (hl : ¬ N > e.platform.arrayLengthLimit) (hh : ¬ N * componentBytes ty > e.platform.maxHeapBytes) (hf : fits ty v = true) (hv : v.isDefault = true) (h1 : s.heap.size < e.platform.maxCells) (h2 : s.slotsUsed + N ≤ e.platform.maxSlots) {Q : Addr → Pre} (hq : Q s.heap.size d acts (s.pushCell (arrV c N (fun _ => v)))) : wp (Jvm.newArray c N v) Q E e d acts s := by
  have g1 : ((Array.replicate N v).all (·.isDefault)) = true := by
    rw [Array.all_replicate]; split <;> simp [hv]
  have g2 : allocActs (Array.replicate N v) s.heap.size acts = acts := by unfold allocActs; rw [if_pos g1]
  have g3 : ∀ i w, (Array.replicate N v)[i]? = some w → s.fitsSlot c .none i w = true := fun i w hw => by
    rw [Array.getElem?_replicate] at hw
    split at hw
    · obtain rfl := Option.some.inj hw
      simp [State.fitsSlot, State.slotType?, hk, hkd, hf]
    · cases hw
  rw [← arrV_new] at hq
  simp only [Jvm.newArray, Jvm.arrayFits, wp_bind', Jvm.W.ask, Jvm.W.ite, hl, if_false, wp_pure', Jvm.W.theClass, hk, hkd, hh, Jvm.W.alloc, Jvm.W.stop, Option.some.injEq, exists_eq_left', Array.size_replicate, g2]
  rw [if_neg (by omega)]
  exact ⟨h1, h2, g3, hq⟩
theorem mu_row {c ci : ClassId} {k : Class} {m : Int32} (hk : s.vm.classes[c]? = some k) (hkd : k.kind = .array ci .long) (hm : ¬ m < 0) (hl : ¬ m.toNatClampNeg > e.platform.arrayLengthLimit) (hh : ¬ m.toNatClampNeg * componentBytes .long > e.platform.maxHeapBytes) (h1 : s.heap.size < e.platform.maxCells) (h2 : s.slotsUsed + m.toNatClampNeg ≤ e.platform.maxSlots) {Q : Addr → Pre} (hq : Q s.heap.size d acts (s.pushCell (arrV c m.toNatClampNeg (fun _ => .long 0)))) : wp (multianewarray.make c [m]) Q E e d acts s := by
  rw [multianewarray.make]
  simp only [wp_bind', Jvm.W.ite, hm, if_false, wp_pure', Jvm.W.theClass, hk, hkd, Option.some.injEq, exists_eq_left']
  exact mu_new hk hkd hl hh rfl rfl h1 h2 hq
end
/-- the outer row when i of the rows are there -/
def mu_f (h i : Nat) (j : Nat) : Value := if j < i then .ref (h + 1 + j) else .null
def mu_S (T : State) (cA cJ : ClassId) (N M : Nat) : Nat → State
  | 0 => T.pushCell (arrV cA N (mu_f T.heap.size 0))
  | i + 1 => ((mu_S T cA cJ N M i).pushCell (arrV cJ M (fun _ => .long 0))).setCell T.heap.size (arrV cA N (mu_f T.heap.size (i + 1)))
theorem mu_f_s (cA : ClassId) (N h i : Nat) : (arrV cA N (mu_f h i)).setSlot i (.ref (h + 1 + i)) = arrV cA N (mu_f h (i + 1)) := by
  rw [arrV_store]
  congr 1
  funext j
  unfold updV mu_f
  by_cases e : j = i
  · rw [if_pos e, if_pos (by omega), e]
  · rw [if_neg e]
    by_cases z : j < i
    · rw [if_pos z, if_pos (by omega)]
    · rw [if_neg z, if_neg (by omega)]
theorem mu_0 (cA : ClassId) (N h : Nat) : arrV cA N (fun _ => .null) = arrV cA N (mu_f h 0) := by
  congr 1
theorem mu_heap (T : State) (cA cJ : ClassId) (N M : Nat) : ∀ i, (mu_S T cA cJ N M i).vm = T.vm ∧ (mu_S T cA cJ N M i).heap.size = T.heap.size + 1 + i ∧ (mu_S T cA cJ N M i).heap[T.heap.size]? = some (arrV cA N (mu_f T.heap.size i)) ∧ (∀ j, j < i → (mu_S T cA cJ N M i).heap[T.heap.size + 1 + j]? = some (arrV cJ M (fun _ => .long 0))) ∧ (∀ q, q < T.heap.size → (mu_S T cA cJ N M i).heap[q]? = T.heap[q]?)
  | 0 => ⟨rfl, by simp [mu_S], by simp [mu_S], fun j hj => absurd hj (Nat.not_lt_zero _), fun q hq => State.heap_pushCell_of_lt _ _ hq⟩
  | i + 1 => by
    obtain ⟨a1, a2, a3, a4, a5⟩ := mu_heap T cA cJ N M i
    have z : ((mu_S T cA cJ N M i).pushCell (arrV cJ M (fun _ => .long 0))).heap.size = T.heap.size + 1 + i + 1 := by simp [a2]
    have o : ∀ q, q ≠ T.heap.size → (mu_S T cA cJ N M (i + 1)).heap[q]? = ((mu_S T cA cJ N M i).pushCell (arrV cJ M (fun _ => .long 0))).heap[q]? := fun q hq => heapAt_setCell_ne _ (Ne.symm hq)
    have lt : ∀ q : Nat, q < T.heap.size + 1 + i → q < (mu_S T cA cJ N M i).heap.size := fun q h => by rw [a2]; exact h
    have lt0 : T.heap.size < ((mu_S T cA cJ N M i).pushCell (arrV cJ M (fun _ => .long 0))).heap.size := by rw [z]; omega
    refine ⟨by show ((mu_S T cA cJ N M i).pushCell (arrV cJ M (fun _ => .long 0))).vm = _; exact a1, ?_, heapAt_setCell_self _ lt0, fun j hj => ?_, fun q hq => ?_⟩
    · show (((mu_S T cA cJ N M i).pushCell (arrV cJ M (fun _ => .long 0))).setCell T.heap.size (arrV cA N (mu_f T.heap.size (i + 1)))).heap.size = _
      rw [size_setCell, z]; omega
    · rw [o _ (by omega)]
      by_cases e : j = i
      · rw [e, ← a2]; exact State.heap_pushCell_size _ _
      · rw [State.heap_pushCell_of_lt (h := lt _ (by omega))]; exact a4 j (by omega)
    · rw [o _ (by omega), State.heap_pushCell_of_lt (h := lt _ (by omega))]; exact a5 q hq
section
variable {p : Program} {l : Launch} {e : Env} {R : Room} {s : State} {m : MethodId} {args : Array Value} {below : List Frame} {meth : Method} {c : Code}
theorem mu_St {T : State} {locs : List Loc} {cells slots : Nat} (X : Stand p l e R s m args below meth c T locs cells slots) (cA cJ : ClassId) (N M : Nat) : ∀ i, Stand p l e R s m args below meth c (mu_S T cA cJ N M i) locs (cells + 1 + i) (slots + N + i * M)
  | 0 => by
    have h := X.pushed (arrV cA N (mu_f T.heap.size 0))
    rw [arrV_size] at h
    rw [Nat.zero_mul]
    exact h
  | i + 1 => by
    obtain ⟨a1, a2, a3, a4, a5⟩ := mu_heap T cA cJ N M i
    have Xi := (mu_St X cA cJ N M i).pushed (arrV cJ M (fun _ => .long 0))
    have hc : ((mu_S T cA cJ N M i).pushCell (arrV cJ M (fun _ => .long 0))).heap[T.heap.size]? = some (arrV cA N (mu_f T.heap.size i)) := by
      have lt : T.heap.size < (mu_S T cA cJ N M i).heap.size := by rw [a2]; omega
      rw [State.heap_pushCell_of_lt (h := lt)]; exact a3
    have h := (Xi.stored hc i (.ref (T.heap.size + 1 + i))).dropFresh (fun x hx => by
      rw [List.mem_singleton.mp hx]; exact X.heapGrown)
    rw [mu_f_s, arrV_size] at h
    rw [show slots + N + (i + 1) * M = slots + N + i * M + M by rw [Nat.succ_mul]; omega]
    exact h
set_option maxHeartbeats 1000000 in
theorem mu_make {E : CtlPost} {d : Bool} {acts : List Action} {T : State} {f : JFrame} {locs : List Loc} {cells slots : Nat} (X : Stand p l e R s m args below meth c T locs cells slots) {cA cJ ci : ClassId} {kA kC : Class} {n k : Int32} (hkA : T.vm.classes[cA]? = some kA) (hdA : kA.kind = .array cJ (.array .long)) (hkC : T.vm.classes[cJ]? = some kC) (hdC : kC.kind = .array ci .long) (hn : ¬ n < 0) (hk : ¬ k < 0) (hl1 : ¬ n.toNatClampNeg > e.platform.arrayLengthLimit) (hh1 : ¬ n.toNatClampNeg * componentBytes (.array .long) > e.platform.maxHeapBytes) (hl2 : ¬ k.toNatClampNeg > e.platform.arrayLengthLimit) (hh2 : ¬ k.toNatClampNeg * componentBytes .long > e.platform.maxHeapBytes) (hcells : cells + (1 + n.toNatClampNeg) ≤ R.cells) (hslots : slots + (n.toNatClampNeg + n.toNatClampNeg * k.toNatClampNeg) ≤ R.slots) {Q : Addr → Pre} (hq : ∀ d' acts', Q T.heap.size d' acts' ((mu_S T cA cJ n.toNatClampNeg k.toNatClampNeg n.toNatClampNeg).setTop f)) : wp (multianewarray.make cA [n, k]) Q E e d acts (T.setTop f) := by
  have hfd : ([k].find? (· < 0)) = none := by simp [hk]
  have rm : ∀ i, i ≤ n.toNatClampNeg → i * k.toNatClampNeg ≤ n.toNatClampNeg * k.toNatClampNeg := fun i hi => Nat.mul_le_mul_right _ hi
  obtain ⟨r1, r2⟩ := X.roomAbove hcells hslots
  rw [multianewarray.make]
  simp only [wp_bind', Jvm.W.ite, hn, if_false, wp_pure', Jvm.W.theClass, State.vm_setTop, hkA, hdA, Option.some.injEq, exists_eq_left']
  refine mu_new (s := T.setTop f) hkA hdA hl1 hh1 rfl rfl (by show T.heap.size < _; omega) (by show T.slotsUsed + _ ≤ _; omega) ?_
  simp only [hfd]
  rw [ite_self, wp_bind', Std.Legacy.Range.forIn_eq_forIn_range']
  rw [show ([:n.toNatClampNeg] : Std.Legacy.Range).size = n.toNatClampNeg by simp [Std.Legacy.Range.size]]
  show wp (forIn (List.range' 0 n.toNatClampNeg 1) PUnit.unit _) _ E e d acts _
  refine wp_forIn_inv (fun rest V => ∃ i, i + rest.length = n.toNatClampNeg ∧ rest = List.range' i rest.length ∧ V = (mu_S T cA cJ n.toNatClampNeg k.toNatClampNeg i).setTop f) _ _ ⟨0, by simp, by simp, ?_⟩ ?_ ?_
  · show (T.setTop f).pushCell _ = (T.pushCell _).setTop f
    rw [mu_0 _ _ T.heap.size, State.pushCell_setTop]
  · rintro x rest V d' acts' Q' ⟨i, h1, h2, rfl⟩ hnext
    rw [List.length_cons] at h1 h2
    rw [List.range'_succ] at h2
    obtain ⟨rfl, h2⟩ := List.cons.inj h2
    obtain ⟨a1, a2, a3, a4, a5⟩ := mu_heap T cA cJ n.toNatClampNeg k.toNatClampNeg x
    have Xi := mu_St X cA cJ n.toNatClampNeg k.toNatClampNeg x
    have hm := rm (x + 1) (by omega)
    rw [Nat.succ_mul] at hm
    obtain ⟨u1, u2⟩ := Xi.roomAbove (a := 1) (b := k.toNatClampNeg) (by omega) (by omega)
    simp only [wp_bind']
    refine mu_row (by rw [State.vm_setTop, a1]; exact hkC) hdC hk hl2 hh2 (by show (mu_S T cA cJ n.toNatClampNeg k.toNatClampNeg x).heap.size < _; omega) (by show (mu_S T cA cJ n.toNatClampNeg k.toNatClampNeg x).slotsUsed + _ ≤ _; omega) ?_
    simp only [wp_bind', Jvm.W.writeLoc, wp_pure']
    refine ⟨arrV cA n.toNatClampNeg (mu_f T.heap.size x), ?_, (fun z => by cases z), by rw [arrV_size]; omega, ?_, hnext _ _ _ ⟨x + 1, by omega, h2, ?_⟩⟩
    · show ((mu_S T cA cJ n.toNatClampNeg k.toNatClampNeg x).pushCell _).heap[T.heap.size]? = _
      have lt : T.heap.size < (mu_S T cA cJ n.toNatClampNeg k.toNatClampNeg x).heap.size := by rw [a2]; omega
      rw [State.heap_pushCell_of_lt (h := lt)]; exact a3
    · show State.fitsSlot (mu_S T cA cJ n.toNatClampNeg k.toNatClampNeg x) cA .none x _ = true
      simp [State.fitsSlot, State.slotType?, a1, hkA, hdA, fits]
    · simp only [State.heap_setTop, a2, mu_f_s]
      rfl
  · rintro V d' acts' ⟨i, h1, h2, rfl⟩
    have : i = n.toNatClampNeg := by simpa using h1
    subst this
    simp only [wp_pure']
    exact hq _ _
variable {H : Heap} {locs : List Loc} {cells slots : Nat} {Q : State → Prop}
set_option maxHeartbeats 1000000 in
theorem mu_W {cc : ByteArray} (hexec : p.tables.exec = Jvm.exec) (hb : c.code = cc) {own : String} {index : Nat} (hown : s.vm.findClass own = some m.cls) (hclink : (Cond.classLink own index "[[J").before args s = true) {cA cJ ci : ClassId} {kA kC : Class} (hA : s.vm.findClass "[[J" = some cA) (hkA : s.vm.classes[cA]? = some kA) (hdA : kA.kind = .array cJ (.array .long)) (hkC : s.vm.classes[cJ]? = some kC) (hdC : kC.kind = .array ci .long) {g : JFrame} (hg : g.method = m) (hdg : decode cc g.pc = .ok (.multianewarray index 2, 4)) {n k : Int32} {rest : List Value} (hst : g.stack = .int k :: .int n :: rest) (hn : ¬ n < 0) (hk : ¬ k < 0) (hN : n.toNatClampNeg ≤ 1000) (hM : k.toNatClampNeg ≤ 1000) (hcells : cells + (1 + n.toNatClampNeg) ≤ R.cells) (hslots : slots + (n.toNatClampNeg + n.toNatClampNeg * k.toNatClampNeg) ≤ R.slots)
    (kk : ∀ H' : Heap, H'.size = H.size + (1 + n.toNatClampNeg) → H'[H.size]? = some (arrV cA n.toNatClampNeg (mu_f H.size n.toNatClampNeg)) → (∀ i, i < n.toNatClampNeg → H'[H.size + 1 + i]? = some (arrV cJ k.toNatClampNeg (fun _ => .long 0))) → (∀ q, q < H.size → H'[q]? = H[q]?) → W p l e R s m args below meth c H' locs (cells + (1 + n.toNatClampNeg)) (slots + (n.toNatClampNeg + n.toNatClampNeg * k.toNatClampNeg)) Q { g with pc := g.pc + 4, stack := .ref H.size :: rest }) : W p l e R s m args below meth c H locs cells slots Q g := by
  intro T hT X
  subst hT; subst hb; subst hg
  have hpl : e.platform.magicAccessors = ({} : Platform).magicAccessors := by rw [X.admits.platform]
  obtain ⟨c0, hf0, hcl⟩ := Cond.classLink_spec hown hclink e.platform hpl
  cases hA.symm.trans hf0
  obtain ⟨hg1, hw1, hr1⟩ := State.classEntry (e := e) X.warmed hcl
  generalize T.vm.noted g.method.cls index (.cls cA) = vm1 at hg1 hw1 hr1
  obtain ⟨kA1, hkA1, eA⟩ := hw1.alike.2.2 _ _ hkA
  obtain ⟨kC1, hkC1, eC⟩ := hw1.alike.2.2 _ _ hkC
  have hdA1 : kA1.kind = .array cJ (.array .long) := by rw [eA]; exact hdA
  have hdC1 : kC1.kind = .array ci .long := by rw [eC]; exact hdC
  have X1 := X.noted hw1
  have XN := mu_St X1 cA cJ n.toNatClampNeg k.toNatClampNeg n.toNatClampNeg
  obtain ⟨a1, a2, a3, a4, a5⟩ := mu_heap (T.setVm vm1) cA cJ n.toNatClampNeg k.toNatClampNeg n.toNatClampNeg
  have hl1 : ¬ n.toNatClampNeg > e.platform.arrayLengthLimit := by rw [Launch.admits_arrayLengthLimit X.admits]; omega
  have hh1 : ¬ n.toNatClampNeg * componentBytes (.array .long) > e.platform.maxHeapBytes := by
    rw [Launch.admits_maxHeapBytes X.admits]; show ¬ n.toNatClampNeg * 4 > 536870912; omega
  have hl2 : ¬ k.toNatClampNeg > e.platform.arrayLengthLimit := by rw [Launch.admits_arrayLengthLimit X.admits]; omega
  have hh2 : ¬ k.toNatClampNeg * componentBytes .long > e.platform.maxHeapBytes := by
    rw [Launch.admits_maxHeapBytes X.admits]; show ¬ k.toNatClampNeg * 8 > 536870912; omega
  obtain ⟨t, b1, b2⟩ := kk _ (by rw [a2]; show T.heap.size + 1 + _ = _; omega) a3 a4 a5 _ rfl (by rw [← Nat.add_assoc cells, ← Nat.add_assoc slots]; exact XN)
  refine ⟨t, ?_, b2⟩
  jvm_step X.here [hexec, hdg]
  simp only [multianewarray.sem, wp_bind', Jvm.W.resolveClassAt_links (State.method?_setTop g X.here.top) hg1]
  rw [Jvm.W.popN, if_neg (by decide)]
  refine ⟨g, State.topJava?_setTop' (s := T.setVm vm1) g X.here.top, [.int n, .int k], rest, rfl, hst, ?_⟩
  simp only [List.mapM_cons, List.mapM_nil, wp_bind', wp_pure']
  rw [show ((T.setTop g).setVm vm1).setTop { g with stack := rest } = (T.setVm vm1).setTop { g with stack := rest } by
    show ((T.setVm vm1).setTop g).setTop _ = _
    rw [State.setTop_setTop]]
  refine mu_make X1 hkA1 hdA1 hkC1 hdC1 hn hk hl1 hh1 hl2 hh2 hcells hslots (fun d' acts' => ?_)
  simp only [wp_bind', Jvm.W.mark, Jvm.W.pushRef, State.topJava?_setTop' _ XN.here.top, Option.some.injEq, exists_eq_left', State.setTop_setTop, State.heap_setTop]
  intro acts
  simp [jvm, XN.here.top]
  exact b1
end
theorem mu_cst (own k : Nat) (h : pCst PP own k = some (.double 3)) : own = 6 ∧ k = 11 := by
  obtain ⟨h1, h2⟩ := tb_look (t := tb_ks) h
  have hall : (List.range 19).all (fun own => (tb_ks.getD own []).all fun e => match e.2 with
      | .double _ => (Nat.beq own 6 && Nat.beq e.1 11) || (match e.2 with | .double 3 => false | _ => true)
      | _ => true) = true := by decide +kernel
  have h3 := List.all_eq_true.mp (List.all_eq_true.mp hall own (List.mem_range.mpr h1)) _ h2
  simp only [Bool.or_eq_true, Bool.and_eq_true] at h3
  rcases h3 with ⟨a, b⟩ | z
  · exact ⟨Nat.eq_of_beq_eq_true a, Nat.eq_of_beq_eq_true b⟩
  · simp at z
theorem mu_cl : Cond.classLink "IslandCall$Trays" 11 "[[J" ∈ tW TT := by decide +kernel
theorem mu_ac : Cond.arrayClass .long ∈ tW TT := by decide +kernel
set_option maxHeartbeats 4000000 in
theorem mu_ok : ∀ (X : am_X) (l : Launch), am_Xok X TT → (∃ cA, xA X (.array .long) = some cA) → am_mul X TT l := by
  intro X l hX ⟨cA, hcA⟩ p e R s m args below meth c Q y n0 z0 lim C K k j hcx hl1 hl2 pc L st M n t hc h
  intro H ls locs cells slots hR hS hL hN h1 h2 h3 h4
  obtain ⟨hx, hb, hown, hts, hlk, hin, hw, hret⟩ := hcx
  obtain ⟨hd, htg⟩ := tb_G.1 y pc _ n t hc
  have hz := hR.1
  unfold am_step at h
  dsimp only at h
  split at h
  · next b1 b2 =>
    obtain ⟨n', m', st, rfl, g1, g2, g3, g4, g5, g6, h⟩ := am_i2_inv h
    have hj : j = 2 := Nat.eq_of_beq_eq_true b1
    subst hj
    obtain ⟨ho, hk⟩ := mu_cst _ _ b2
    subst hk
    obtain ⟨-, q2, q3⟩ := hw.2.1 _ _ hcA
    obtain ⟨kA, comp, r1, r2, r3⟩ := q3 rfl
    obtain ⟨comp', kC, ci, s1, s2, s3⟩ := Cond.arrayClass_spec (hts _ mu_ac)
    have ec : comp' = comp := Option.some.inj (s1.symm.trans r3)
    subst ec
    obtain ⟨cJ, hJ⟩ := hX.2.2.2.2.1 _ mu_ac
    have hcJ : cJ = comp' := Option.some.inj ((hw.2.1 _ _ hJ).2.1.symm.trans s1)
    subst hcJ
    have hown' : s.vm.findClass "IslandCall$Trays" = some m.cls := by
      rw [ho] at hown; exact hown
    refine mu_W hx hb hown' (hts _ mu_cl) q2 r1 r2 s2 s3 rfl hd rfl g1 g2 g3 g4 (by omega) (by omega) fun H' e1 e2 e3 e4 => ?_
    generalize hN1 : n'.toNatClampNeg = N at *
    generalize hM1 : m'.toNatClampNeg = D at *
    have hlen : (M.1.1 ++ (.inr (.array .long, N) :: List.replicate N (.inr (.long, D)) : List am_Shp)).length = M.1.1.length + (1 + N) := by simp; omega
    have hsz : am_sz (tP TT) ((M.1.1 ++ (.inr (.array .long, N) :: List.replicate N (.inr (.long, D))), fun a i => if a = M.1.1.length then (if i < N then some (M.1.1.length + 1 + i) else none) else M.1.2 a i), M.2) = am_sz (tP TT) M + (N + N * D) := by
      unfold am_sz
      simp [am_szq]
    have g := h H' ls locs (cells + (1 + N)) (slots + (N + N * D)) ⟨?_, fun k q hk => ?_, fun k hk i => ?_⟩ ⟨Nat.le_trans hS.1 (by omega), fun q u1 u2 => (e4 q (Nat.lt_of_lt_of_le u1 hS.1)).trans (hS.2.1 q u1 u2), hS.2.2⟩ hL hN (by rw [hlen]; omega) (by rw [hsz]; omega) (by rw [hlen]; omega) (by rw [hsz]; omega)
    · have e2 : (Value.ref M.1.1.length :: st).map (xcv X) = .ref H.size :: st.map (xcv X) := by rw [hz]; rfl
      rw [e2] at g
      exact g
    · show H'.size = xB X + (M.1.1 ++ (.inr (.array .long, N) :: List.replicate N (.inr (.long, D)) : List am_Shp)).length
      rw [e1, hlen, hz]; omega
    · have hk' : (M.1.1 ++ (.inr (.array .long, N) :: List.replicate N (.inr (.long, D)) : List am_Shp))[k]? = some q := hk
      by_cases u : k < M.1.1.length
      · rw [List.getElem?_append_left u] at hk'
        exact am_at_congr (hR.2.1 k q hk') (e4 _ (by omega)) (fun j => ⟨rfl, rfl, if_neg (by omega)⟩)
      · rw [List.getElem?_append_right (by omega)] at hk'
        by_cases u0 : k = M.1.1.length
        · subst u0
          rw [Nat.sub_self] at hk'
          have hq : q = .inr (.array .long, N) := (Option.some.inj hk').symm
          subst hq
          refine ⟨cA, hcA, ?_⟩
          rw [← hz, e2]
          congr 2
          funext i
          unfold mu_f am_val
          show _ = (match (if M.1.1.length = M.1.1.length then (if i < N then some (M.1.1.length + 1 + i) else none) else M.1.2 M.1.1.length i) with | some a => Value.ref (xB X + a) | none => .null)
          rw [if_pos rfl]
          by_cases u1 : i < N
          · rw [if_pos u1, if_pos u1]
            exact congrArg Value.ref (show (H.size + 1 + i : Nat) = xB X + (M.1.1.length + 1 + i) by rw [hz]; omega)
          · rw [if_neg u1, if_neg u1]
        · obtain ⟨i, hi⟩ : ∃ i, k = M.1.1.length + 1 + i := ⟨k - M.1.1.length - 1, by omega⟩
          subst hi
          rw [show M.1.1.length + 1 + i - M.1.1.length = i + 1 by omega, List.getElem?_cons_succ, List.getElem?_replicate] at hk'
          split at hk'
          · next u1 =>
            have hq : q = .inr (.long, D) := (Option.some.inj hk').symm
            subst hq
            refine ⟨cJ, hJ, ?_⟩
            rw [show xB X + (M.1.1.length + 1 + i) = H.size + 1 + i by omega, e3 i u1]
            congr 2
            funext j
            have z := hR.2.2 (M.1.1.length + 1 + i) (by omega) j
            show Value.long 0 = Value.long (M.2.2 (M.1.1.length + 1 + i) j)
            rw [z.2.1]
          · cases hk'
    · have hk' : M.1.1.length + (1 + N) ≤ k := by rw [← hlen]; exact hk
      obtain ⟨z1, z2, z3⟩ := hR.2.2 k (by omega) i
      exact ⟨z1, z2, by show (if k = M.1.1.length then _ else M.1.2 k i) = none; rw [if_neg (by omega)]; exact z3⟩
  · exact h.elim
