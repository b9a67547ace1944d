/-! THE ENGINE: new int[3][n] -/
section XMU
variable {E : CtlPost} {e : Env} {d : Bool} {acts : List Action} {s : State}
theorem xm_make1 {c1 comp1 : ClassId} {k1 : Class} {n : Int32} {Q : Addr → Pre} (hk : s.vm.classes[c1]? = some k1) (hkind : k1.kind = .array comp1 .int) (hn : ¬ n < 0) (hlimit : ¬ n.toNatClampNeg > e.platform.arrayLengthLimit) (hheap : ¬ n.toNatClampNeg * componentBytes .int > e.platform.maxHeapBytes)
    (hcells : s.heap.size < e.platform.maxCells) (hslots : s.slotsUsed + n.toNatClampNeg ≤ e.platform.maxSlots) (hq : ∀ acts', Q s.heap.size d acts' (s.pushCell { cls := c1, slots := Array.replicate n.toNatClampNeg (.int 0) })) : wp (Jvm.Op.multianewarray.make c1 [n]) Q E e d acts s := by
  simp only [Jvm.Op.multianewarray.make, wp_bind', W.ite, hn, if_false, wp_pure', W.theClass, hk, Option.some.injEq, exists_eq_left', hkind]
  exact W.newArray_of hk hkind hlimit hheap hcells hslots rfl hq
def xm_o (c2 : ClassId) : Cell := { cls := c2, slots := Array.replicate 3 .null }
def xm_iz (c1 : ClassId) (N : Nat) : Cell := { cls := c1, slots := Array.replicate N (.int 0) }
def xm_o1 (c2 A : Nat) : Cell := (xm_o c2).setSlot 0 (.ref (A + 1))
def xm_o2 (c2 A : Nat) : Cell := (xm_o1 c2 A).setSlot 1 (.ref (A + 2))
def xm_o3 (c2 A : Nat) : Cell := (xm_o2 c2 A).setSlot 2 (.ref (A + 3))
def xm_t1 (s : State) (c2 c1 N : Nat) : State := ((s.pushCell (xm_o c2)).pushCell (xm_iz c1 N)).setCell s.heap.size (xm_o1 c2 s.heap.size)
def xm_t2 (s : State) (c2 c1 N : Nat) : State := ((xm_t1 s c2 c1 N).pushCell (xm_iz c1 N)).setCell s.heap.size (xm_o2 c2 s.heap.size)
def xm_t3 (s : State) (c2 c1 N : Nat) : State := ((xm_t2 s c2 c1 N).pushCell (xm_iz c1 N)).setCell s.heap.size (xm_o3 c2 s.heap.size)
theorem xm_t1_size (s : State) (c2 c1 N : Nat) : (xm_t1 s c2 c1 N).heap.size = s.heap.size + 2 := by simp [xm_t1, State.setCell, State.pushCell]
theorem xm_t2_size (s : State) (c2 c1 N : Nat) : (xm_t2 s c2 c1 N).heap.size = s.heap.size + 3 := by
  show (((xm_t1 s c2 c1 N).heap.push _).setIfInBounds _ _).size = _
  simp [xm_t1_size]
theorem xm_t3_size (s : State) (c2 c1 N : Nat) : (xm_t3 s c2 c1 N).heap.size = s.heap.size + 4 := by
  show (((xm_t2 s c2 c1 N).heap.push _).setIfInBounds _ _).size = _
  simp [xm_t2_size]
theorem xm_at_push (s : State) (x : Cell) {q : Nat} (h : q < s.heap.size) : (s.pushCell x).heap[q]? = s.heap[q]? := heap_pushCell_below s x h
theorem xm_at_set (s : State) (a : Nat) (x : Cell) {q : Nat} (h : q ≠ a) : (s.setCell a x).heap[q]? = s.heap[q]? := by
  show (s.heap.setIfInBounds a x)[q]? = _
  rw [Array.getElem?_setIfInBounds, if_neg (Ne.symm h)]
theorem xm_at_own (s : State) (a : Nat) (x : Cell) (h : a < s.heap.size) : (s.setCell a x).heap[a]? = some x := by
  show (s.heap.setIfInBounds a x)[a]? = _
  rw [Array.getElem?_setIfInBounds, if_pos rfl, if_pos h]
theorem xm_t1_o (s : State) (c2 c1 N : Nat) : (xm_t1 s c2 c1 N).heap[s.heap.size]? = some (xm_o1 c2 s.heap.size) := xm_at_own _ _ _ (by simp [State.pushCell]; omega)
theorem xm_t2_o (s : State) (c2 c1 N : Nat) : (xm_t2 s c2 c1 N).heap[s.heap.size]? = some (xm_o2 c2 s.heap.size) := xm_at_own _ _ _ (by
  show _ < ((xm_t1 s c2 c1 N).heap.push _).size
  rw [Array.size_push, xm_t1_size]; omega)
theorem xm_t3_o (s : State) (c2 c1 N : Nat) : (xm_t3 s c2 c1 N).heap[s.heap.size]? = some (xm_o3 c2 s.heap.size) := xm_at_own _ _ _ (by
  show _ < ((xm_t2 s c2 c1 N).heap.push _).size
  rw [Array.size_push, xm_t2_size]; omega)
theorem xm_t1_q (s : State) (c2 c1 N : Nat) {q : Nat} (h : q < s.heap.size) : (xm_t1 s c2 c1 N).heap[q]? = s.heap[q]? := by
  refine (xm_at_set _ _ _ (Nat.ne_of_lt h)).trans ((xm_at_push _ _ (by simp [State.pushCell]; omega)).trans (xm_at_push _ _ h))
theorem xm_t2_q (s : State) (c2 c1 N : Nat) {q : Nat} (h : q < s.heap.size + 2) (hq : q ≠ s.heap.size) : (xm_t2 s c2 c1 N).heap[q]? = (xm_t1 s c2 c1 N).heap[q]? :=
  (xm_at_set _ _ _ hq).trans (xm_at_push _ _ (by rw [xm_t1_size]; exact h))
theorem xm_t3_q (s : State) (c2 c1 N : Nat) {q : Nat} (h : q < s.heap.size + 3) (hq : q ≠ s.heap.size) : (xm_t3 s c2 c1 N).heap[q]? = (xm_t2 s c2 c1 N).heap[q]? :=
  (xm_at_set _ _ _ hq).trans (xm_at_push _ _ (by rw [xm_t2_size]; exact h))
theorem xm_at_new (s : State) (x : Cell) {q : Nat} (h : q = s.heap.size) : (s.pushCell x).heap[q]? = some x := by subst h; exact State.heap_pushCell_size _ _
theorem xm_t1_1 (s : State) (c2 c1 N : Nat) : (xm_t1 s c2 c1 N).heap[s.heap.size + 1]? = some (xm_iz c1 N) := (xm_at_set _ _ _ (by omega)).trans (xm_at_new _ _ (by simp [State.pushCell]))
theorem xm_t3_1 (s : State) (c2 c1 N : Nat) : (xm_t3 s c2 c1 N).heap[s.heap.size + 1]? = some (xm_iz c1 N) := (xm_t3_q s c2 c1 N (by omega) (by omega)).trans ((xm_t2_q s c2 c1 N (by omega) (by omega)).trans (xm_t1_1 s c2 c1 N))
theorem xm_t3_2 (s : State) (c2 c1 N : Nat) : (xm_t3 s c2 c1 N).heap[s.heap.size + 2]? = some (xm_iz c1 N) := (xm_t3_q s c2 c1 N (by omega) (by omega)).trans ((xm_at_set _ _ _ (by omega)).trans (xm_at_new _ _ (by rw [xm_t1_size])))
theorem xm_t3_3 (s : State) (c2 c1 N : Nat) : (xm_t3 s c2 c1 N).heap[s.heap.size + 3]? = some (xm_iz c1 N) := (xm_at_set _ _ _ (by omega)).trans (xm_at_new _ _ (by rw [xm_t2_size]))
theorem xm_t3_b (s : State) (c2 c1 N : Nat) {q : Nat} (h : q < s.heap.size) : (xm_t3 s c2 c1 N).heap[q]? = s.heap[q]? := (xm_t3_q s c2 c1 N (by omega) (by omega)).trans ((xm_t2_q s c2 c1 N (by omega) (by omega)).trans (xm_t1_q s c2 c1 N h))
theorem xm_tj_push (s : State) (x : Cell) : (s.pushCell x).topJava? = s.topJava? := rfl
theorem xm_tj_set (s : State) (a : Nat) (x : Cell) : (s.setCell a x).topJava? = s.topJava? := rfl
theorem xm_t3_tj (s : State) (c2 c1 N : Nat) : (xm_t3 s c2 c1 N).topJava? = s.topJava? := by
  unfold xm_t3 xm_t2 xm_t1
  rw [xm_tj_set, xm_tj_push, xm_tj_set, xm_tj_push, xm_tj_set, xm_tj_push, xm_tj_push]
theorem xm_st_push (s : State) (f : JFrame) (x : Cell) : (s.setTop f).pushCell x = (s.pushCell x).setTop f := rfl
theorem xm_st_set (s : State) (f : JFrame) (a : Nat) (x : Cell) : (s.setTop f).setCell a x = (s.setCell a x).setTop f := rfl
theorem xm_t3_st (s : State) (f : JFrame) (c2 c1 N : Nat) : xm_t3 (s.setTop f) c2 c1 N = (xm_t3 s c2 c1 N).setTop f := by
  unfold xm_t3 xm_t2 xm_t1
  rw [xm_st_push, xm_st_push, xm_st_set, xm_st_push, xm_st_set, xm_st_push, xm_st_set]
  rfl
theorem xm_make2 {c2 c1 comp1 : ClassId} {k2 k1 : Class} {n : Int32} {Q : Addr → Pre} (hk2 : s.vm.classes[c2]? = some k2) (hkind2 : k2.kind = .array c1 (.array .int)) (hk : s.vm.classes[c1]? = some k1) (hkind : k1.kind = .array comp1 .int) (hn : ¬ n < 0) (hlimit : ¬ n.toNatClampNeg > e.platform.arrayLengthLimit) (hheap : ¬ n.toNatClampNeg * componentBytes .int > e.platform.maxHeapBytes)
    (hlim3 : ¬ 3 > e.platform.arrayLengthLimit) (hheap3 : ¬ 3 * componentBytes (.array .int) > e.platform.maxHeapBytes)
    (hcells : s.heap.size + 4 ≤ e.platform.maxCells) (hslots : s.slotsUsed + (3 + 3 * n.toNatClampNeg) ≤ e.platform.maxSlots) (hq : ∀ d' acts', Q s.heap.size d' acts' (xm_t3 s c2 c1 n.toNatClampNeg)) : wp (Jvm.Op.multianewarray.make c2 [3, n]) Q E e d acts s := by
  have h3 : (3 : Int32).toNatClampNeg = 3 := rfl
  have h30 : ((3 : Int32) == 0) = false := rfl
  have h3n : ¬ (3 : Int32) < 0 := by decide
  have hfit : ∀ (u : State) (c : Cell) (j v : Nat), u.vm = s.vm → c.cls = c2 → c.vm = .none → u.fitsSlot c.cls c.vm j (.ref v) = true := by
    intro u c j v h1 h2 h3
    rw [h2, h3]
    simp [State.fitsSlot, State.slotType?, h1, hk2, hkind2]
    rfl
  rw [Jvm.Op.multianewarray.make]
  simp only [wp_bind', W.ite, h3n, if_false, wp_pure', W.theClass, hk2, Option.some.injEq, exists_eq_left', hkind2, h3]
  refine W.newArray_of hk2 hkind2 hlim3 hheap3 (by omega) (by omega) rfl (fun acts1 => ?_)
  simp only [h30, Bool.false_eq_true, if_false, wp_bind', wp_pure', Std.Legacy.Range.forIn_eq_forIn_range', Std.Legacy.Range.size, List.range', List.forIn_cons, List.forIn_nil]
  refine xm_make1 (s := s.pushCell (xm_o c2)) hk hkind hn hlimit hheap (by simp [State.pushCell]; omega) (by simp [State.pushCell, xm_o]; omega) (fun acts2 => ?_)
  simp only [W.writeLoc, wp_pure', wp_bind']
  refine ⟨xm_o c2, (xm_at_push _ _ (by simp [State.pushCell])).trans (xm_at_new _ _ rfl), (by intro h; cases h), (by simp [xm_o]), hfit _ _ _ _ rfl rfl rfl, ?_⟩
  have z1 : (s.pushCell (xm_o c2)).heap.size = s.heap.size + 1 := by simp [State.pushCell]
  rw [z1]
  refine xm_make1 (s := xm_t1 s c2 c1 n.toNatClampNeg) hk hkind hn hlimit hheap (by rw [xm_t1_size]; omega) (by simp [xm_t1, State.pushCell, State.setCell, xm_o, xm_iz]; omega) (fun acts3 => ?_)
  simp only [W.writeLoc, wp_pure', wp_bind']
  refine ⟨xm_o1 c2 s.heap.size, (xm_at_push _ _ (by rw [xm_t1_size]; omega)).trans (xm_t1_o s c2 c1 _), (by intro h; cases h), (by simp [xm_o1, xm_o, Cell.setSlot]), hfit _ _ _ _ rfl rfl rfl, ?_⟩
  rw [xm_t1_size]
  refine xm_make1 (s := xm_t2 s c2 c1 n.toNatClampNeg) hk hkind hn hlimit hheap (by rw [xm_t2_size]; omega) (by simp [xm_t2, xm_t1, State.pushCell, State.setCell, xm_o, xm_iz]; omega) (fun acts4 => ?_)
  simp only [W.writeLoc, wp_pure', wp_bind']
  refine ⟨xm_o2 c2 s.heap.size, (xm_at_push _ _ (by rw [xm_t2_size]; omega)).trans (xm_t2_o s c2 c1 _), (by intro h; cases h), (by simp [xm_o2, xm_o1, xm_o, Cell.setSlot]), hfit _ _ _ _ rfl rfl rfl, ?_⟩
  rw [xm_t2_size]
  exact hq _ _
theorem xm_multi_wp {f : JFrame} {index : Nat} {c2 c1 comp1 : ClassId} {k2 k1 : Class} {n : Int32} {rest : List Value} {Q : Unit → Pre} (hs : s.topJava?.isSome) (hr : s.vm.classReady f.method.cls index c2) (hk2 : s.vm.classes[c2]? = some k2) (hkind2 : k2.kind = .array c1 (.array .int)) (hk : s.vm.classes[c1]? = some k1) (hkind : k1.kind = .array comp1 .int) (hstack : f.stack = .int n :: .int 3 :: rest) (hn : ¬ n < 0) (hlimit : ¬ n.toNatClampNeg > e.platform.arrayLengthLimit) (hheap : ¬ n.toNatClampNeg * componentBytes .int > e.platform.maxHeapBytes)
    (hlim3 : ¬ 3 > e.platform.arrayLengthLimit) (hheap3 : ¬ 3 * componentBytes (.array .int) > e.platform.maxHeapBytes)
    (hcells : s.heap.size + 4 ≤ e.platform.maxCells) (hslots : s.slotsUsed + (3 + 3 * n.toNatClampNeg) ≤ e.platform.maxSlots) (hq : ∀ d' acts', Q () d' acts' ((xm_t3 s c2 c1 n.toNatClampNeg).setTop { f with stack := .ref s.heap.size :: rest })) : wp (Jvm.Op.multianewarray.sem index 2) Q E e d acts (s.setTop f) := by
  simp only [Jvm.Op.multianewarray.sem, wp_bind', W.resolveClassAt_ready (State.method?_setTop f hs) hr]
  rw [W.popN, if_neg (by decide)]
  refine ⟨f, State.topJava?_setTop' _ hs, [.int 3, .int n], rest, rfl, by rw [hstack]; rfl, ?_⟩
  rw [State.setTop_setTop]
  simp only [List.mapM_cons, List.mapM_nil, wp_bind', wp_pure']
  refine xm_make2 (s := s.setTop { f with stack := rest }) hk2 hkind2 hk hkind hn hlimit hheap hlim3 hheap3 hcells hslots (fun d' acts' => ?_)
  have hs3 : (xm_t3 s c2 c1 n.toNatClampNeg).topJava?.isSome := by rw [xm_t3_tj]; exact hs
  rw [xm_t3_st]
  simp only [W.mark, W.pushRef, wp_bind', State.topJava?_setTop' _ hs3, Option.some.injEq, exists_eq_left', State.setTop_setTop]
  exact hq _ _
theorem xm_multi_cold {f : JFrame} {index c n : Nat} {vm' : Vm} {Q : Unit → Pre} (hs : s.topJava?.isSome) (hg : (Jvm.resolveClass f.method.cls index).Gives e.toSetting s.vm (.ok c) vm') (hr : vm'.classReady f.method.cls index c)
    (hsz : vm'.classes.size ≤ s.vm.classes.size := by no_record) :
    wp (Jvm.Op.multianewarray.sem index n) Q E e d acts (s.setTop f) ↔ wp (Jvm.Op.multianewarray.sem index n) Q E e d acts ((s.setVm vm').setTop f) := by
  simp only [Jvm.Op.multianewarray.sem, wp_bind']
  exact W.resolveClassAt_transfer (s := s.setTop f) (State.method?_setTop f hs) hg hr
end XMU
/-- the cells of new int[3][N] -/
def xm_n4 (ac : Nat → ClassId) (h : xm_H) (N : Nat) : xm_H := xm_nw (xm_nw (xm_nw (xm_nw h (.inl (ac 5, 3, .inr (.inr (.inr (.inr (va_up (va_up (va_up (fun _ => none) 0 (some (h.2 + 1))) 1 (some (h.2 + 2))) 2 (some (h.2 + 3)))))))) ) (.inl (ac 0, N, .inl (fun _ => 0)))) (.inl (ac 0, N, .inl (fun _ => 0)))) (.inl (ac 0, N, .inl (fun _ => 0)))
section XMV
variable {p : Program} {l : Launch} {e : Env} {R : Room} {s : State} {m : MethodId} {args : Array Value} {below : List Frame} {meth : Method} {c : Code} {H : Heap} {locs : List Loc} {cells slots : Nat} {Q : State → Prop}
variable {cc : ByteArray} {pc : Nat} {ls : Array Slot} {rest : List Value} {D : va_G} {cl : List vw_C} {H0 : Heap} {ac : Nat → ClassId} {own : String} {h : xm_H}
theorem xm_oq {cA : ClassId} {n j u : Nat} {f : Nat → Option Nat} : (vp_cell cA (n, .inr (.inr (.inr (.inr f))))).setSlot j (.ref u) = vp_cell cA (n, .inr (.inr (.inr (.inr (va_up f j (some u)))))) := by
  rw [vp_cell_q, vp_cell_q, arrV_store]
  congr 1
  funext q
  by_cases hq : q = j
  · subst hq; simp [updV, va_up, va_rf]
  · simp [updV, va_up, hq]
theorem xm_o_q (c2 : ClassId) : xm_o c2 = vp_cell c2 (3, .inr (.inr (.inr (.inr (fun _ => none))))) := by rw [vp_cell_q]; exact arrV_new _ _ _
theorem xm_iz_q (c1 : ClassId) (N : Nat) : xm_iz c1 N = vp_cell c1 (N, .inl (fun _ => 0)) := by rw [vp_cell_i]; exact arrV_new _ _ _
theorem xm_o3_q (c2 A : Nat) : xm_o3 c2 A = vp_cell c2 (3, .inr (.inr (.inr (.inr (va_up (va_up (va_up (fun _ => none) 0 (some (A + 1))) 1 (some (A + 2))) 2 (some (A + 3))))))) := by
  unfold xm_o3 xm_o2 xm_o1
  rw [xm_o_q, xm_oq, xm_oq, xm_oq]
theorem xm_nw_e {h : xm_H} {e x : va_E} {q : Nat} (hb : (xm_nw h e).1 q = some x) : (q = h.2 ∧ x = e) ∨ h.1 q = some x := by
  simp only [xm_nw] at hb
  by_cases hq : q = h.2
  · rw [if_pos hq] at hb
    exact Or.inl ⟨hq, (Option.some.inj hb).symm⟩
  · rw [if_neg hq] at hb
    exact Or.inr hb
theorem xm_rep_n4 {N : Nat} {T : State} (hr : xm_rep D cl H0 h T.heap) : xm_rep D cl H0 (xm_n4 ac h N) (xm_t3 T (ac 5) (ac 0) N).heap := by
  have hz : h.2 = T.heap.size := hr.1.symm
  refine ⟨by rw [xm_t3_size, ← hz]; rfl, fun b x hb => ?_, by rw [xm_t3_size]; have := hr.2.2.1; omega, fun q hq => (xm_t3_b T _ _ _ (Nat.lt_of_lt_of_le hq hr.2.2.1)).trans (hr.2.2.2 q hq)⟩
  rcases xm_nw_e hb with ⟨rfl, rfl⟩ | hb
  · show (xm_t3 T (ac 5) (ac 0) N).heap[h.2 + 1 + 1 + 1]? = some _
    rw [← xm_iz_q, hz]
    exact xm_t3_3 T _ _ _
  rcases xm_nw_e hb with ⟨rfl, rfl⟩ | hb
  · show (xm_t3 T (ac 5) (ac 0) N).heap[h.2 + 1 + 1]? = some _
    rw [← xm_iz_q, hz]
    exact xm_t3_2 T _ _ _
  rcases xm_nw_e hb with ⟨rfl, rfl⟩ | hb
  · show (xm_t3 T (ac 5) (ac 0) N).heap[h.2 + 1]? = some _
    rw [← xm_iz_q, hz]
    exact xm_t3_1 T _ _ _
  rcases xm_nw_e hb with ⟨rfl, rfl⟩ | hb
  · show (xm_t3 T (ac 5) (ac 0) N).heap[h.2]? = some _
    rw [← xm_o3_q, hz]
    exact xm_t3_o T _ _ _
  · have hv := hr.2.1 b x hb
    exact hv.kept (xm_t3_b T _ _ _ hv.lt)
set_option maxHeartbeats 1000000 in
theorem xm_multi (hexec : p.tables.exec = Jvm.exec) (hb : c.code = cc) {index : Nat} (hown : s.vm.findClass own = some m.cls) (hclink : (Cond.classLink own index "[[I").before args s = true) (h2 : xm_A2 s) (hK : va_K D cl (xm_tys ac) s) (hr : xm_rep D cl H0 h H) {n : Int32} (hn : ¬ n < 0) (hb8 : n.toNatClampNeg * 8 ≤ 536870912)
    (hcells : cells + 4 ≤ R.cells) (hslots : slots + (3 + 3 * n.toNatClampNeg) ≤ R.slots) (hdg : decode cc pc = .ok (.multianewarray index 2, 4))
    (kk : ∀ (H1 : Heap) (Ls : List Loc), xm_rep D cl H0 (xm_n4 ac h n.toNatClampNeg) H1 → (∀ q ∈ Ls, H0.size ≤ q.base) → W p l e R s m args below meth c H1 (locs ++ Ls) (cells + 4) (slots + (3 + 3 * n.toNatClampNeg)) Q (F0 m (pc + 4) ls (.ref h.2 :: rest))) : W p l e R s m args below meth c H locs cells slots Q (F0 m pc ls (.int n :: .int 3 :: rest)) := by
  intro T hT X
  subst hT; subst hb
  have hpl : e.platform.magicAccessors = ({} : Platform).magicAccessors := by rw [X.admits.platform]
  obtain ⟨comp, cA, kA, hcomp, hkA, hkindA, hnameA⟩ := h2
  obtain ⟨cc', hfcc, hcl⟩ := Cond.classLink_spec hown hclink e.platform hpl
  have e5 : cA = ac 5 := Option.some.inj (hnameA.symm.trans (hK.2 5 _ rfl).2)
  have e0 : comp = ac 0 := Option.some.inj (hcomp.symm.trans (hK.2 0 _ rfl).2)
  have e9 : cc' = ac 5 := Option.some.inj (hfcc.symm.trans (hK.2 5 _ rfl).2)
  subst e5; subst e0; subst e9
  obtain ⟨hg₁, hwarm₁, hready₁⟩ := State.classEntry (e := e) X.warmed hcl
  generalize T.vm.noted m.cls index (.cls (ac 5)) = vm₁ at hg₁ hwarm₁ hready₁
  have hal : s.vm.Alike vm₁ := hwarm₁.alike
  obtain ⟨kA₁, hkA₁, heA⟩ := hal.2.2 _ _ hkA
  have hkindA₁ : kA₁.kind = .array (ac 0) (.array .int) := by rw [heA]; exact hkindA
  obtain ⟨-, k0, hk0, cm0, hkk0⟩ := (hK.2 0 _ rfl).1 0 (fun _ => .null)
  obtain ⟨k0₁, hk0₁, he0⟩ := hal.2.2 _ _ hk0
  have hkk0₁ : k0₁.kind = .array cm0 .int := by rw [he0]; exact hkk0
  have hlimit : ¬ n.toNatClampNeg > e.platform.arrayLengthLimit := by rw [Launch.admits_arrayLengthLimit X.admits]; omega
  have hheap : ¬ n.toNatClampNeg * componentBytes .int > e.platform.maxHeapBytes := by
    rw [Launch.admits_maxHeapBytes X.admits]; show ¬ n.toNatClampNeg * 4 > 536870912; omega
  have hlim3 : ¬ 3 > e.platform.arrayLengthLimit := by rw [Launch.admits_arrayLengthLimit X.admits]; decide
  have hheap3 : ¬ 3 * componentBytes (.array .int) > e.platform.maxHeapBytes := by
    rw [Launch.admits_maxHeapBytes X.admits]; decide
  have X₁ := X.noted hwarm₁
  have X2 := X₁.pushed (xm_o (ac 5))
  have X3 := X2.pushed (xm_iz (ac 0) n.toNatClampNeg)
  have X4 := X3.stored (a := T.heap.size) (cell := xm_o (ac 5)) ((xm_at_push _ _ (by simp [State.pushCell])).trans (xm_at_new _ _ rfl)) 0 (.ref (T.heap.size + 1))
  have X5 := Stand.pushed (T := xm_t1 (T.setVm vm₁) (ac 5) (ac 0) n.toNatClampNeg) X4 (xm_iz (ac 0) n.toNatClampNeg)
  have X6 := X5.stored (a := T.heap.size) (cell := xm_o1 (ac 5) T.heap.size) ((xm_at_push _ _ (by rw [xm_t1_size]; show T.heap.size < T.heap.size + 2; omega)).trans (xm_t1_o (T.setVm vm₁) (ac 5) (ac 0) _)) 1 (.ref (T.heap.size + 2))
  have X7 := Stand.pushed (T := xm_t2 (T.setVm vm₁) (ac 5) (ac 0) n.toNatClampNeg) X6 (xm_iz (ac 0) n.toNatClampNeg)
  have X8 := X7.stored (a := T.heap.size) (cell := xm_o2 (ac 5) T.heap.size) ((xm_at_push _ _ (by rw [xm_t2_size]; show T.heap.size < T.heap.size + 3; omega)).trans (xm_t2_o (T.setVm vm₁) (ac 5) (ac 0) _)) 2 (.ref (T.heap.size + 3))
  have hz : (xm_o (ac 5)).slots.size = 3 := by simp [xm_o]
  have hi : (xm_iz (ac 0) n.toNatClampNeg).slots.size = n.toNatClampNeg := by simp [xm_iz]
  rw [hz, hi, show cells + 1 + 1 + 1 + 1 = cells + 4 by omega, show slots + 3 + n.toNatClampNeg + n.toNatClampNeg + n.toNatClampNeg = slots + (3 + 3 * n.toNatClampNeg) by omega, List.append_assoc, List.append_assoc] at X8
  have hlo : H0.size ≤ T.heap.size := hr.2.2.1
  have X9 : Stand p l e R s m args below meth c (xm_t3 (T.setVm vm₁) (ac 5) (ac 0) n.toNatClampNeg) (locs ++ ([⟨T.heap.size, 0⟩] ++ ([⟨T.heap.size, 1⟩] ++ [⟨T.heap.size, 2⟩]))) (cells + 4) (slots + (3 + 3 * n.toNatClampNeg)) := X8
  have hL : ∀ q ∈ (([⟨T.heap.size, 0⟩] ++ ([⟨T.heap.size, 1⟩] ++ [⟨T.heap.size, 2⟩])) : List Loc), H0.size ≤ q.base := by
    intro q hq
    simp only [List.cons_append, List.nil_append, List.mem_cons, List.not_mem_nil, or_false] at hq
    rcases hq with rfl | rfl | rfl <;> exact hlo
  obtain ⟨t', a1, b1⟩ := kk (xm_t3 (T.setVm vm₁) (ac 5) (ac 0) n.toNatClampNeg).heap _ (xm_rep_n4 (T := T.setVm vm₁) hr) hL (xm_t3 (T.setVm vm₁) (ac 5) (ac 0) n.toNatClampNeg) rfl X9
  refine ⟨t', ?_, b1⟩
  obtain ⟨hr1, hr2⟩ := X.roomAbove hcells hslots
  refine Steps.instr (c := _) (by simpa using X.here) ?_
  simp [jvm, wpRun, exec, X.here.top, hexec, hdg]
  rw [xm_multi_cold (e := e) (s := T) (f := F0 m pc ls (.int n :: .int 3 :: rest)) X.here.top hg₁ hready₁]
  refine xm_multi_wp (s := T.setVm vm₁) X.here.top hready₁ hkA₁ hkindA₁ hk0₁ hkk0₁ rfl hn hlimit hheap hlim3 hheap3 hr1 hr2 (fun d' acts' => ?_)
  have e1 : h.2 = T.heap.size := hr.1.symm
  have hs3 : (xm_t3 (T.setVm vm₁) (ac 5) (ac 0) n.toNatClampNeg).topJava?.isSome := by rw [xm_t3_tj]; exact X.here.top
  rw [e1] at a1
  intro acts
  simpa [jvm, hs3] using a1
/-- a row of ints put into an array of rows -/
theorem xm_ast (hexec : p.tables.exec = Jvm.exec) (hb : c.code = cc) (h2 : xm_A2 s) (hK : va_K D cl (xm_tys ac) s) (hr : xm_rep D cl H0 h H) {a u n n1 : Nat} {f : Nat → Option Nat} {g : Nat → Int32} {j : Int32} (ha : h.1 a = some (.inl (ac 5, n, .inr (.inr (.inr (.inr f)))))) (hu : h.1 u = some (.inl (ac 0, n1, .inl g))) (hin : vp_in j n) (hlo : H0.size ≤ a) (hdg : decode cc pc = .ok (.aastore, 1))
    (kk : ∀ (H1 : Heap) (Ls : List Loc), xm_rep D cl H0 (xm_up h a (.inl (ac 5, n, .inr (.inr (.inr (.inr (va_up f j.toNatClampNeg (some u)))))))) H1 → (∀ q ∈ Ls, H0.size ≤ q.base) → W p l e R s m args below meth c H1 (locs ++ Ls) cells slots Q (F0 m (pc + 1) ls rest)) : W p l e R s m args below meth c H locs cells slots Q (F0 m pc ls (.ref u :: .int j :: .ref a :: rest)) := by
  have hlt : j.toNatClampNeg < n := Nat.not_le.mp fun q => hin (Or.inr q)
  have h0 : ¬ j < 0 := fun q => hin (Or.inl q)
  obtain ⟨comp, cA, kA, hcomp, hkA, hkindA, hnameA⟩ := h2
  have e5 : cA = ac 5 := Option.some.inj (hnameA.symm.trans (hK.2 5 _ rfl).2)
  have e0 : comp = ac 0 := Option.some.inj (hcomp.symm.trans (hK.2 0 _ rfl).2)
  subst e5; subst e0
  obtain ⟨-, k0, hk0, cm0, hkk0⟩ := (hK.2 0 _ rfl).1 0 (fun _ => .null)
  refine W.aast hexec hb (hr.2.1 a _ ha) (fun q h => by cases h) (fun h => by cases h) hkA hkindA rfl hk0 ⟨h0, by show _ < (arrV _ _ _).slots.size; rw [arrV_size]; exact hlt⟩ (hr.2.1 u _ hu) (fun q h => by cases h) hk0 (by show s.vm.assignable (ac 0) (ac 0) = true; show s.vm.assignableAux (255 + 1) (ac 0) (ac 0) = true; rw [Vm.assignableAux, beq_self_eq_true, Bool.true_or]) rfl rfl hdg fun H1 e1 z1 oq => ?_
  refine kk H1 [⟨a, j.toNatClampNeg⟩] (xm_rep_up hr hlo ?_ z1 oq) (fun q hq => by
    simp only [List.mem_cons, List.not_mem_nil, or_false] at hq
    rw [hq]; exact hlo)
  show H1[a]? = some (vp_cell _ _)
  rw [e1, xm_oq]
end XMV
