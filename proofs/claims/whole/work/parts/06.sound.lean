/-! THE ENGINE: what is shown of a method by steps holds of the machine -/
section XMC
variable {p : Program} {l : Launch} {e : Env} {R : Room} {s : State} {m : MethodId} {args : Array Value} {below : List Frame} {meth : Method} {c : Code} {cc : ByteArray} {nL mc ms d : Nat} {H0 : Heap} {sv : xm_V} {D : va_G} {cl : List vw_C} {ac : Nat → ClassId} {own : String} {TB : List Cond} {ini : Bool} {fty : Nat → Nat → FieldType} {rt : Option FieldType} {post : xm_Q} {tb : Nat → Option xm_I} {P : xm_P} {dfl : Nat → List Value}
theorem xm_blind {l : Launch} {as : List Value} {h : xm_H} : FrameBlind (xm_Pc l D cl ac H0 sv as h) := fun a U g mk q => ⟨q.1, q.2.1, va_K.moved (u := U) (U := U.calling g mk a) (Vm.Alike.refl U.vm) q.2.2.1, xm_sv.same (s := U) (U := U.calling g mk a) rfl q.2.2.2⟩
/-- a callee's contract, as the engine has it -/
def xm_Met (l : Launch) (D : va_G) (cl : List vw_C) (ac : Nat → ClassId) (H0 : Heap) (sv : xm_V) (TB : List Cond) (P : xm_P) (d x : Nat) (as : List Value) (h : xm_H) (mc ms : Nat) (q : xm_Q) : Prop :=
  vx_Met l (P.1 x) (xm_cw P x :: TB) (xm_room d mc ms) (xm_Pc l D cl ac H0 sv as h) (xm_Qc D cl H0 q) (xm_XC D cl H0 q) mc ms (fun a => H0.size ≤ a)
theorem xm_back (hgood : ∀ w ∈ TB, goodWord w = true) (hts : ∀ w ∈ TB, w.before args s = true) {x : Nat} (hm : xm_mok P dfl sv TB cl x) {as : List Value} {h : xm_H} {mc' ms' : Nat} {q : xm_Q} (hM : xm_Met l D cl ac H0 sv TB P d x as h mc' ms' q) (hRf : d + 1 ≤ R.frames) (hRl : 64 * (d + 1) ≤ R.locals) :
    vx_Back l R p e below s args (P.1 x) 3 8 (PreOf R mc' ms' (xm_Pc l D cl ac H0 sv as h)) (PostOf (xm_Qc D cl H0 q) mc' ms' (fun a => H0.size ≤ a)) (vx_Post (xm_XC D cl H0 q) mc' ms' (fun a => H0.size ≤ a)) := by
  obtain ⟨h1, h2, h3, h4, h5, -⟩ := hm
  have hw : ∀ w ∈ TB, ∀ (a' : Array Value) (U : State), s.WarmedH U.vm → w.before a' U = true := fun w hw a' U hW => word_at hW (good_of_word (hgood w hw)) (hts w hw)
  have hw1 : ∀ w ∈ xm_cw P x :: TB, ∀ (a' : Array Value) (U : State), s.WarmedH U.vm → w.before a' U = true := by
    intro w hq
    rcases List.mem_cons.mp hq with rfl | hq
    · exact hw _ h1
    · exact hw _ hq
  have hlo : 8 + (P.2.2.1 x + 11) + 64 * d ≤ R.locals := by omega
  unfold xm_Met at hM
  unfold xm_cw at hM hw1
  split at hM
  · rename_i e9
    exact vx_back (bytes := P.2.1 x) (maxL := P.2.2.1 x) (ret := P.2.2.2.1 x) hM xm_blind rfl rfl hRf hlo (by rw [e9] at hw1; exact hw1) List.mem_cons_self (hw _ h2)
  · rename_i z r e9
    exact vx_backW (bytes := P.2.1 x) (maxL := P.2.2.1 x) (ret := P.2.2.2.1 x) (hh := (z :: r).map (fun e => (e.1, e.2.1, e.2.2.1, e.2.2.2.1))) hM xm_blind rfl rfl hRf hlo (by rw [e9] at hw1; exact hw1) List.mem_cons_self (hw _ h2)
theorem xm_len {y : MethodName} {n : Nat} (h : (parseMethodDescriptor y.desc).map (fun d => d.parameters.length) = some n) {as : List Value} (ha : as.length = n) : ∀ sig, parseMethodDescriptor y.desc = some sig → as.length = sig.parameters.length := by
  intro sig hs
  rw [hs] at h
  rw [ha]
  exact (Option.some.inj h).symm
theorem xm_hd_some {pc : Nat} {E : String} {t : Nat} : ∀ {hh : List (Nat × Nat × Nat × Nat × String)}, xm_hd pc E hh = some t → ∃ pre e suf, hh = pre ++ e :: suf ∧ (e.1 ≤ pc ∧ pc < e.2.1 ∧ e.2.2.2.2 = E) ∧ e.2.2.1 = t ∧ ∀ z ∈ pre, ¬ (z.1 ≤ pc ∧ pc < z.2.1 ∧ z.2.2.2.2 = E)
  | [], h => by cases h
  | (a, b, t', k, nm) :: r, h => by
    unfold xm_hd at h
    by_cases hc : a ≤ pc ∧ pc < b ∧ nm = E
    · rw [if_pos hc] at h
      exact ⟨[], _, r, rfl, hc, Option.some.inj h, fun z hz => by cases hz⟩
    · rw [if_neg hc] at h
      obtain ⟨pre, e, suf, e1, e2, e3, e4⟩ := xm_hd_some h
      refine ⟨(a, b, t', k, nm) :: pre, e, suf, by rw [e1]; rfl, e2, e3, fun z hz => ?_⟩
      rcases List.mem_cons.mp hz with rfl | hz
      · exact hc
      · exact e4 z hz
theorem xm_hd_none {pc : Nat} {E : String} : ∀ {hh : List (Nat × Nat × Nat × Nat × String)}, xm_hd pc E hh = none → ∀ z ∈ hh, ¬ (z.1 ≤ pc ∧ pc < z.2.1 ∧ z.2.2.2.2 = E)
  | [], _ => fun z hz => by cases hz
  | (a, b, t', k, nm) :: r, h => by
    unfold xm_hd at h
    by_cases hc : a ≤ pc ∧ pc < b ∧ nm = E
    · rw [if_pos hc] at h; cases h
    · rw [if_neg hc] at h
      intro z hz
      rcases List.mem_cons.mp hz with rfl | hz
      · exact hc
      · exact xm_hd_none h z hz
/-- the table of a method, as the engine has it -/
def xm_te (e : Nat × Nat × Nat × Nat × String) : ExceptionTableEntry := ⟨e.1, e.2.1, e.2.2.1, e.2.2.2.1⟩
def xm_tabk (c : Code) (sv : xm_V) (TB : List Cond) (own : String) (hh : List (Nat × Nat × Nat × Nat × String)) : Prop := c.exceptionTable.toList = hh.map xm_te ∧ ∀ e ∈ hh, e.2.2.2.1 ≠ 0 ∧ Cond.classLink own e.2.2.2.1 e.2.2.2.2 ∈ TB ∧ Cond.castable e.2.2.2.2 e.2.2.2.2 ∈ sv.2.2.1
theorem xm_cov {e : Nat × Nat × Nat × Nat × String} {pc : Nat} (h : ¬ (e.1 ≤ pc ∧ pc < e.2.1)) : covers (xm_te e) pc = false := by
  show (decide (e.1 ≤ pc) && decide (pc < e.2.1)) = false
  by_cases h1 : e.1 ≤ pc
  · have h2 : ¬ pc < e.2.1 := fun q => h ⟨h1, q⟩
    simp [h2]
  · simp [h1]
/-- a callee's throw: to the handler, or on -/
theorem xm_thr {hh : List (Nat × Nat × Nat × Nat × String)} (hlocks : meth.locks = false) (hown : s.vm.findClass own = some m.cls) (hts : ∀ w ∈ TB, w.before args s = true) (hsv : xm_sv l H0 sv s) (htab : xm_tabk c sv TB own hh) {pc : Nat} {ls : Array Slot} {r : List Value} {H : Heap} {locs : List Loc} {cells slots rc rs : Nat} {L : xm_L} (hl : xm_lo ls nL L)
    {E : String} {ce : Cell} {z : Addr} {h' : xm_H} (hrep : xm_rep D cl H0 h' H) (hlocs : ∀ q ∈ locs, H0.size ≤ q.base) (hc : cells + rc = mc) (hs : slots + rs = ms) (hce : H[z]? = some ce) (hcv : ce.vm = .none) (hcl : s.vm.findClass E = some ce.cls)
    (kx : xm_kx hh sv post (xm_W p l e R s m args below meth c nL D cl H0 mc ms post) pc L E h' rc rs) :
    vx_W p l e R s m args below meth c H locs cells slots (vx_MQ below (xm_Qc D cl H0 post) (xm_XC D cl H0 post) args s mc ms (fun q => H0.size ≤ q)) (F0 m pc ls r) z := by
  obtain ⟨ht, hk⟩ := htab
  have hout : ∀ q : post (.inr E) h', ∀ t : State, t.heap = H → s.vm.Alike t.vm → xm_XC D cl H0 post E s t := fun q t ht' _ => ⟨h', q, by rw [ht']; exact hrep⟩
  have hpass : ∀ y : Nat × Nat × Nat × Nat × String, y ∈ hh → (y.2.2.2.2 = E ∨ (E, y.2.2.2.2) ∈ sv.2.2.2.2.1) → ¬ (y.1 ≤ pc ∧ pc < y.2.1 ∧ y.2.2.2.2 = E) → covers (xm_te y) pc = false ∨ ((xm_te y).catchType ≠ 0 ∧ ∃ nm : String, (Cond.classLink own (xm_te y).catchType nm).before args s = true ∧ va_Nc E nm s) := by
    intro y hy h1 h2
    by_cases h3 : y.1 ≤ pc ∧ pc < y.2.1
    · rcases h1 with h1 | h1
      · exact (h2 ⟨h3.1, h3.2, h1⟩).elim
      · exact Or.inr ⟨(hk y hy).1, _, hts _ (hk y hy).2.1, hsv.2.2.2.1 _ h1⟩
    · exact Or.inl (xm_cov h3)
  cases hh with
  | nil => exact vx_outP (own := own) hown hlocks (fun y hy => by rw [ht] at hy; cases hy) hce hcv hcl (hout kx) hlocs (by omega) (by omega)
  | cons a b =>
    obtain ⟨kp, kx⟩ := kx
    cases hd : xm_hd pc E (a :: b) with
    | none =>
      rw [hd] at kx
      refine vx_outP (own := own) hown hlocks (fun y hy => ?_) hce hcv hcl (hout kx) hlocs (by omega) (by omega)
      rw [ht] at hy
      obtain ⟨y', hy', rfl⟩ := List.mem_map.mp hy
      exact hpass y' hy' (kp y' hy') (xm_hd_none hd y' hy')
    | some t =>
      rw [hd] at kx
      obtain ⟨pre, y, suf, e1, e2, e3, e4⟩ := xm_hd_some hd
      have hmem : ∀ y' ∈ pre ++ y :: suf, y' ∈ a :: b := fun y' q => by rw [e1]; exact q
      have hyk := hk y (hmem y (by simp))
      have e5 : y.2.2.2.2 = E := e2.2.2
      refine vx_catch (own := own) (name := E) hown (pre.map xm_te) (xm_te y) (suf.map xm_te) (by rw [ht, e1]; simp) (fun w hw => ?_) ?_ hyk.1 (by rw [← e5]; exact hts _ hyk.2.1) (by rw [← e5]; exact va_Nw.use rfl (hsv.2.2.1 _ hyk.2.2).2) hce hcv hcl ?_
      · obtain ⟨y', hy', rfl⟩ := List.mem_map.mp hw
        have hm' := hmem y' (by simp [hy'])
        exact hpass y' hm' (kp y' hm') (e4 y' hy')
      · show (decide (y.1 ≤ pc) && decide (pc < y.2.1)) = true
        simp [e2.1, e2.2.1]
      · have e6 : (xm_te y).handlerPc = t := e3
        rw [e6]
        exact kx z ls H locs cells slots hl hrep hlocs hc hs
/-- what comes back from a callee: its end, or what it threw goes on -/
theorem xm_after {hh : List (Nat × Nat × Nat × Nat × String)} (hlocks : meth.locks = false) (hown : s.vm.findClass own = some m.cls) (hts : ∀ w ∈ TB, w.before args s = true) (hsv : xm_sv l H0 sv s) (htab : xm_tabk c sv TB own hh) {T : State} {pc : Nat} {ls : Array Slot} {st0 r as : List Value} {locs : List Loc} {cells slots rc rs mc' ms' : Nat} {q : xm_Q} {L : xm_L} (hl : xm_lo ls nL L)
    (hlocs : ∀ q ∈ locs, H0.size ≤ q.base) (hc : cells + rc = mc) (hs : slots + rs = ms) (h1 : mc' ≤ rc) (h2 : ms' ≤ rs)
    (kk : ∀ v h', q (.inl v) h' → xm_W p l e R s m args below meth c nL D cl H0 mc ms post (pc + 3) L (v.toList ++ r) h' (rc - mc') (rs - ms')) (kx : ∀ E h', q (.inr E) h' → xm_kx hh sv post (xm_W p l e R s m args below meth c nL D cl H0 mc ms post) pc L E h' (rc - mc') (rs - ms'))
    (hr : (∃ (v : Option Value) (vm₁ : Vm) (B : Pt), s.WarmedH vm₁ ∧ Stand p l e R s m args below meth c B.U B.locs B.cells B.slots ∧ PostOf (xm_Qc D cl H0 q) mc' ms' (fun a => H0.size ≤ a) ⟨T.setVm vm₁, locs, cells, slots⟩ as.toArray v B ∧
      ∀ target, Steps p.tables e below (B.U.setTop { F0 m pc ls st0 with pc := pc + 3, stack := v.toList ++ r }) target → Steps p.tables e below (T.setTop (F0 m pc ls st0)) target) ∨
    (∃ (z : Addr) (vm₁ : Vm) (B : Pt), s.WarmedH vm₁ ∧ Stand p l e R s m args below meth c B.U B.locs B.cells B.slots ∧ vx_Post (xm_XC D cl H0 q) mc' ms' (fun a => H0.size ≤ a) ⟨T.setVm vm₁, locs, cells, slots⟩ as.toArray z B ∧
      Steps p.tables e below (T.setTop (F0 m pc ls st0)) ((B.U.setTop { F0 m pc ls st0 with stack := r }).pushFrame (.throwing z)))) :
    ∃ t, Steps p.tables e below (T.setTop (F0 m pc ls st0)) t ∧ vx_MQ below (xm_Qc D cl H0 post) (xm_XC D cl H0 post) args s mc ms (fun q => H0.size ≤ q) t := by
  have happ : ∀ Ls : List Loc, (∀ z ∈ Ls, H0.size ≤ z.base) → ∀ z ∈ locs ++ Ls, H0.size ≤ z.base := fun Ls hL z hz => (List.mem_append.mp hz).elim (hlocs z) (hL z)
  rcases hr with ⟨v, vm₁, ⟨U', l2, c2, s2⟩, hW₁, X', ⟨g', mk, t, Ls, e1, e2, ⟨v', h', ho, hp, hrep⟩, g1, hL, g2, g3⟩, st⟩ | ⟨z, vm₁, ⟨U', l2, c2, s2⟩, hW₁, X', ⟨g', mk, t, Ls, E, ce, e1, e2, ⟨h', hp, hrep⟩, hce, hcv, hcl, g1, hL, g2, g3⟩, st⟩
  · dsimp only [Pt.U, Pt.locs, Pt.cells, Pt.slots] at X' e1 e2 g1 g2 g3 st
    subst g1; subst g2; subst g3
    cases ho
    obtain ⟨t2, a1, b1⟩ := kk v h' hp ls U'.heap (locs ++ Ls) (cells + mc') (slots + ms') hl (by rw [e1]; exact hrep) (happ Ls hL) (by omega) (by omega) U' rfl X'
    exact ⟨t2, st t2 a1, b1⟩
  · dsimp only [Pt.U, Pt.locs, Pt.cells, Pt.slots] at X' e1 e2 g1 g2 g3 st hcl
    subst g1; subst g2; subst g3
    obtain ⟨t2, a1, b1⟩ := xm_thr (e := e) (R := R) (below := below) (r := r) hlocks hown hts hsv htab hl (H := U'.heap) (locs := locs ++ Ls) (cells := cells + mc') (slots := slots + ms') (by rw [e1]; exact hrep) (happ Ls hL) (by omega) (by omega) (by rw [e1]; exact hce) hcv (vx_cls hW₁ hcl) (kx E h' hp) U' rfl X'
    exact ⟨t2, st.trans a1, b1⟩
/-- arraycopy of ints (as the kit's va_copyi, with the other cells as they were) -/
theorem xm_copy {H : Heap} {locs : List Loc} {cells slots : Nat} {Q : State → Prop} {ls : Array Slot} {rest : List Value} {h : xm_H} {pc index : Nat} (hexec : p.tables.exec = Jvm.exec) (hb : c.code = cc) (hml : c.maxLocals = ls.size) (hown : s.vm.findClass own = some m.cls) (hlink : (Cond.methodLink own index arraycopyName).before args s = true) (hnat : (Cond.native arraycopyName).before args s = true) (hstat : (Cond.static arraycopyName).before args s = true) (hini : (Cond.initialized "java/lang/System").before args s = true)
    (hK : va_K D cl (xm_tys ac) s) (hr : xm_rep D cl H0 h H) {a0 a n0 n1 : Nat} {f g : Nat → Int32} (ha0 : h.1 a0 = some (.inl (ac 0, n0, .inl f))) (ha1 : h.1 a = some (.inl (ac 0, n1, .inl g)))
    {sp dp n : Int32} (h1 : ¬ sp < 0) (h2 : ¬ dp < 0) (h3 : ¬ n < 0) (h4 : sp.toNatClampNeg + n.toNatClampNeg ≤ n0) (h5 : dp.toNatClampNeg + n.toNatClampNeg ≤ n1) (hlo : H0.size ≤ a)
    (hframes : 1 ≤ R.frames) (hlocals : (rest.map fun v => v.category).sum + (nativeFrameWords "java/lang/System" "arraycopy" 5 + 11) ≤ R.locals) (hdg : decode cc pc = .ok (.invokestatic index, 3))
    (kk : ∀ (H1 : Heap) (Ls : List Loc), xm_rep D cl H0 (xm_up h a (.inl (ac 0, n1, .inl (va_cpy f g sp.toNatClampNeg dp.toNatClampNeg n.toNatClampNeg)))) H1 → (∀ q ∈ Ls, H0.size ≤ q.base) → W p l e R s m args below meth c H1 (locs ++ Ls) cells slots Q (F0 m (pc + 3) ls rest)) : W p l e R s m args below meth c H locs cells slots Q (F0 m pc ls (.int n :: .int dp :: .ref a :: .int sp :: .ref a0 :: rest)) := by
  have nn : ∀ z : Int32, ¬ z < 0 → z.toInt = (z.toNatClampNeg : Int) := by
    intro z hz
    have hz0 : (0 : Int) ≤ z.toInt := by
      have := Int32.not_lt.mp hz
      simpa using Int32.le_iff_toInt_le.mp this
    show z.toInt = ((z.toInt.toNat : Nat) : Int)
    omega
  intro T hT X
  have hc0 : H[a0]? = some (vp_cell (ac 0) (n0, .inl f)) := hr.2.1 a0 _ ha0
  have hc1 : H[a]? = some (vp_cell (ac 0) (n1, .inl g)) := hr.2.1 a _ ha1
  obtain ⟨-, k0, hk0, cm0, hkk0⟩ := (hK.2 0 _ rfl).1 n0 (fun j => .int (f j))
  obtain ⟨-, k1, hk1, cm1, hkk1⟩ := (hK.2 0 _ rfl).1 n1 (fun j => .int (g j))
  obtain ⟨vm', X', step⟩ := X.arraycopy hexec hown hlink hnat hstat hini (src := a0) (dst := a) (cs := vp_cell (ac 0) (n0, .inl f)) (cd := vp_cell (ac 0) (n1, .inl g)) (srcPos := sp) (destPos := dp) (n := n) (by rw [hT]; exact hc0) (by rw [hT]; exact hc1)
    (fun _ h => by cases h) (fun _ h => by cases h) (fun h => by cases h) (fun h => by cases h) hk0 hk1 hkk0 hkk1 (by simp [refKind]) h1 h2 h3
    (by rw [nn sp h1, nn n h3]; show ¬ _ > ((arrV (ac 0) n0 (fun j => .int (f j))).slots.size : Int); rw [arrV_size]; omega)
    (by rw [nn dp h2, nn n h3]; show ¬ _ > ((arrV (ac 0) n1 (fun j => .int (g j))).slots.size : Int); rw [arrV_size]; omega)
    (fun vm₁ _ i hi => by
      have e : (vp_cell (ac 0) (n0, .inl f)).slots.getD (sp.toNatClampNeg + i) .null = .int (f (sp.toNatClampNeg + i)) := by
        show (arrV (ac 0) n0 (fun j => .int (f j))).slots.getD _ _ = _
        rw [Array.getD_eq_getD_getElem?, arrV_read _ _ (by omega)]
        rfl
      refine ⟨?_, ?_⟩
      · rw [e]
        rfl
      · rw [e]
        exact trivial)
    (g := F0 m pc ls (.int n :: .int dp :: .ref a :: .int sp :: .ref a0 :: rest)) rfl (by rw [hml]) (rest := rest) rfl (by rw [hb]; exact hdg) hframes (by show 2 * 0 + _ + _ ≤ _; omega)
  have e1 : copied (vp_cell (ac 0) (n0, .inl f)) (vp_cell (ac 0) (n1, .inl g)) sp dp n = vp_cell (ac 0) (n1, .inl (va_cpy f g sp.toNatClampNeg dp.toNatClampNeg n.toNatClampNeg)) := va_copied (fun z => .int z) (ac 0) (ac 0) f g h4
  rw [e1] at X' step
  have hl : a < H.size := (Array.getElem?_eq_some_iff.mp hc1).1
  have hheap : ((T.setVm vm').setCell a (vp_cell (ac 0) (n1, .inl (va_cpy f g sp.toNatClampNeg dp.toNatClampNeg n.toNatClampNeg)))).heap = H.setIfInBounds a (vp_cell (ac 0) (n1, .inl (va_cpy f g sp.toNatClampNeg dp.toNatClampNeg n.toNatClampNeg))) := by rw [← hT]; rfl
  have oq : ∀ q : Nat, q ≠ a → (H.setIfInBounds a (vp_cell (ac 0) (n1, .inl (va_cpy f g sp.toNatClampNeg dp.toNatClampNeg n.toNatClampNeg))))[q]? = H[q]? := fun q hq => by simp [Array.getElem?_setIfInBounds, Ne.symm hq]
  obtain ⟨t, a1, b1⟩ := kk _ _ (xm_rep_up hr hlo (show (H.setIfInBounds a _)[a]? = some _ by simp [Array.getElem?_setIfInBounds, hl]) (by simp) oq) (fun q hq => by
      obtain ⟨z, -, hz⟩ := List.mem_map.mp hq
      rw [← hz]
      exact hlo) _ hheap X'
  exact ⟨t, step t a1, b1⟩
/-- a constructor that returns or throws (as the library's callI, with one case more) -/
theorem xm_callI {T : State} {locs : List Loc} {cells slots : Nat} (X : Stand p l e R s m args below meth c T locs cells slots) (hexec : p.tables.exec = Jvm.exec) {index : Nat} {y : MethodName} {bytes : ByteArray} {maxL : Nat}
    (hown : s.vm.findClass own = some m.cls) (hy1 : y.name = "<init>") (hlink : (Cond.methodLink own index y).before args s = true ∨ ∃ host, (Cond.methodLinkNest own index y host).before args s = true) (hinst : (Cond.instanceMethod y).before args s = true)
    (hcode : (Cond.code y bytes maxL none).before args s = true) (hy : y.cls ≠ "java/lang/invoke/MethodHandle" ∧ y.cls ≠ "java/lang/invoke/VarHandle")
    {W9 : Nat} {Pre : Pt → Array Value → Prop} {Post : Pt → Array Value → Option Value → Pt → Prop} {PostX : Pt → Array Value → Addr → Pt → Prop} (hK : vx_Back l R p e below s args y 3 W9 Pre Post PostX)
    {g : JFrame} (hg : g.method = m) (hsize : g.locals.size = c.maxLocals) {a : Addr} {argsL rest : List Value} (hlen : ∀ sig, parseMethodDescriptor y.desc = some sig → argsL.length = sig.parameters.length)
    (hstack : g.stack = argsL.reverse ++ .ref a :: rest) (hW : 2 * g.monitorRoom + (rest.map fun v => v.category).sum ≤ W9) (hdg : decode c.code g.pc = .ok (.invokespecial index, 3))
    (hpre : ∀ vm₁, s.WarmedH vm₁ → Pre ⟨T.setVm vm₁, locs, cells, slots⟩ (Value.ref a :: argsL).toArray) :
    (∃ (v : Option Value) (vm₁ : Vm) (B : Pt), s.WarmedH vm₁ ∧ Stand p l e R s m args below meth c B.U B.locs B.cells B.slots ∧ Post ⟨T.setVm vm₁, locs, cells, slots⟩ (Value.ref a :: argsL).toArray v B ∧
      ∀ target, Steps p.tables e below (B.U.setTop { g with pc := g.pc + 3, stack := v.toList ++ rest }) target → Steps p.tables e below (T.setTop g) target) ∨
    (∃ (q : Addr) (vm₁ : Vm) (B : Pt), s.WarmedH vm₁ ∧ Stand p l e R s m args below meth c B.U B.locs B.cells B.slots ∧ PostX ⟨T.setVm vm₁, locs, cells, slots⟩ (Value.ref a :: argsL).toArray q B ∧
      Steps p.tables e below (T.setTop g) ((B.U.setTop { g with stack := rest }).pushFrame (.throwing q))) := by
  subst hg
  have hpl : e.platform.magicAccessors = ({} : Platform).magicAccessors := by rw [X.admits.platform]
  rcases hlink with hlink | ⟨host, hlink⟩
  · obtain ⟨mk, methM, cM, kP, vm₁, hnamed, hmethM, hcodeM, -, hlocalsM, -, hkP, -, hW₁, hstep₁⟩ := Steps.initColdArgs (e := e) X.here hexec X.warmed hpl hown hy1 hy hlink hinst hcode (f := g) rfl hlen hstack hdg
    have X₁ := X.noted hW₁
    rcases hK g.method meth c ⟨T.setVm vm₁, locs, cells, slots⟩ { g with stack := rest } (.invokespecial index) mk (Value.ref a :: argsL).toArray X₁ rfl hsize hdg hW (X₁.named hnamed) (hpre vm₁ X₁.warmed) with ⟨v, B, X', hpost, hsteps⟩ | ⟨q, B, X', hpost, hsteps⟩
    · exact Or.inl ⟨v, vm₁, B, X₁.warmed, X', hpost, fun target h => hstep₁ _ fun acts => by rw [doInvoke_state]; exact hsteps.trans h⟩
    · exact Or.inr ⟨q, vm₁, B, X₁.warmed, X', hpost, hstep₁ _ fun acts => by rw [doInvoke_state]; exact hsteps⟩
  · obtain ⟨mk, methM, cM, kP, vm₁, hnamed, hmethM, hcodeM, -, hlocalsM, -, hkP, -, hW₁, hstep₁⟩ := Steps.initColdArgsNest (e := e) X.here hexec X.warmed hpl hown hy1 hy hlink hinst hcode (f := g) rfl hlen hstack hdg
    have X₁ := X.noted hW₁
    rcases hK g.method meth c ⟨T.setVm vm₁, locs, cells, slots⟩ { g with stack := rest } (.invokespecial index) mk (Value.ref a :: argsL).toArray X₁ rfl hsize hdg hW (X₁.named hnamed) (hpre vm₁ X₁.warmed) with ⟨v, B, X', hpost, hsteps⟩ | ⟨q, B, X', hpost, hsteps⟩
    · exact Or.inl ⟨v, vm₁, B, X₁.warmed, X', hpost, fun target h => hstep₁ _ fun acts => by rw [doInvoke_state]; exact hsteps.trans h⟩
    · exact Or.inr ⟨q, vm₁, B, X₁.warmed, X', hpost, hstep₁ _ fun acts => by rw [doInvoke_state]; exact hsteps⟩
theorem xm_cw_e {x : Nat} (h : P.2.2.2.2.2.2.2 x = []) : xm_cw P x = Cond.code (P.1 x) (P.2.1 x) (P.2.2.1 x) (P.2.2.2.1 x) := by unfold xm_cw; rw [h]
theorem xm_rcv_e {st : List Value} {y : Nat} {K : Nat → List Value → List Value → Prop} (h : xm_rcv st y K) : ∃ b as r, st = as.reverse ++ .ref b :: r ∧ as.length = y ∧ K b as r := by
  unfold xm_rcv at h
  split at h
  · rename_i b r hd
    refine ⟨b, (st.take y).reverse, r, ?_, ?_, h⟩
    · rw [List.reverse_reverse, ← hd, List.take_append_drop]
    · have : y < st.length := by
        apply Decidable.byContradiction
        intro hn
        rw [List.drop_eq_nil_of_le (by omega)] at hd
        cases hd
      simp; omega
  · exact h.elim
theorem xm_rcv_n {st : List Value} {y : Nat} {K K' : Nat → List Value → List Value → Prop} (m : ∀ a b c, K a b c → K' a b c) (q : xm_rcv st y K) : xm_rcv st y K' := by
  unfold xm_rcv at q ⊢
  split at q
  · exact m _ _ _ q
  · exact q.elim
theorem xm_rv9 {x : Nat} {cls : String} {H : Heap} {b : Nat} (hcn : (cl[x]?).map (fun q => q.1) = some cls) (h : ∀ z : vw_C, cl[x]? = some z → ∃ cell : Cell, H[b]? = some cell ∧ cell.vm.isStatics = false ∧ s.vm.findClass z.1 = some cell.cls) : ∃ cell : Cell, H[b]? = some cell ∧ cell.vm.isStatics = false ∧ s.vm.findClass cls = some cell.cls := by
  cases hcx : cl[x]? with
  | none => rw [hcx] at hcn; cases hcn
  | some z =>
    rw [hcx] at hcn
    obtain ⟨cell, e1, e2, e3⟩ := h z hcx
    exact ⟨cell, e1, e2, by rw [← Option.some.inj hcn]; exact e3⟩
set_option maxHeartbeats 4000000 in
set_option maxRecDepth 100000 in
theorem xm_stepG (C : xm_C p l R s m args meth c cc mc ms D cl ac own TB ini fty rt H0 sv) (hml : c.maxLocals = nL) {hh : List (Nat × Nat × Nat × Nat × String)} (htab : xm_tabk c sv TB own hh) (hgood : ∀ w ∈ TB, goodWord w = true) (hP : ∀ x, (P.2.2.2.2.1 x 0).isSome = true → xm_mok P dfl sv TB cl x)
    (hdf : ∀ x q, cl[x]? = some q → ∀ j, j < q.2.2 → defaultValue (fty x j) = vp_V (dfl x) j) {cs : xm_S} (hcs : ∀ x as h mc ms q, cs x as h mc ms q → (P.2.2.2.2.1 x 0).isSome = true ∧ xm_Met l D cl ac H0 sv TB P d x as h mc ms q) (hRf : d + 1 ≤ R.frames) (hRl : 64 * (d + 1) ≤ R.locals)
    {pc : Nat} (hok : ∀ q, tb pc = some q → xm_ok2 P dfl sv own cc TB cl ini pc q) {L : xm_L} {st : List Value} {h : xm_H} {rc rs : Nat}
    (hG : xm_G ac H0.size fty dfl P.2.2.2.2.2.2.1 sv d hh cs tb rt post (xm_W p l e R s m args below meth c nL D cl H0 mc ms post) pc L st h rc rs) : xm_W p l e R s m args below meth c nL D cl H0 mc ms post pc L st h rc rs := by
  obtain ⟨hx, hb, hown, hts, hK, hlocks, hrt, hini, hRc, hRs, hsv, hH, hcl⟩ := id C
  unfold xm_G at hG
  cases hq : tb pc with
  | none => rw [hq] at hG; exact xm_step C (fun q h' => by rw [hq] at h'; cases h') hG
  | some q =>
    have hk := hok q hq
    obtain ⟨i, x, y, w, v, ts⟩ := q
    rw [hq] at hG
    cases i with
    | invokestatic k =>
     obtain ⟨hd, hk⟩ := hk
     dsimp only at hG
     by_cases hw : w = -1
     · rw [if_pos hw] at hk hG
       obtain ⟨hlink, hnat, hstat, hini9⟩ := hk
       obtain ⟨sa, sp, da, dp, n, r, rfl, hG2⟩ := xm_cp_e hG
       obtain ⟨n0, f, ha0, hG2⟩ := xm_Ai_e hG2
       obtain ⟨n1, g, ha1, g1, g2, g3, g4, g5, hlo, hsum, hG2⟩ := xm_Ai_e hG2
       intro ls H locs cells slots hl hr hlocs hc hs
       have hnw : nativeFrameWords "java/lang/System" "arraycopy" 5 + 11 ≤ 56 := by decide
       exact xm_copy hx hb (hml.trans hl.2.1.symm) hown (hts _ hlink) (hts _ hnat) (hts _ hstat) (hts _ hini9) hK hr ha0 ha1 g1 g2 g3 g4 g5 hlo (by omega) (by omega) hd (fun H1 Ls hr1 hL => hG2 ls H1 (locs ++ Ls) cells slots hl hr1 (fun q hq => (List.mem_append.mp hq).elim (hlocs q) (hL q)) hc hs)
     · rw [if_neg hw] at hk hG
       by_cases hw2 : w < -1
       · rw [if_pos hw2] at hk hG
         obtain ⟨hini9, hk⟩ := hk
         unfold xm_ma at hG
         intro ls H locs cells slots hl hr hlocs hc hs
         rcases hk with ⟨e9, hlink, hstat, hcode⟩ | ⟨e9, hlink, hstat, hcode⟩ | ⟨e9, hlink, hstat, hcode⟩
         · subst e9
           rw [if_pos rfl] at hG
           obtain ⟨a, b, r, rfl, hsum, hG2⟩ := xm_ii_e hG
           exact va_mmax hx hb (hml.trans hl.2.1.symm) hown (hts _ hlink) (hts _ hstat) (hts _ hini9) (hts _ hcode) (by omega) (by omega) (by omega) (by omega) hd (hG2 ls H locs cells slots hl hr hlocs hc hs)
         · subst e9
           rw [if_neg (by decide), if_pos rfl] at hG
           obtain ⟨a, b, r, rfl, hsum, hG2⟩ := xm_ii_e hG
           exact va_mmin hx hb (hml.trans hl.2.1.symm) hown (hts _ hlink) (hts _ hstat) (hts _ hini9) (hts _ hcode) (by omega) (by omega) (by omega) (by omega) hd (hG2 ls H locs cells slots hl hr hlocs hc hs)
         · subst e9
           rw [if_neg (by decide), if_neg (by decide)] at hG
           obtain ⟨a, b, r, rfl, hsum, hG2⟩ := xm_ll_e hG
           exact va_mmax_long hx hb (hml.trans hl.2.1.symm) hown (hts _ hlink) (hts _ hstat) (hts _ hini9) (hts _ hcode) (by omega) (by omega) (by omega) (by omega) hd (hG2 ls H locs cells slots hl hr hlocs hc hs)
       rw [if_neg hw2] at hk hG
       obtain ⟨hlink, hstat, hdesc⟩ := hk
       obtain ⟨hy, hsum, mc', ms', q', h1, h2, hcall, kk, kx⟩ := hG
       obtain ⟨hsome, hM⟩ := hcs _ _ _ _ _ _ hcall
       have hm := hP x hsome
       intro ls H locs cells slots hl hr hlocs hc hs T hT X
       have hcw := hts _ hm.1
       have hbk := xm_back (p := p) (e := e) (below := below) hgood hts hm hM hRf hRl
       unfold xm_cw at hcw
       split at hcw
       · exact xm_after hlocks hown hts hsv htab hl hlocs hc hs h1 h2 kk kx (vx_callS X hx hown (hts _ hlink) (hts _ hstat) (hts _ hm.2.1) hcw hm.2.2.2.1 hbk (g := F0 m pc ls st) rfl (hl.2.1.trans hml.symm) (argsL := (st.take y).reverse) (rest := st.drop y)
           (xm_len hdesc (by simp [Nat.min_eq_left hy])) (by rw [List.reverse_reverse, List.take_append_drop]) (lv_room hsum) (by rw [hb]; exact hd) (fun vm₁ hW₁ => ⟨by show cells + mc' ≤ R.cells; omega, by show slots + ms' ≤ R.slots; omega, rfl, by show xm_rep D cl H0 h T.heap; rw [hT]; exact hr, va_K.moved hW₁.alike hK, xm_sv.warm (U := T.setVm vm₁) hW₁ hsv⟩))
       · exact xm_after hlocks hown hts hsv htab hl hlocs hc hs h1 h2 kk kx (vx_callSX X hx hown (hts _ hlink) (hts _ hstat) (hts _ hm.2.1) hcw hm.2.2.2.1 hbk (g := F0 m pc ls st) rfl (hl.2.1.trans hml.symm) (argsL := (st.take y).reverse) (rest := st.drop y)
           (xm_len hdesc (by simp [Nat.min_eq_left hy])) (by rw [List.reverse_reverse, List.take_append_drop]) (lv_room hsum) (by rw [hb]; exact hd) (fun vm₁ hW₁ => ⟨by show cells + mc' ≤ R.cells; omega, by show slots + ms' ≤ R.slots; omega, rfl, by show xm_rep D cl H0 h T.heap; rw [hT]; exact hr, va_K.moved hW₁.alike hK, xm_sv.warm (U := T.setVm vm₁) hW₁ hsv⟩))
    | invokevirtual k =>
      obtain ⟨hd, hlink, hinst, hsel, hdesc, hcn, hno⟩ := hk
      dsimp only at hG
      have hg9 : xm_rcv st y fun b as r => (∀ H : Heap, xm_rep D cl H0 h H → ∃ cell : Cell, H[b]? = some cell ∧ cell.vm.isStatics = false ∧ s.vm.findClass (P.1 x).cls = some cell.cls) ∧ xm_call cs x (.ref b :: as) r h rc rs (fun st' h' rc' rs' => xm_W p l e R s m args below meth c nL D cl H0 mc ms post (pc + 3) L st' h' rc' rs') (xm_kx hh sv post (xm_W p l e R s m args below meth c nL D cl H0 mc ms post) pc L) := by
       by_cases hw : w = -1
       · rw [if_pos hw] at hcn hG
         refine xm_rcv_n (fun b as r q => ⟨fun H hr => ?_, q.2⟩) hG
         obtain ⟨k9, q9, e9, e8⟩ := q.1
         obtain ⟨cell, c1, c2, c3, c4⟩ := (hsv.2.2.2.2.2.2 k9 q9 e9).2.1
         rw [e8] at c1 c4
         exact ⟨cell, by rw [hr.2.2.2 b (Nat.not_le.mp c4)]; exact c1, c2, by rw [hcn]; exact c3⟩
       · rw [if_neg hw] at hcn hG
         refine xm_rcv_n (fun b as r q => ⟨fun H hr => ?_, q.2⟩) hG
         obtain ⟨fs, hbo, -⟩ := xm_O_e q.1
         exact xm_rv9 hcn (fun z hcx => va_recv hK (xm_one_P hr hbo) (q0 := 0) hcx rfl)
      clear hG
      obtain ⟨b, as, r, rfl, hlen, hobj, hsum, mc', ms', q', h1, h2, hcall, kk, kx⟩ := xm_rcv_e hg9
      obtain ⟨hsome, hM⟩ := hcs _ _ _ _ _ _ hcall
      have hm := hP x hsome
      intro ls H locs cells slots hl hr hlocs hc hs T hT X
      obtain ⟨cellB, hcB, hoB, hclB⟩ := hobj H hr
      exact xm_after hlocks hown hts hsv htab hl hlocs hc hs h1 h2 kk kx (vx_callV X hx (C := (P.1 x).cls) hown (hts _ hlink) (hts _ hinst) (hts _ hsel) (xm_cw_e hno ▸ hts _ hm.1) hm.2.2.2.1 (xm_back hgood hts hm hM hRf hRl) (by rw [hT]; exact hcB) hoB hclB (g := F0 m pc ls (as.reverse ++ .ref b :: r)) rfl (hl.2.1.trans hml.symm) (argsL := as) (rest := r)
        (xm_len hdesc hlen) rfl (lv_room hsum) (by rw [hb]; exact hd) (fun vm₁ hW₁ => ⟨by show cells + mc' ≤ R.cells; omega, by show slots + ms' ≤ R.slots; omega, rfl, by show xm_rep D cl H0 h T.heap; rw [hT]; exact hr, va_K.moved hW₁.alike hK, xm_sv.warm (U := T.setVm vm₁) hW₁ hsv⟩))
    | invokespecial k =>
      obtain ⟨hd, hk⟩ := hk
      obtain ⟨b, as, r, rfl, hlen, hG2⟩ := xm_rcv_e hG
      clear hG
      by_cases hw : w = -1
      · rw [if_pos hw] at hk hG2
        obtain ⟨hlink, hinst, hcode⟩ := hk
        obtain ⟨hy0, hsum, hG3⟩ := hG2
        subst hy0
        intro ls H locs cells slots hl hr hlocs hc hs
        have has : as = [] := List.length_eq_zero_iff.mp hlen
        subst has
        have hrm := lv_room (m := m) (pc := pc) (ls := ls) (rest := ([] : List Value).reverse ++ .ref b :: r) hsum
        exact W.objInit hx hb hown (hts _ hlink) (hts _ hinst) (hts _ hcode) (g := F0 m pc ls (([] : List Value).reverse ++ .ref b :: r)) rfl (hl.2.1.trans hml.symm) rfl hd (by omega) (by omega) (hG3 ls H locs cells slots hl hr hlocs hc hs)
      · rw [if_neg hw] at hk hG2
        obtain ⟨hin, hrn, hno, hlink, hinst, hdesc⟩ := hk
        obtain ⟨hsum, mc', ms', q', h1, h2, hcall, kk, kx⟩ := hG2
        obtain ⟨hsome, hM⟩ := hcs _ _ _ _ _ _ hcall
        have hm := hP x hsome
        have hcode := hts _ hm.1
        rw [xm_cw_e hno, hrn] at hcode
        intro ls H locs cells slots hl hr hlocs hc hs T hT X
        exact xm_after hlocks hown hts hsv htab hl hlocs hc hs h1 h2 kk kx (xm_callI X hx hown hin (hlink.imp (fun q => hts _ q) (fun q => q.elim fun host q => ⟨host, va_Nw.use rfl (hsv.2.2.1 _ q).2⟩)) (hts _ hinst) hcode hm.2.2.2.1 (xm_back hgood hts hm hM hRf hRl) (g := F0 m pc ls (as.reverse ++ .ref b :: r)) rfl (hl.2.1.trans hml.symm) (argsL := as) (rest := r)
          (xm_len hdesc hlen) rfl (lv_room hsum) (by rw [hb]; exact hd) (fun vm₁ hW₁ => ⟨by show cells + mc' ≤ R.cells; omega, by show slots + ms' ≤ R.slots; omega, rfl, by show xm_rep D cl H0 h T.heap; rw [hT]; exact hr, va_K.moved hW₁.alike hK, xm_sv.warm (U := T.setVm vm₁) hW₁ hsv⟩))
    | getstatic k =>
      obtain ⟨hd, hk⟩ := hk
      cases hv : sv.1[x]? with
      | none => rw [hv] at hk; exact hk.elim
      | some z =>
        simp only [hv] at hk hG
        intro ls H locs cells slots hl hr hlocs hc hs T hT X
        have hsz := (vx_frame X.same).1
        have hZ : va_Z z.1 z.2.1 z.2.2.1 z.2.2.2 (fun a => H0.size ≤ a) s s.heap := (hsv.1 x z hv).kept (fun a ha _ => hH.2 a ha)
        have hS : va_S (fun a => H0.size ≤ a) s.heap H locs := ⟨by rw [← hT]; exact hsz, fun q _ hq => by
          have hlt : q < H0.size := Nat.not_le.mp hq
          rw [hr.2.2.2 q hlt, hH.2 q hlt], hlocs⟩
        rcases hk with hk | ⟨host, hk⟩
        · exact va_gets hx hb hZ hS hown (hts _ hk) (fun _ q => q) hd (hG ls H locs cells slots hl hr hlocs hc hs) T hT X
        · exact va_getsN hx hb hZ hS hown (va_Nw.use rfl (hsv.2.2.1 _ hk).2) (fun _ q => q) hd (hG ls H locs cells slots hl hr hlocs hc hs) T hT X
    | new k =>
     dsimp only [xm_ok2] at hk
     dsimp only at hG
     by_cases hw : w = -1
     · rw [if_pos hw] at hk hG
       obtain ⟨text, Y, names, is, ic, sa, ix, rx, hstr, hth, hfe, hfY, hfn, hnl, hrx, hlink, hini9, hat, hd, hd3, hds⟩ := hk
       obtain ⟨hh0, hdd, h1, h2, hsum, hpost⟩ := hG
       have hemp : ∀ z ∈ c.exceptionTable.toList, False := fun z hz => by rw [htab.1, hh0] at hz; cases hz
       obtain ⟨hl9, hU0, hN0, -⟩ := hsv.2.2.2.2.1 hth
       intro ls H locs cells slots hl hr hlocs hc hs T hT X
       have hsz := (vx_frame X.same).1
       have hS : va_S (fun a => H0.size ≤ a) s.heap H locs := ⟨by rw [← hT]; exact hsz, fun q _ hq => by
         have hlt : q < H0.size := Nat.not_le.mp hq
         rw [hr.2.2.2 q hlt, hH.2 q hlt], hlocs⟩
       have hU := hU0.kept (fun a ha _ => hH.2 a ha)
       have hN := hN0.kept (fun a ha _ => hH.2 a ha)
       have hat' : ∀ w ∈ (xm_tx own ic (xm_ex x) ix rx Y names).filter vx_no, w.before args s = true := fun w hq => (hat w hq).elim (hts w) (fun z => va_Nw.use (xm_nwok_on (hsv.2.2.1 w z).1) (hsv.2.2.1 w z).2)
       have hgd : ∀ w ∈ Cond.classLink own k (xm_ex x) :: Cond.initialized (xm_ex x) :: (xm_tx own ic (xm_ex x) ix rx Y names).filter vx_no, vx_ot w = true := by
         intro w hq
         unfold vx_ot
         rcases List.mem_cons.mp hq with rfl | hq
         · rw [hgood _ hlink]; simp
         · rcases List.mem_cons.mp hq with rfl | hq
           · rw [hgood _ hini9]; simp
           · rcases hat w hq with z | z
             · rw [hgood _ z]; simp
             · rw [xm_nwok_on (hsv.2.2.1 w z).1]; simp
       have hx9 : ∀ t : State, s.vm.Alike t.vm → H.size ≤ t.heap.size → (∀ q : Nat, q < H.size → t.heap[q]? = H[q]?) → xm_XC D cl H0 post (xm_ex x) s t := fun t _ hz ho => ⟨(h.1, t.heap.size), hpost _ (by rw [← hr.1]; exact hz), rfl, fun a e9 ha => (hr.2.1 a e9 ha).kept (ho a (hr.2.1 a e9 ha).lt), Nat.le_trans hr.2.2.1 hz, fun q hq => (ho q (Nat.lt_of_lt_of_le hq hr.2.2.1)).trans (hr.2.2.2 q hq)⟩
       exact xm_throw hx hb hl9 hrx hown hfe hfY hfn (hts _ hlink) (hts _ hini9) (hsv.2.1 y _ hstr) hat' hgd hU hN hS (hl.2.1.trans hml.symm) hd hd3 hds hemp (by omega) (by omega) (by omega) (by omega) hlocks hx9 hlocs (by omega) (by omega) T hT X
     · rw [if_neg hw] at hk hG
       obtain ⟨hd, hk⟩ := hk
       obtain ⟨h1, h2, hG⟩ := hG
       cases hcx : cl[x]? with
       | none => rw [hcx] at hk; exact hk.elim
       | some z =>
         obtain ⟨C9, T9, N⟩ := z
         rw [hcx] at hk
         obtain ⟨hlink, hinst, hini9, hlen⟩ := hk
         intro ls H locs cells slots hl hr hlocs hc hs
         have hKn := hK.1 x _ hcx
         obtain ⟨hin, hty, -⟩ := hcl x _ hcx
         refine W.newcK hx hb hown (hts _ hlink) (hts _ hinst) (hts _ hini9) rfl hd (by omega) (by omega) hKn.2.1 hr.1 fun H1 kC hkC e1 z1 o1 => ?_
         have hz : H1.size = H.size + 1 := by rw [z1, hr.1]
         have ho : ∀ q : Nat, q < H.size → H1[q]? = H[q]? := fun q hq => o1 q (by rw [← hr.1]; exact hq)
         exact hG ls H1 locs (cells + 1) (slots + N) hl (xm_rep_nw hr ⟨_, hcx, (u_born (fty x) hts hin hKn hkC e1 hty).to (hdf x _ hcx)⟩ hz ho) hlocs (by omega) (by omega)
    | iaload =>
      dsimp only at hG
      by_cases hw : w = -1
      · rw [if_pos hw] at hG
        obtain ⟨a, j, r, rfl, k, n, f, hk9, hin, hG2⟩ := xm_ai_e hG
        intro ls H locs cells slots hl hr hlocs hc hs T hT X
        have hsz := (vx_frame X.same).1
        have hX9 : va_T .int a n (fun j => .int (f j)) (fun a => H0.size ≤ a) s s.heap := (hsv.2.2.2.2.2.1 k _ hk9).kept (fun a ha _ => hH.2 a ha)
        have hS : va_S (fun a => H0.size ≤ a) s.heap H locs := ⟨by rw [← hT]; exact hsz, fun q _ hq => by
          have hlt : q < H0.size := Nat.not_le.mp hq
          rw [hr.2.2.2 q hlt, hH.2 q hlt], hlocs⟩
        exact va_ti hx hb hX9 hS hin rfl hk (hG2 ls H locs cells slots hl hr hlocs hc hs) T hT X
      · rw [if_neg hw] at hG
        exact xm_step C (fun q h' => by rw [hq] at h'; cases h'; exact hk) hG
    | arraylength =>
      dsimp only at hG
      by_cases hw : w = -1
      · rw [if_pos hw] at hG
        obtain ⟨a, r, rfl, k, n, f, hk9, hG2⟩ := xm_a_e hG
        intro ls H locs cells slots hl hr hlocs hc hs T hT X
        have hsz := (vx_frame X.same).1
        have hX9 : va_T .int a n (fun j => .int (f j)) (fun a => H0.size ≤ a) s s.heap := (hsv.2.2.2.2.2.1 k _ hk9).kept (fun a ha _ => hH.2 a ha)
        have hS : va_S (fun a => H0.size ≤ a) s.heap H locs := ⟨by rw [← hT]; exact hsz, fun q _ hq => by
          have hlt : q < H0.size := Nat.not_le.mp hq
          rw [hr.2.2.2 q hlt, hH.2 q hlt], hlocs⟩
        exact va_tlen hx hb hX9 hS rfl hk (hG2 ls H locs cells slots hl hr hlocs hc hs) T hT X
      · rw [if_neg hw] at hG
        by_cases hw2 : w = -2
        · rw [if_pos hw2] at hG
          obtain ⟨a, r, rfl, k, q, hk9, e9, hG2⟩ := xm_a_e hG
          subst e9
          intro ls H locs cells slots hl hr hlocs hc hs T hT X
          have hsz := (vx_frame X.same).1
          have hX9 := (hsv.2.2.2.2.2.2 k _ hk9).2.2.2.2.kept (fun a ha _ => hH.2 a ha)
          have hS : va_S (fun a => H0.size ≤ a) s.heap H locs := ⟨by rw [← hT]; exact hsz, fun q _ hq => by
            have hlt : q < H0.size := Nat.not_le.mp hq
            rw [hr.2.2.2 q hlt, hH.2 q hlt], hlocs⟩
          exact va_tlen hx hb hX9 hS rfl hk (hG2 ls H locs cells slots hl hr hlocs hc hs) T hT X
        rw [if_neg hw2] at hG
        exact xm_step C (fun q h' => by rw [hq] at h'; cases h'; exact hk) hG
    | baload =>
      dsimp only [xm_ok2] at hk
      dsimp only at hG
      by_cases hw : x = 4
      · rw [if_pos hw] at hk hG
        obtain ⟨a, j, r, rfl, k, q, hk9, e9, hin, hG2⟩ := xm_ai_e hG
        subst e9
        intro ls H locs cells slots hl hr hlocs hc hs T hT X
        have hsz := (vx_frame X.same).1
        have hX9 := (hsv.2.2.2.2.2.2 k _ hk9).2.2.2.2.kept (fun a ha _ => hH.2 a ha)
        have hS : va_S (fun a => H0.size ≤ a) s.heap H locs := ⟨by rw [← hT]; exact hsz, fun q _ hq => by
          have hlt : q < H0.size := Nat.not_le.mp hq
          rw [hr.2.2.2 q hlt, hH.2 q hlt], hlocs⟩
        exact va_tb hx hb hX9 hS hin rfl hk (hG2 ls H locs cells slots hl hr hlocs hc hs) T hT X
      · rw [if_neg hw] at hk hG
        exact xm_step C (fun q h' => by rw [hq] at h'; cases h'; exact hk) hG
    | ldc k9 =>
      dsimp only [xm_ok2] at hk
      dsimp only at hG
      by_cases hw : x = 1
      · rw [if_pos hw] at hk hG
        obtain ⟨hd, hk⟩ := hk
        cases hv : sv.2.2.2.2.2.2[y]? with
        | none => rw [hv] at hG; exact hG.elim
        | some z =>
          rw [hv] at hG hk
          have hz := Option.some.inj hk
          have e1 : z.1 = own := congrArg Prod.fst hz
          have e2 : z.2.1 = k9 := congrArg Prod.snd hz
          intro ls H locs cells slots hl hr hlocs hc hs
          have hR := (hsv.2.2.2.2.2.2 y z hv).1
          rw [e1, e2] at hR
          exact va_ldcS hx hb hown hR hd (hG ls H locs cells slots hl hr hlocs hc hs)
      · rw [if_neg hw] at hk hG
        exact xm_step C (fun q h' => by rw [hq] at h'; cases h'; exact hk) hG
    | getfield k9 =>
      dsimp only [xm_ok2] at hk
      dsimp only at hG
      by_cases hw : x = 98
      · rw [if_pos hw] at hk hG
        obtain ⟨hd, hk⟩ := hk
        obtain ⟨a, r, rfl, k, q, hk9, e9, hG2⟩ := xm_a_e hG
        subst e9
        intro ls H locs cells slots hl hr hlocs hc hs T hT X
        have hsz := (vx_frame X.same).1
        have hS : va_S (fun a => H0.size ≤ a) s.heap H locs := ⟨by rw [← hT]; exact hsz, fun q _ hq => by
          have hlt : q < H0.size := Nat.not_le.mp hq
          rw [hr.2.2.2 q hlt, hH.2 q hlt], hlocs⟩
        by_cases hy : y = 0
        · rw [if_pos hy] at hk hG2
          exact vk_getf hx hb ((hsv.2.2.2.2.2.2 k _ hk9).2.2.2.1.kept (fun a ha _ => hH.2 a ha)) hS hown (hts _ hk) (fun _ q => q) hd (hG2 ls H locs cells slots hl hr hlocs hc hs) T hT X
        · rw [if_neg hy] at hk hG2
          exact vk_getf hx hb ((hsv.2.2.2.2.2.2 k _ hk9).2.2.1.kept (fun a ha _ => hH.2 a ha)) hS hown (hts _ hk) (fun _ q => q) hd (hG2 ls H locs cells slots hl hr hlocs hc hs) T hT X
      · rw [if_neg hw] at hk hG
        exact xm_step C (fun q h' => by rw [hq] at h'; cases h'; exact hk) hG
    | multianewarray k n9 =>
      obtain ⟨rfl, hth, hd, hlink⟩ := hk
      obtain ⟨a, b, r, rfl, rfl, hb0, hb8, h1, h2, hG2⟩ := xm_ii_e hG
      intro ls H locs cells slots hl hr hlocs hc hs
      exact xm_multi hx hb hown (hts _ hlink) (hsv.2.2.2.2.1 hth).2.2.2 hK hr hb0 hb8 (by omega) (by omega) hd (fun H1 Ls hr1 hL => hG2 ls H1 (locs ++ Ls) (cells + 4) (slots + (3 + 3 * b.toNatClampNeg)) hl hr1 (fun q hq => (List.mem_append.mp hq).elim (hlocs q) (hL q)) (by omega) (by omega))
    | aastore =>
      obtain ⟨hd, hth⟩ := hk
      obtain ⟨a, j, u, r, rfl, hG2⟩ := xm_aia_e hG
      obtain ⟨n, f, ha, hin, hlo, hu, hG2⟩ := xm_Aq_e hG2
      obtain ⟨n1, g, hu, -⟩ := xm_Ai_e hu
      intro ls H locs cells slots hl hr hlocs hc hs
      exact xm_ast hx hb (hsv.2.2.2.2.1 hth).2.2.2 hK hr ha hu hin hlo hd (fun H1 Ls hr1 hL => hG2 ls H1 (locs ++ Ls) cells slots hl hr1 (fun q hq => (List.mem_append.mp hq).elim (hlocs q) (hL q)) hc hs)
    | _ => exact xm_step C (fun q h' => by rw [hq] at h'; cases h'; exact hk) hG
/-- every method, at every depth -/
theorem xm_sound (l : Launch) (hgood : ∀ w ∈ TB, goodWord w = true) (hP : ∀ x, (P.2.2.2.2.1 x 0).isSome = true → xm_mok P dfl sv TB cl x) (hdf : ∀ x q, cl[x]? = some q → ∀ j, j < q.2.2 → defaultValue (fty x j) = vp_V (dfl x) j)
    (hcl : ∀ (k : Nat) (q : vw_C), cl[k]? = some q → (∀ w ∈ u_ws q.1 q.2.1 q.2.2, w ∈ TB) ∧ (∀ j, j < q.2.2 → parseFieldDescriptor (q.2.1 j).2.2.1 = some (fty k j)) ∧ (∀ a, a < q.2.2 → ∀ b, b < q.2.2 → a ≠ b → (q.2.1 a).2.1 ≠ (q.2.1 b).2.1)) :
    ∀ (d x : Nat) (as : List Value) (h : xm_H) (mc ms : Nat) (q : xm_Q), xm_M P ac H0.size fty dfl sv d x as h mc ms q → (P.2.2.2.2.1 x 0).isSome = true ∧ xm_Met l D cl ac H0 sv TB P d x as h mc ms q := by
  intro d
  induction d with
  | zero => intro x as h mc ms q hM; exact hM.elim
  | succ d ih =>
    intro x as h mc ms q hM
    obtain ⟨hsome, hn1, hn2, hM⟩ := hM
    refine ⟨hsome, ?_⟩
    have hm := hP x hsome
    obtain ⟨g1, g2, g3, g4, g5, g8, g6, g7⟩ := id hm
    have body : ∀ p e s m args below meth c s₁, BodyLoose p l (P.1 x) (headSpec (xm_cw P x :: TB) (xm_room (d + 1) mc ms)) (P.2.1 x) (P.2.2.1 x) (P.2.2.2.1 x) e s m args below meth c s₁ → c.maxLocals = P.2.2.1 x → c.exceptionTable.toList = (P.2.2.2.2.2.2.2 x).map xm_te → xm_Pc l D cl ac H0 sv as h args s →
        W p l e (xm_room (d + 1) mc ms) s m args below meth c s.heap [] 0 0 (vx_MQ below (xm_Qc D cl H0 q) (xm_XC D cl H0 q) args s mc ms (fun a => H0.size ≤ a)) (entryFrame m args (P.2.2.1 x)) := by
      intro p e s m args below meth c s₁ B hml htb hPc
      obtain ⟨rfl, hrep, hK, hsv⟩ := hPc
      have hts0 : ∀ w ∈ (xm_cw P x :: TB), w.before as.toArray s = true := atoms_spec (ws := xm_cw P x :: TB) B.pre
      have hts : ∀ w ∈ TB, w.before as.toArray s = true := fun w hw => hts0 w (List.mem_cons_of_mem _ hw)
      have C : xm_C p l (xm_room (d + 1) mc ms) s m as.toArray meth c (P.2.1 x) mc ms D cl ac (P.1 x).cls TB (P.2.2.2.2.2.1 x) fty (P.2.2.2.1 x) H0 sv :=
        ⟨B.exec, B.bytes, findClass_of_methodNamed B.named, hts, hK, B.notSynchronized, B.returns, fun hi => (name_of_methodNamed B.named B.method).1.trans (g6 hi), Nat.le_refl _, Nat.le_refl _, hsv, hrep.2.2, hcl⟩
      have hX := hM (xm_W p l e (xm_room (d + 1) mc ms) s m as.toArray below meth c (P.2.2.1 x) D cl H0 mc ms q) (fun pc L st h rc rs hG => xm_stepG C hml ⟨htb, g8⟩ hgood hP hdf ih (Nat.le_refl _) (Nat.le_refl _) (fun z hz => g7 pc z hz) hG)
      rw [lg_entry_eq]
      exact hX _ s.heap [] 0 0 (xm_st_lo hn1 hn2) hrep (fun _ z => by cases z) (by omega) (by omega)
    unfold xm_Met
    cases hz : P.2.2.2.2.2.2.2 x with
    | nil =>
      refine vx_ofW (l := l) (cc := P.2.1 x) (maxL := P.2.2.1 x) (ret := P.2.2.2.1 x) (ws' := TB) g3 (by rw [xm_cw_e hz]) ?_
      intro p e s m args below meth c s₁ B hml hemp hPc
      refine body p e s m args below meth c s₁ B hml ?_ hPc
      rw [hz]
      cases ht : c.exceptionTable.toList with
      | nil => rfl
      | cons a b => exact (hemp a (by rw [ht]; exact List.mem_cons_self)).elim
    | cons a b =>
      have e9 : xm_cw P x = Cond.codeWith (P.1 x) (P.2.1 x) (P.2.2.1 x) (P.2.2.2.1 x) ((a :: b).map (fun e => (e.1, e.2.1, e.2.2.1, e.2.2.2.1))) := by unfold xm_cw; rw [hz]
      refine vx_ofWH (l := l) (cc := P.2.1 x) (maxL := P.2.2.1 x) (ret := P.2.2.2.1 x) (hh := (a :: b).map (fun e => (e.1, e.2.1, e.2.2.1, e.2.2.2.1))) (ws' := TB) g3 (by rw [e9]) ?_
      intro p e s m args below meth c s₁ B hml hPc
      refine body p e s m args below meth c s₁ B hml ?_ hPc
      have hcw : (xm_cw P x).before args s = true := atoms_spec (ws := xm_cw P x :: TB) B.pre _ List.mem_cons_self
      rw [e9] at hcw
      rw [vx_table (x := P.1 x) B hcw, hz]
      unfold tableOf
      rw [List.map_map]
      rfl
end XMC
