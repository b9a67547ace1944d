/-! THE ENGINE: one step -/
section XMS
variable {p : Program} {l : Launch} {e : Env} {R : Room} {s : State} {m : MethodId} {args : Array Value} {below : List Frame} {meth : Method} {c : Code} {cc : ByteArray} {nL mc ms : Nat} {H0 : Heap} {D : va_G} {cl : List vw_C} {ac : Nat → ClassId} {own : String} {TB : List Cond} {ini : Bool} {fty : Nat → Nat → FieldType} {rt : Option FieldType} {post : xm_Q} {tb : Nat → Option xm_I} {sv : xm_V}
/-- a method's end, over the machine -/
def xm_Qc (D : va_G) (cl : List vw_C) (H0 : Heap) (post : xm_Q) : Array Value → State → Outcome → State → Prop := fun _ _ o t => ∃ (v : Option Value) (h : xm_H), o = .returned v ∧ post (.inl v) h ∧ xm_rep D cl H0 h t.heap
def xm_XC (D : va_G) (cl : List vw_C) (H0 : Heap) (post : xm_Q) : String → State → State → Prop := fun E _ t => ∃ h : xm_H, post (.inr E) h ∧ xm_rep D cl H0 h t.heap
/-- the machine comes from here to the method's end -/
def xm_W (p : Program) (l : Launch) (e : Env) (R : Room) (s : State) (m : MethodId) (args : Array Value) (below : List Frame) (meth : Method) (c : Code) (nL : Nat) (D : va_G) (cl : List vw_C) (H0 : Heap) (mc ms : Nat) (post : xm_Q) : xm_X := fun pc L st h rc rs =>
  ∀ (ls : Array Slot) (H : Heap) (locs : List Loc) (cells slots : Nat), xm_lo ls nL L → xm_rep D cl H0 h H → (∀ q ∈ locs, H0.size ≤ q.base) → cells + rc = mc → slots + rs = ms →
    W p l e R s m args below meth c H locs cells slots (vx_MQ below (xm_Qc D cl H0 post) (xm_XC D cl H0 post) args s mc ms (fun q => H0.size ≤ q)) (F0 m pc ls st)
/-- what holds in a method's body all along -/
def xm_C (p : Program) (l : Launch) (R : Room) (s : State) (m : MethodId) (args : Array Value) (meth : Method) (c : Code) (cc : ByteArray) (mc ms : Nat) (D : va_G) (cl : List vw_C) (ac : Nat → ClassId) (own : String) (TB : List Cond) (ini : Bool) (fty : Nat → Nat → FieldType) (rt : Option FieldType) (H0 : Heap) (sv : xm_V) : Prop :=
  p.tables.exec = Jvm.exec ∧ c.code = cc ∧ s.vm.findClass own = some m.cls ∧ (∀ w ∈ TB, w.before args s = true) ∧ va_K D cl (xm_tys ac) s ∧ meth.locks = false ∧ meth.sig.returnType = rt ∧ (ini = true → meth.name = "<init>") ∧ mc ≤ R.cells ∧ ms ≤ R.slots ∧ xm_sv l H0 sv s ∧ (H0.size ≤ s.heap.size ∧ ∀ q : Nat, q < H0.size → s.heap[q]? = H0[q]?) ∧
  (∀ (k : Nat) (q : vw_C), cl[k]? = some q → (∀ w ∈ u_ws q.1 q.2.1 q.2.2, w ∈ TB) ∧ (∀ j, j < q.2.2 → parseFieldDescriptor (q.2.1 j).2.2.1 = some (fty k j)) ∧ (∀ a, a < q.2.2 → ∀ b, b < q.2.2 → a ≠ b → (q.2.1 a).2.1 ≠ (q.2.1 b).2.1))
theorem xm_one_P {h : xm_H} {H : Heap} {a : Nat} {x : va_E} (hr : xm_rep D cl H0 h H) (ha : h.1 a = some x) : va_P D cl [(a, x)] H := by
  intro k q hk
  have hz : k < 1 := (List.getElem?_eq_some_iff.mp hk).1
  rw [show k = 0 by omega] at hk
  cases hk
  exact hr.2.1 a x ha
theorem xm_at_i {cA : ClassId} {n : Nat} {f : Nat → Int32} {H1 : Heap} {a j : Nat} {u : Int32} (e1 : H1[a]? = some ((vp_cell cA (n, .inl f)).setSlot j (.int u))) : va_at D cl (a, .inl (cA, n, .inl (upd f j u))) H1 := by
  show H1[a]? = some (vp_cell _ _)
  rw [e1, vp_cell_i, vp_cell_i, arrV_store]
  congr 2
  funext q
  by_cases hq : q = j
  · subst hq; simp [updV, upd]
  · simp [updV, upd, hq]
theorem xm_at_l {cA : ClassId} {n : Nat} {f : Nat → Int64} {H1 : Heap} {a j : Nat} {u : Int64} (e1 : H1[a]? = some ((vp_cell cA (n, .inr (.inl f))).setSlot j (.long u))) : va_at D cl (a, .inl (cA, n, .inr (.inl (vp_updL f j u)))) H1 := by
  show H1[a]? = some (vp_cell _ _)
  rw [e1, vp_cell_l, vp_cell_l, arrV_store]
  congr 2
  funext q
  by_cases hq : q = j
  · subst hq; simp [updV, vp_updL]
  · simp [updV, vp_updL, hq]
theorem xm_nar (ty : FieldType) (h : ty = .boolean ∨ ty = .byte ∨ ty = .char) (x : Int32) : narrow ty (.int x) = .int (vp_nar ty x) := by
  rcases h with rfl | rfl | rfl <;> rfl
theorem xm_locs {locs : List Loc} {a k : Nat} (h : ∀ q ∈ locs, H0.size ≤ q.base) (ha : H0.size ≤ a) : ∀ q ∈ locs ++ [⟨a, k⟩], H0.size ≤ q.base := by
  intro q hq
  rcases List.mem_append.mp hq with h1 | h1
  · exact h q h1
  · rw [List.mem_singleton.mp h1]; exact ha
theorem xm_put (C : xm_C p l R s m args meth c cc mc ms D cl ac own TB ini fty rt H0 sv) {H : Heap} {locs : List Loc} {cells slots : Nat} {Q : State → Prop} {ls : Array Slot} {rest : List Value} {h : xm_H} {x y a pc k : Nat} {fs : List Value} {u : Value} (hr : xm_rep D cl H0 h H) (ha : h.1 a = some (.inr (x, fs)))
    {w0 : Int32} {v0 : Int64} {ts0 : List (Int32 × Nat)} (hok : xm_ok own cc TB cl ini pc (.putfield k, x, y, w0, v0, ts0)) (hl : y < fs.length) (hlo : H0.size ≤ a) (hfit : xm_fit (fty x y) u)
    (kk : ∀ (H1 : Heap) (j : Nat), xm_rep D cl H0 (xm_up h a (.inr (x, fs.set y u))) H1 → W p l e R s m args below meth c H1 (locs ++ [⟨a, j⟩]) cells slots Q (F0 m (pc + 3) ls rest)) : W p l e R s m args below meth c H locs cells slots Q (F0 m pc ls (u :: .ref a :: rest)) := by
  obtain ⟨hx, hb, hown, hts, hK, hlocks, hrt, hini, -, -, -, -, hcl⟩ := C
  obtain ⟨hd, hk⟩ := hok
  cases hcx : cl[x]? with
  | none => rw [hcx] at hk; exact hk.elim
  | some q =>
    obtain ⟨C, T, N⟩ := q
    rw [hcx] at hk
    obtain ⟨hy, hlink, hfin⟩ := hk
    obtain ⟨hin, hty, hnm⟩ := hcl x _ hcx
    have hap := va_apart (own := own) hts hin (fty x) hty hnm hK hcx
    obtain ⟨r, h1, cell, q1, q2, q3, q4⟩ := hr.2.1 a _ ha
    have hre : r = (C, T, N) := Option.some.inj (h1.symm.trans hcx)
    subst hre
    obtain ⟨hS, hfc, kC, hkC, hkind⟩ := hK.1 x _ hcx
    obtain ⟨cf, kf, fi, f, hi, hsl⟩ := hS y hy
    have hlay := hts _ (hin _ (u_in_lay hy))
    unfold u_lay at hlay
    have hst := (u_facts hfc hkC (u_lays hts hin hy) hi).1
    rcases hfin with hfin | ⟨hfin, hi1, hdecl⟩
    · rw [if_neg (by rw [hfin]; decide)] at hlay
      have h6 := u_store hfc hkC hkind hlay hi (hty y hy) hfit.1 hfit.2
      refine W.putK hx hb (f := f) ⟨hown, hts _ hlink, ⟨_, _, _, hi⟩, hst⟩ (by rw [q2]; exact h6) q1 q3 (by rw [hsl]; exact k2_hasslot (q4 y hy)) rfl rfl hd fun H' e1 e2 e3 => ?_
      rw [hsl] at e1
      exact kk H' _ (xm_rep_up hr hlo ⟨_, hcx, t_OB.to (V := updV (vp_V fs) y u) ⟨_, e1, q2, q3, t_set q4 hap hy u⟩ (fun j _ => vp_updV_set hl u j)⟩ e2 e3)
    · rw [if_pos hfin] at hlay
      have hcf : m.cls = cf := by
        obtain ⟨_, _, c', _, _, _, -, -, hf', -, -, -, hown2, -⟩ := Cond.laysFinal_spec hlay
        have e1 : c' = cf := by have := hi.symm.trans hf'; simp at this; exact this.1.symm
        have hdecl' : (T y).1 = own := hdecl
        simp only [hdecl'] at hown2
        rw [← e1]; exact Option.some.inj (hown.symm.trans hown2)
      have h6 := u_fits hfc hkC hkind (Or.inr hlay) hi (hty y hy) hfit.1 hfit.2
      refine W.putFinK hx hb hown (hts _ hlink) hi hst hcf (hini hi1) (by rw [q2]; exact h6) q1 q3 (by rw [hsl]; exact k2_hasslot (q4 y hy)) rfl rfl hd fun H' e1 e2 e3 => ?_
      rw [hsl] at e1
      exact kk H' _ (xm_rep_up hr hlo ⟨_, hcx, t_OB.to (V := updV (vp_V fs) y u) ⟨_, e1, q2, q3, t_set q4 hap hy u⟩ (fun j _ => vp_updV_set hl u j)⟩ e2 e3)
theorem xm_newa (C : xm_C p l R s m args meth c cc mc ms D cl ac own TB ini fty rt H0 sv) {H : Heap} {locs : List Loc} {cells slots rc rs : Nat} {Q : State → Prop} {ls : Array Slot} {rest : List Value} {h : xm_H} {pc : Nat} {t : ArrayType} {j : Int32} {x : va_E} (hr : xm_rep D cl H0 h H)
    (hd : decode cc pc = .ok (.newarray t, 2)) (hw : Cond.arrayClass (newarray.typeOf t) ∈ TB) (hj : ¬ j < 0) (hb8 : j.toNatClampNeg * 8 ≤ 536870912) (hc : cells + rc = mc) (hs : slots + rs = ms) (h1 : 1 ≤ rc) (h2 : j.toNatClampNeg ≤ rs) (hn : xm_new ac j.toNatClampNeg t = some x)
    (kk : ∀ H1 : Heap, xm_rep D cl H0 (xm_nw h x) H1 → W p l e R s m args below meth c H1 locs (cells + 1) (slots + j.toNatClampNeg) Q (F0 m (pc + 2) ls (.ref h.2 :: rest))) : W p l e R s m args below meth c H locs cells slots Q (F0 m pc ls (.int j :: rest)) := by
  obtain ⟨hx, hb, hown, hts, hK, hlocks, hrt, hini, hRc, hRs, -, -, hcl⟩ := C
  have hby : j.toNatClampNeg * componentBytes (newarray.typeOf t) ≤ 536870912 := by
    refine Nat.le_trans (Nat.mul_le_mul_left _ ?_) hb8
    cases t <;> decide
  refine va_newaK hx hb (hts _ hw) rfl hd rfl hj rfl hby (by omega) (by omega) hr.1 fun H1 cA e1 z1 o1 hAr hNm => kk H1 ?_
  have hz : H1.size = H.size + 1 := by rw [z1, hr.1]
  have ho : ∀ q : Nat, q < H.size → H1[q]? = H[q]? := fun q hq => o1 q (by rw [← hr.1]; exact hq)
  cases t with
  | int =>
    cases hn
    have hA : cA = ac 0 := Option.some.inj (hNm.symm.trans (hK.2 0 _ rfl).2)
    subst hA
    exact xm_rep_nw hr e1 hz ho
  | long =>
    cases hn
    have hA : cA = ac 1 := Option.some.inj (hNm.symm.trans (hK.2 1 _ rfl).2)
    subst hA
    exact xm_rep_nw hr e1 hz ho
  | boolean =>
    cases hn
    have hA : cA = ac 2 := Option.some.inj (hNm.symm.trans (hK.2 2 _ rfl).2)
    subst hA
    exact xm_rep_nw hr e1 hz ho
  | byte =>
    cases hn
    have hA : cA = ac 3 := Option.some.inj (hNm.symm.trans (hK.2 3 _ rfl).2)
    subst hA
    exact xm_rep_nw hr e1 hz ho
  | char =>
    cases hn
    have hA : cA = ac 4 := Option.some.inj (hNm.symm.trans (hK.2 4 _ rfl).2)
    subst hA
    exact xm_rep_nw hr e1 hz ho
  | _ => cases hn
set_option maxHeartbeats 4000000 in
set_option maxRecDepth 100000 in
theorem xm_step (C : xm_C p l R s m args meth c cc mc ms D cl ac own TB ini fty rt H0 sv) {pc : Nat} (hok : ∀ q, tb pc = some q → xm_ok own cc TB cl ini pc q) {L : xm_L} {st : List Value} {h : xm_H} {rc rs : Nat}
    (hF : xm_F ac H0.size fty tb rt post (xm_W p l e R s m args below meth c nL D cl H0 mc ms post) pc L st h rc rs) : xm_W p l e R s m args below meth c nL D cl H0 mc ms post pc L st h rc rs := by
  intro ls H locs cells slots hl hr hlocs hc hs
  obtain ⟨hx, hb, hown, hts, hK, hlocks, hrt, hini, hRc, hRs, -, -, hcl⟩ := id C
  unfold xm_F at hF
  cases hq : tb pc with
  | none => rw [hq] at hF; exact hF.elim
  | some q =>
    have hk := hok q hq
    obtain ⟨i, x, y, w, v, ts⟩ := q
    rw [hq] at hF
    cases i with
    | iconst n => exact lv_iconst hx hb hk.1 hk.2 (hF ls H locs cells slots hl hr hlocs hc hs)
    | bipush n => exact lv_bipush hx hb hk.1 hk.2 (hF ls H locs cells slots hl hr hlocs hc hs)
    | sipush n => exact lv_sipush hx hb hk.1 hk.2 (hF ls H locs cells slots hl hr hlocs hc hs)
    | ldc n => exact lv_ldc hx hb hown (hts _ hk.2) hk.1 (hF ls H locs cells slots hl hr hlocs hc hs)
    | ldc_w n => exact lv_ldcw hx hb hown (hts _ hk.2) hk.1 (hF ls H locs cells slots hl hr hlocs hc hs)
    | lconst n => exact lv_lconst hx hb hk.1 hk.2 (hF ls H locs cells slots hl hr hlocs hc hs)
    | ldc2_w n => exact lv_ldc2 hx hb hown (hts _ hk.2) hk.1 (hF ls H locs cells slots hl hr hlocs hc hs)
    | aconst_null => exact lv_null hx hb hk (hF ls H locs cells slots hl hr hlocs hc hs)
    | iload_n n => obtain ⟨a, ha, hF⟩ := xm_Li_e hF; exact lv_iload_n hx hb hk.1 hk.2 (hl.2.2.2 _ _ ha) (hF ls H locs cells slots hl hr hlocs hc hs)
    | lload_n n => obtain ⟨a, ha, hF⟩ := xm_Ll_e hF; exact lv_lload_n hx hb hk.1 hk.2 (hl.2.2.2 _ _ ha) (hF ls H locs cells slots hl hr hlocs hc hs)
    | iload n => obtain ⟨a, ha, hF⟩ := xm_Li_e hF; exact lv_iload hx hb hk.1 (hl.2.2.2 _ _ ha) (hF ls H locs cells slots hl hr hlocs hc hs)
    | lload n => obtain ⟨a, ha, hF⟩ := xm_Ll_e hF; exact lv_lload hx hb hk.1 (hl.2.2.2 _ _ ha) (hF ls H locs cells slots hl hr hlocs hc hs)
    | aload_n n => 
      rcases xm_La_e hF with ⟨a, ha, hF⟩ | ⟨ha, hF⟩
      · exact lv_aload_n hx hb hk.1 hk.2 (hl.2.2.2 _ _ ha) (hF ls H locs cells slots hl hr hlocs hc hs)
      · exact lv_aload_nN hx hb hk.1 hk.2 (hl.2.2.2 _ _ ha) (hF ls H locs cells slots hl hr hlocs hc hs)
    | aload n => 
      rcases xm_La_e hF with ⟨a, ha, hF⟩ | ⟨ha, hF⟩
      · exact lv_aload hx hb hk.1 (hl.2.2.2 _ _ ha) (hF ls H locs cells slots hl hr hlocs hc hs)
      · exact lv_aloadN hx hb hk.1 (hl.2.2.2 _ _ ha) (hF ls H locs cells slots hl hr hlocs hc hs)
    | istore_n n => obtain ⟨a, r, rfl, hlt, hF⟩ := xm_i_e hF; exact lv_istore_n hx hb hk.1 hk.2 (xm_lo_has hl) (hl.1 ▸ hlt) rfl (fun ls' hl' => hF ls' H locs cells slots (xm_lo_s1 hl.1 hl') hr hlocs hc hs)
    | istore n => obtain ⟨a, r, rfl, hlt, hF⟩ := xm_i_e hF; exact lv_istore hx hb hk.1 (xm_lo_has hl) (hl.1 ▸ hlt) rfl (fun ls' hl' => hF ls' H locs cells slots (xm_lo_s1 hl.1 hl') hr hlocs hc hs)
    | lstore_n n => obtain ⟨a, r, rfl, hlt, hF⟩ := xm_l_e hF; exact lv_lstore_n hx hb hk.1 hk.2 (xm_lo_has hl) (hl.1 ▸ hlt) rfl (fun ls' hl' => hF ls' H locs cells slots (xm_lo_s2 hl.1 hl') hr hlocs hc hs)
    | lstore n => obtain ⟨a, r, rfl, hlt, hF⟩ := xm_l_e hF; exact lv_lstore hx hb hk.1 (xm_lo_has hl) (hl.1 ▸ hlt) rfl (fun ls' hl' => hF ls' H locs cells slots (xm_lo_s2 hl.1 hl') hr hlocs hc hs)
    | astore_n n => obtain ⟨a, r, rfl, hlt, hF⟩ := xm_a_e hF; exact lv_astore_n hx hb hk.1 hk.2 (xm_lo_has hl) (hl.1 ▸ hlt) rfl (fun ls' hl' => hF ls' H locs cells slots (xm_lo_s1 hl.1 hl') hr hlocs hc hs)
    | astore n => obtain ⟨a, r, rfl, hlt, hF⟩ := xm_a_e hF; exact lv_astore hx hb hk.1 (xm_lo_has hl) (hl.1 ▸ hlt) rfl (fun ls' hl' => hF ls' H locs cells slots (xm_lo_s1 hl.1 hl') hr hlocs hc hs)
    | iinc n o => 
      obtain ⟨a, ha, hlt, hF⟩ := xm_Li_e hF
      have hm : (x, Value.int a) ∈ xm_lv 0 L := (xm_lv_mem L 0 x _).mpr ⟨Nat.zero_le x, ha⟩
      obtain ⟨k, hk9⟩ := List.getElem?_of_mem hm
      exact lv_iinc hx hb hk.1 (xm_lo_has hl) hk9 (by rw [hk.2]) (hl.1 ▸ hlt) rfl (fun ls' hl' => hF ls' H locs cells slots (xm_lo_s1 hl.1 hl') hr hlocs hc hs)
    | iadd => obtain ⟨a, b, r, rfl, hF⟩ := xm_ii_e hF; exact lv_iadd hx hb hk (hF ls H locs cells slots hl hr hlocs hc hs)
    | isub => obtain ⟨a, b, r, rfl, hF⟩ := xm_ii_e hF; exact lv_isub hx hb hk (hF ls H locs cells slots hl hr hlocs hc hs)
    | imul => obtain ⟨a, b, r, rfl, hF⟩ := xm_ii_e hF; exact lv_imul hx hb hk (hF ls H locs cells slots hl hr hlocs hc hs)
    | iand => obtain ⟨a, b, r, rfl, hF⟩ := xm_ii_e hF; exact lv_iand hx hb hk (hF ls H locs cells slots hl hr hlocs hc hs)
    | ior => obtain ⟨a, b, r, rfl, hF⟩ := xm_ii_e hF; exact lv_ior hx hb hk (hF ls H locs cells slots hl hr hlocs hc hs)
    | ixor => obtain ⟨a, b, r, rfl, hF⟩ := xm_ii_e hF; exact lv_ixor hx hb hk (hF ls H locs cells slots hl hr hlocs hc hs)
    | ishl => obtain ⟨a, b, r, rfl, hF⟩ := xm_ii_e hF; exact lv_ishl hx hb hk (hF ls H locs cells slots hl hr hlocs hc hs)
    | ishr => obtain ⟨a, b, r, rfl, hF⟩ := xm_ii_e hF; exact lv_ishr hx hb hk (hF ls H locs cells slots hl hr hlocs hc hs)
    | idiv => obtain ⟨a, b, r, rfl, h0, hF⟩ := xm_ii_e hF; exact lv_idiv hx hb hk h0 (hF ls H locs cells slots hl hr hlocs hc hs)
    | irem => obtain ⟨a, b, r, rfl, h0, hF⟩ := xm_ii_e hF; exact lv_irem hx hb hk h0 (hF ls H locs cells slots hl hr hlocs hc hs)
    | ineg => obtain ⟨a, r, rfl, hF⟩ := xm_i_e hF; exact lv_ineg hx hb hk (hF ls H locs cells slots hl hr hlocs hc hs)
    | iushr => obtain ⟨a, b, r, rfl, hF⟩ := xm_ii_e hF; exact lv_iushr hx hb hk rfl (hF ls H locs cells slots hl hr hlocs hc hs)
    | ladd => obtain ⟨a, b, r, rfl, hF⟩ := xm_ll_e hF; exact lv_ladd hx hb hk (hF ls H locs cells slots hl hr hlocs hc hs)
    | lsub => obtain ⟨a, b, r, rfl, hF⟩ := xm_ll_e hF; exact lv_lsub hx hb hk (hF ls H locs cells slots hl hr hlocs hc hs)
    | lmul => obtain ⟨a, b, r, rfl, hF⟩ := xm_ll_e hF; exact lv_lmul hx hb hk (hF ls H locs cells slots hl hr hlocs hc hs)
    | land => obtain ⟨a, b, r, rfl, hF⟩ := xm_ll_e hF; exact lv_land hx hb hk (hF ls H locs cells slots hl hr hlocs hc hs)
    | lor => obtain ⟨a, b, r, rfl, hF⟩ := xm_ll_e hF; exact lv_lor hx hb hk (hF ls H locs cells slots hl hr hlocs hc hs)
    | lxor => obtain ⟨a, b, r, rfl, hF⟩ := xm_ll_e hF; exact lv_lxor hx hb hk (hF ls H locs cells slots hl hr hlocs hc hs)
    | ldiv => obtain ⟨a, b, r, rfl, h0, hF⟩ := xm_ll_e hF; exact lv_ldiv hx hb hk h0 (hF ls H locs cells slots hl hr hlocs hc hs)
    | lrem => obtain ⟨a, b, r, rfl, h0, hF⟩ := xm_ll_e hF; exact lv_lrem hx hb hk h0 (hF ls H locs cells slots hl hr hlocs hc hs)
    | lneg => obtain ⟨a, r, rfl, hF⟩ := xm_l_e hF; exact lv_lneg hx hb hk (hF ls H locs cells slots hl hr hlocs hc hs)
    | lshl => obtain ⟨a, b, r, rfl, hF⟩ := xm_li_e hF; exact lv_lshl hx hb hk rfl (hF ls H locs cells slots hl hr hlocs hc hs)
    | lshr => obtain ⟨a, b, r, rfl, hF⟩ := xm_li_e hF; exact lv_lshr hx hb hk rfl (hF ls H locs cells slots hl hr hlocs hc hs)
    | lushr => obtain ⟨a, b, r, rfl, hF⟩ := xm_li_e hF; exact lv_lushr hx hb hk rfl (hF ls H locs cells slots hl hr hlocs hc hs)
    | i2l => obtain ⟨a, r, rfl, hF⟩ := xm_i_e hF; exact lv_i2l hx hb hk rfl (hF ls H locs cells slots hl hr hlocs hc hs)
    | l2i => obtain ⟨a, r, rfl, hF⟩ := xm_l_e hF; exact lv_l2i hx hb hk rfl (hF ls H locs cells slots hl hr hlocs hc hs)
    | i2b => obtain ⟨a, r, rfl, hF⟩ := xm_i_e hF; exact lv_i2b hx hb hk rfl (hF ls H locs cells slots hl hr hlocs hc hs)
    | i2c => obtain ⟨a, r, rfl, hF⟩ := xm_i_e hF; exact lv_i2c hx hb hk rfl (hF ls H locs cells slots hl hr hlocs hc hs)
    | dup => 
      cases st with
      | nil => exact hF.elim
      | cons u r => exact lv_dup hx hb hk hF.1 (hF.2 ls H locs cells slots hl hr hlocs hc hs)
    | pop => 
      cases st with
      | nil => exact hF.elim
      | cons u r => exact lv_pop hx hb hk hF.1 (hF.2 ls H locs cells slots hl hr hlocs hc hs)
    | dup_x1 => 
      cases st with
      | nil => exact hF.elim
      | cons u r =>
        cases r with
        | nil => exact hF.elim
        | cons t r => exact lv_dup_x1 hx hb hk hF.1 hF.2.1 (hF.2.2 ls H locs cells slots hl hr hlocs hc hs)
    | dup2 => 
      cases st with
      | nil => exact hF.elim
      | cons u r =>
        cases r with
        | nil => exact hF.elim
        | cons t r => exact lv_dup2_11 hx hb hk hF.1 hF.2.1 (hF.2.2 ls H locs cells slots hl hr hlocs hc hs)
    | goto o => exact lv_goto hx hb hk.1 hk.2 (hF ls H locs cells slots hl hr hlocs hc hs)
    | ifCond t o => 
      cases t with
      | eq => obtain ⟨a, r, rfl, hF⟩ := xm_i_e hF; exact lv_if_eq hx hb hk.1 hk.2 (fun q => hF.1 q ls H locs cells slots hl hr hlocs hc hs) (fun q => hF.2 q ls H locs cells slots hl hr hlocs hc hs)
      | ne => obtain ⟨a, r, rfl, hF⟩ := xm_i_e hF; exact lv_if_ne hx hb hk.1 hk.2 (fun q => hF.1 q ls H locs cells slots hl hr hlocs hc hs) (fun q => hF.2 (fun z => z q) ls H locs cells slots hl hr hlocs hc hs)
      | lt => obtain ⟨a, r, rfl, hF⟩ := xm_i_e hF; exact lv_if_lt hx hb hk.1 hk.2 (fun q => hF.1 q ls H locs cells slots hl hr hlocs hc hs) (fun q => hF.2 q ls H locs cells slots hl hr hlocs hc hs)
      | ge => obtain ⟨a, r, rfl, hF⟩ := xm_i_e hF; exact lv_if_ge hx hb hk.1 hk.2 (fun q => hF.1 q ls H locs cells slots hl hr hlocs hc hs) (fun q => hF.2 q ls H locs cells slots hl hr hlocs hc hs)
      | gt => obtain ⟨a, r, rfl, hF⟩ := xm_i_e hF; exact lv_if_gt hx hb hk.1 hk.2 (fun q => hF.1 q ls H locs cells slots hl hr hlocs hc hs) (fun q => hF.2 q ls H locs cells slots hl hr hlocs hc hs)
      | le => obtain ⟨a, r, rfl, hF⟩ := xm_i_e hF; exact lv_if_le hx hb hk.1 hk.2 (fun q => hF.1 q ls H locs cells slots hl hr hlocs hc hs) (fun q => hF.2 q ls H locs cells slots hl hr hlocs hc hs)
    | if_icmp t o => 
      cases t with
      | eq => obtain ⟨a, b, r, rfl, hF⟩ := xm_ii_e hF; exact lv_icmp_eq hx hb hk.1 hk.2 (fun q => hF.1 q ls H locs cells slots hl hr hlocs hc hs) (fun q => hF.2 q ls H locs cells slots hl hr hlocs hc hs)
      | ne => obtain ⟨a, b, r, rfl, hF⟩ := xm_ii_e hF; exact lv_icmp_ne hx hb hk.1 hk.2 (fun q => hF.1 q ls H locs cells slots hl hr hlocs hc hs) (fun q => hF.2 (fun z => z q) ls H locs cells slots hl hr hlocs hc hs)
      | lt => obtain ⟨a, b, r, rfl, hF⟩ := xm_ii_e hF; exact lv_icmp_lt hx hb hk.1 hk.2 (fun q => hF.1 q ls H locs cells slots hl hr hlocs hc hs) (fun q => hF.2 q ls H locs cells slots hl hr hlocs hc hs)
      | ge => obtain ⟨a, b, r, rfl, hF⟩ := xm_ii_e hF; exact lv_icmp_ge hx hb hk.1 hk.2 (fun q => hF.1 q ls H locs cells slots hl hr hlocs hc hs) (fun q => hF.2 q ls H locs cells slots hl hr hlocs hc hs)
      | gt => obtain ⟨a, b, r, rfl, hF⟩ := xm_ii_e hF; exact lv_icmp_gt hx hb hk.1 hk.2 (fun q => hF.1 q ls H locs cells slots hl hr hlocs hc hs) (fun q => hF.2 q ls H locs cells slots hl hr hlocs hc hs)
      | le => obtain ⟨a, b, r, rfl, hF⟩ := xm_ii_e hF; exact lv_icmp_le hx hb hk.1 hk.2 (fun q => hF.1 q ls H locs cells slots hl hr hlocs hc hs) (fun q => hF.2 q ls H locs cells slots hl hr hlocs hc hs)
    | lcmp => obtain ⟨a, b, r, rfl, hF⟩ := xm_ll_e hF; exact W.lcmp hx hb hk (hF ls H locs cells slots hl hr hlocs hc hs)
    | tableswitch d a b os => 
      obtain ⟨g, r, rfl, hF⟩ := xm_i_e hF
      obtain ⟨hd, hdx, hbs, harm⟩ := hk
      obtain ⟨g1, g2⟩ := xm_arms_at harm
      rcases xm_sw_e hF with ⟨j, q, hj, hq, hF⟩ | ⟨hne, hF⟩
      · obtain ⟨e1, o, e2, e3⟩ := g2 j q hj
        have hjl : j < ts.length := (List.getElem?_eq_some_iff.mp hj).1
        have hsz : os.size = ts.length := by rw [← Array.length_toList]; exact g1
        have hgi : g.toInt = a + j := by rw [hq]; exact e1
        refine lv_tableIn hx hb hd (by omega) (by omega) (off := o) ?_ e3 (hF ls H locs cells slots hl hr hlocs hc hs)
        rw [show (g.toInt - a).toNat = j by omega, ← Array.getElem?_toList]
        exact e2
      · refine lv_tableOut hx hb hd ?_ hdx (hF ls H locs cells slots hl hr hlocs hc hs)
        have hsz : os.size = ts.length := by rw [← Array.length_toList]; exact g1
        by_cases hlo : g.toInt < a
        · exact Or.inl hlo
        · by_cases hhi : b < g.toInt
          · exact Or.inr hhi
          · exfalso
            have hlt : (g.toInt - a).toNat < ts.length := by omega
            have hq := List.getElem?_eq_getElem hlt
            obtain ⟨e1, -⟩ := g2 _ _ hq
            exact hne _ (List.mem_of_getElem? hq) (Int32.toInt_inj.mp (by rw [e1]; omega))
    | lookupswitch d ps => 
      obtain ⟨g, r, rfl, hF⟩ := xm_i_e hF
      obtain ⟨hd, hdx, hsrt, harm⟩ := hk
      obtain ⟨off, tgt, e1, e2, hF⟩ := xm_arml_at hdx harm hF
      exact lv_lookup hx hb hd hsrt e1 e2 (hF ls H locs cells slots hl hr hlocs hc hs)
    | ifnull o => 
      rcases xm_n_e hF with ⟨a, r, rfl, hF⟩ | ⟨r, rfl, hF⟩
      · exact lv_ifnull hx hb hk.1 (hF ls H locs cells slots hl hr hlocs hc hs)
      · exact lv_ifnullN hx hb hk.1 hk.2 (hF ls H locs cells slots hl hr hlocs hc hs)
    | ifnonnull o => 
      rcases xm_n_e hF with ⟨a, r, rfl, hF⟩ | ⟨r, rfl, hF⟩
      · exact lv_ifnonnull hx hb hk.1 hk.2 (hF ls H locs cells slots hl hr hlocs hc hs)
      · exact lv_ifnonnullN hx hb hk.1 (hF ls H locs cells slots hl hr hlocs hc hs)
    | getfield k => 
      obtain ⟨a, r, rfl, hF⟩ := xm_a_e hF
      obtain ⟨fs, ha, hF⟩ := xm_O_e hF
      obtain ⟨hd, hk⟩ := hk
      cases hcx : cl[x]? with
      | none => rw [hcx] at hk; exact hk.elim
      | some q =>
        obtain ⟨C9, T, N⟩ := q
        rw [hcx] at hk
        cases hv : fs[y]? with
        | none => rw [hv] at hF; exact hF.elim
        | some u =>
          rw [hv] at hF
          exact va_get hx hb hts (hcl x _ hcx).1 hown hK (xm_one_P hr ha) 0 rfl hcx y hk.1 (hts _ hk.2) (fun _ q => q) hv hd (hF ls H locs cells slots hl hr hlocs hc hs)
    | putfield k => 
      obtain ⟨a, u, r, rfl, hF⟩ := xm_av_e hF
      obtain ⟨fs, ha, h1, h2, h3, hF⟩ := xm_O_e hF
      exact xm_put C hr ha hk h2 h1 h3 (fun H1 j hr1 => hF ls H1 _ cells slots hl hr1 (xm_locs hlocs h1) hc hs)
    | iaload => 
      obtain ⟨a, j, r, rfl, hF⟩ := xm_ai_e hF
      obtain ⟨n, f, ha, hin, hF⟩ := xm_Ai_e hF
      exact va_iald hx hb hK (xm_one_P hr ha) 0 0 rfl rfl hin hk (hF ls H locs cells slots hl hr hlocs hc hs)
    | laload => 
      obtain ⟨a, j, r, rfl, hF⟩ := xm_ai_e hF
      obtain ⟨n, f, ha, hin, hF⟩ := xm_Al_e hF
      exact va_lald hx hb hK (xm_one_P hr ha) 0 1 rfl rfl hin hk (hF ls H locs cells slots hl hr hlocs hc hs)
    | caload => 
      obtain ⟨a, j, r, rfl, hF⟩ := xm_ai_e hF
      obtain ⟨n, f, ha, hin, hF⟩ := xm_Ai_e hF
      exact va_cald hx hb hK (xm_one_P hr ha) 0 4 rfl rfl hin hk (hF ls H locs cells slots hl hr hlocs hc hs)
    | baload => 
      rcases hk with ⟨hd, rfl | rfl⟩
      · obtain ⟨a, j, r, rfl, hF⟩ := xm_ai_e hF
        obtain ⟨n, f, ha, hin, hF⟩ := xm_Ai_e hF
        exact va_zald hx hb hK (xm_one_P hr ha) 0 2 rfl rfl hin hd (hF ls H locs cells slots hl hr hlocs hc hs)
      · obtain ⟨a, j, r, rfl, hF⟩ := xm_ai_e hF
        obtain ⟨n, f, ha, hin, hF⟩ := xm_Ai_e hF
        exact va_bald hx hb hK (xm_one_P hr ha) 0 3 rfl rfl hin hd (hF ls H locs cells slots hl hr hlocs hc hs)
    | aaload => 
      obtain ⟨a, j, r, rfl, hF⟩ := xm_ai_e hF
      obtain ⟨n, f, ha, hin, hF⟩ := xm_Aq_e hF
      have hlt : j.toNatClampNeg < n := Nat.not_le.mp fun q => hin (Or.inr q)
      exact W.aald (v := va_rf (f j.toNatClampNeg)) (ty := .array .int) hx hb (hr.2.1 a _ ha) ((hK.2 5 _ rfl).1 n (fun j => va_rf (f j))) rfl (fun q => by cases q) (by show ¬ (j < 0 ∨ (arrV _ _ _).slots.size ≤ _); rw [arrV_size]; exact hin) (by show (arrV _ _ _).slots[_]? = _; rw [arrV_read _ _ hlt]) rfl rfl hk (hF ls H locs cells slots hl hr hlocs hc hs)
    | iastore => 
      obtain ⟨a, j, u, r, rfl, hF⟩ := xm_aii_e hF
      obtain ⟨n, f, ha, hin, hlo, hF⟩ := xm_Ai_e hF
      refine W.iast hx hb (hr.2.1 a _ ha) ((hK.2 0 _ rfl).1 n (fun j => .int (f j))) (fun q => by cases q) (by show ¬ (j < 0 ∨ (arrV _ _ _).slots.size ≤ _); rw [arrV_size]; exact hin) rfl rfl hk fun H1 e1 z oq => ?_
      exact hF ls H1 _ cells slots hl (xm_rep_up hr hlo (xm_at_i e1) z oq) (xm_locs hlocs hlo) hc hs
    | lastore => 
      obtain ⟨a, j, u, r, rfl, hF⟩ := xm_ail_e hF
      obtain ⟨n, f, ha, hin, hlo, hF⟩ := xm_Al_e hF
      refine W.last hx hb (hr.2.1 a _ ha) ((hK.2 1 _ rfl).1 n (fun j => .long (f j))) (fun q => by cases q) (by show ¬ (j < 0 ∨ (arrV _ _ _).slots.size ≤ _); rw [arrV_size]; exact hin) rfl rfl hk fun H1 e1 z oq => ?_
      exact hF ls H1 _ cells slots hl (xm_rep_up hr hlo (xm_at_l e1) z oq) (xm_locs hlocs hlo) hc hs
    | castore => 
      obtain ⟨a, j, u, r, rfl, hF⟩ := xm_aii_e hF
      obtain ⟨n, f, ha, hin, hlo, hF⟩ := xm_Ai_e hF
      refine W.cast hx hb (hr.2.1 a _ ha) ((hK.2 4 _ rfl).1 n (fun j => .int (f j))) (fun q => by cases q) (by show ¬ (j < 0 ∨ (arrV _ _ _).slots.size ≤ _); rw [arrV_size]; exact hin) rfl rfl hk fun H1 e1 z oq => ?_
      rw [xm_nar _ (by simp)] at e1
      exact hF ls H1 _ cells slots hl (xm_rep_up hr hlo (xm_at_i e1) z oq) (xm_locs hlocs hlo) hc hs
    | bastore => 
      rcases hk with ⟨hd, rfl | rfl⟩
      · obtain ⟨a, j, u, r, rfl, hF⟩ := xm_aii_e hF
        obtain ⟨n, f, ha, hin, hlo, hF⟩ := xm_Ai_e hF
        refine W.zast hx hb (hr.2.1 a _ ha) ((hK.2 2 _ rfl).1 n (fun j => .int (f j))) (fun q => by cases q) (by show ¬ (j < 0 ∨ (arrV _ _ _).slots.size ≤ _); rw [arrV_size]; exact hin) rfl rfl hd fun H1 e1 z oq => ?_
        rw [xm_nar _ (by simp)] at e1
        exact hF ls H1 _ cells slots hl (xm_rep_up hr hlo (xm_at_i e1) z oq) (xm_locs hlocs hlo) hc hs
      · obtain ⟨a, j, u, r, rfl, hF⟩ := xm_aii_e hF
        obtain ⟨n, f, ha, hin, hlo, hF⟩ := xm_Ai_e hF
        refine W.bast hx hb (hr.2.1 a _ ha) ((hK.2 3 _ rfl).1 n (fun j => .int (f j))) (fun q => by cases q) (by show ¬ (j < 0 ∨ (arrV _ _ _).slots.size ≤ _); rw [arrV_size]; exact hin) rfl rfl hd fun H1 e1 z oq => ?_
        rw [xm_nar _ (by simp)] at e1
        exact hF ls H1 _ cells slots hl (xm_rep_up hr hlo (xm_at_i e1) z oq) (xm_locs hlocs hlo) hc hs
    | arraylength => 
      obtain ⟨a, r, rfl, hF⟩ := xm_a_e hF
      obtain ⟨c9, n, f, ha, hcs, hF⟩ := xm_An_e hF
      rcases hcs with rfl | rfl | rfl | rfl | rfl | rfl
      · exact va_alen hx hb hK (xm_one_P hr ha) 0 0 rfl rfl rfl hk (hF ls H locs cells slots hl hr hlocs hc hs)
      · exact va_alen hx hb hK (xm_one_P hr ha) 0 1 rfl rfl rfl hk (hF ls H locs cells slots hl hr hlocs hc hs)
      · exact va_alen hx hb hK (xm_one_P hr ha) 0 2 rfl rfl rfl hk (hF ls H locs cells slots hl hr hlocs hc hs)
      · exact va_alen hx hb hK (xm_one_P hr ha) 0 3 rfl rfl rfl hk (hF ls H locs cells slots hl hr hlocs hc hs)
      · exact va_alen hx hb hK (xm_one_P hr ha) 0 4 rfl rfl rfl hk (hF ls H locs cells slots hl hr hlocs hc hs)
      · exact va_alen hx hb hK (xm_one_P hr ha) 0 5 rfl rfl rfl hk (hF ls H locs cells slots hl hr hlocs hc hs)
    | newarray t => 
      obtain ⟨j, r, rfl, h1, h2, h3, h4, hF⟩ := xm_i_e hF
      cases hn : xm_new ac j.toNatClampNeg t with
      | none => rw [hn] at hF; exact hF.elim
      | some x9 =>
        rw [hn] at hF
        exact xm_newa C hr hk.1 hk.2 h1 h2 hc hs h3 h4 hn (fun H1 hr1 => hF ls H1 locs (cells + 1) (slots + j.toNatClampNeg) hl hr1 hlocs (by omega) (by omega))
    | ireturn => 
      obtain ⟨a, rfl, ⟨ty, hty, hn⟩, hp⟩ := xm_ri_e hF
      refine W.widen (k := mc) (n := ms) (by omega) (by omega) (vx_ret ?_)
      exact W.zret hx hb (hrt.trans hty) hn (fun t ht _ => ⟨_, h, rfl, hp, by rw [ht]; exact hr⟩) hlocs hk hlocks
    | lreturn => 
      obtain ⟨a, rfl, hty, hp⟩ := xm_rl_e hF
      refine W.widen (k := mc) (n := ms) (by omega) (by omega) (vx_ret ?_)
      exact W.lret hx hb (hrt.trans hty) (fun t ht _ => ⟨_, h, rfl, hp, by rw [ht]; exact hr⟩) hlocs hk hlocks
    | return_ => 
      obtain ⟨rfl, hty, hp⟩ := xm_rv_e hF
      refine W.widen (k := mc) (n := ms) (by omega) (by omega) (vx_ret ?_)
      exact W.vret hx hb (hrt.trans hty) (fun t ht _ => ⟨_, h, rfl, hp, by rw [ht]; exact hr⟩) hlocs hk hlocks
    | _ => exact hF.elim
end XMS
