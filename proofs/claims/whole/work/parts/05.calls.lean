/-! THE ENGINE: calls, and methods by their depth -/
def xm_en : List Value → xm_L
  | [] => []
  | v :: vs => if v.category = 2 then some v :: none :: xm_en vs else some v :: xm_en vs
theorem xm_en_args : ∀ (vs : List Value) (i j : Nat) (v : Value), (xm_en vs)[j]? = some (some v) → (i + j, v) ∈ lv_args i vs
  | [], i, j, v, h => by simp [xm_en] at h
  | u :: vs, i, j, v, h => by
    simp only [xm_en] at h
    simp only [lv_args]
    by_cases hu : u.category = 2
    · rw [if_pos hu] at h
      rw [if_pos hu]
      match j, h with
      | 0, h => simp at h; subst h; exact List.mem_cons_self
      | 1, h => simp at h
      | j + 2, h =>
        have := xm_en_args vs (i + 2) j v (by simpa using h)
        rw [show i + (j + 2) = i + 2 + j by omega]
        exact List.mem_cons_of_mem _ this
    · rw [if_neg hu] at h
      rw [if_neg hu]
      match j, h with
      | 0, h => simp at h; subst h; exact List.mem_cons_self
      | j + 1, h =>
        have := xm_en_args vs (i + 1) j v (by simpa using h)
        rw [show i + (j + 1) = i + 1 + j by omega]
        exact List.mem_cons_of_mem _ this
/-- the locals at a method's start -/
def xm_st (nL : Nat) (vs : List Value) : xm_L := xm_en vs ++ List.replicate (nL - (xm_en vs).length) none
theorem xm_st_lo {nL : Nat} {vs : List Value} (hn : (xm_en vs).length ≤ nL) (hn2 : (lg_sl vs).length ≤ nL) : xm_lo ((lg_sl vs ++ List.replicate (nL - (lg_sl vs).length) Slot.unset).toArray) nL (xm_st nL vs) := by
  have h := lv_entry vs hn2
  refine ⟨by simp [xm_st]; omega, h.1, h.2.1, fun i v hi => ?_⟩
  unfold xm_st at hi
  by_cases hl : i < (xm_en vs).length
  · rw [List.getElem?_append_left hl] at hi
    have := xm_en_args vs 0 i v hi
    rw [Nat.zero_add] at this
    exact h.2.2 _ this
  · rw [List.getElem?_append_right (by omega)] at hi
    by_cases h9 : i - (xm_en vs).length < nL - (xm_en vs).length
    · rw [List.getElem?_replicate, if_pos h9] at hi; cases hi
    · rw [List.getElem?_eq_none (by simp; omega)] at hi; cases hi
/-- names, codes, places, return types, tables, whether a constructor, the number of its class, its handlers (from, to, where, entry, class) -/
abbrev xm_P : Type := (Nat → MethodName) × (Nat → ByteArray) × (Nat → Nat) × (Nat → Option FieldType) × (Nat → Nat → Option xm_I) × (Nat → Bool) × (Nat → Nat) × (Nat → List (Nat × Nat × Nat × Nat × String))
/-- the handler of a throw at pc of class E -/
def xm_hd (pc : Nat) (E : String) : List (Nat × Nat × Nat × Nat × String) → Option Nat
  | [] => none
  | (a, b, t, _, nm) :: r => if a ≤ pc ∧ pc < b ∧ nm = E then some t else xm_hd pc E r
def xm_call (cs : xm_S) (x : Nat) (as r : List Value) (h : xm_H) (rc rs : Nat) (K : List Value → xm_H → Nat → Nat → Prop) (KX : String → xm_H → Nat → Nat → Prop) : Prop :=
  (r.map fun v => v.category).sum ≤ 8 ∧ ∃ (mc ms : Nat) (q : xm_Q), mc ≤ rc ∧ ms ≤ rs ∧ cs x as h mc ms q ∧ (∀ v h', q (.inl v) h' → K (v.toList ++ r) h' (rc - mc) (rs - ms)) ∧ ∀ E h', q (.inr E) h' → KX E h' (rc - mc) (rs - ms)
/-- a receiver below y arguments -/
def xm_rcv (st : List Value) (y : Nat) (K : Nat → List Value → List Value → Prop) : Prop := match st.drop y with
  | .ref b :: r => K b (st.take y).reverse r
  | _ => False
/-- what arraycopy takes -/
def xm_cp (st : List Value) (k : Nat → Int32 → Nat → Int32 → Int32 → List Value → Prop) : Prop := match st with
  | .int n :: .int dp :: .ref da :: .int sp :: .ref sa :: r => k sa sp da dp n r
  | _ => False
theorem xm_cp_e {st : List Value} {k : Nat → Int32 → Nat → Int32 → Int32 → List Value → Prop} (h : xm_cp st k) : ∃ sa sp da dp n r, st = .int n :: .int dp :: .ref da :: .int sp :: .ref sa :: r ∧ k sa sp da dp n r := by
  unfold xm_cp at h; split at h
  · exact ⟨_, _, _, _, _, _, rfl, h⟩
  · exact h.elim
/-- a reference above an index above an array -/
def xm_aia (st : List Value) (k : Nat → Int32 → Nat → List Value → Prop) : Prop := match st with
  | .ref u :: .int i :: .ref a :: r => k a i u r
  | _ => False
theorem xm_aia_e {st : List Value} {k : Nat → Int32 → Nat → List Value → Prop} (h : xm_aia st k) : ∃ a i u r, st = .ref u :: .int i :: .ref a :: r ∧ k a i u r := by
  unfold xm_aia at h; split at h
  · exact ⟨_, _, _, _, rfl, h⟩
  · exact h.elim
/-- Math.max, Math.min of ints (w = -2, -3), Math.max of longs (w = -4) -/
def xm_ma (w : Int32) (st : List Value) (K : List Value → Prop) : Prop := if w = -2 then xm_ii st fun a b r => (r.map fun v => v.category).sum ≤ 8 ∧ K (.int (if a < b then b else a) :: r) else if w = -3 then xm_ii st fun a b r => (r.map fun v => v.category).sum ≤ 8 ∧ K (.int (if b < a then b else a) :: r) else xm_ll st fun a b r => (r.map fun v => v.category).sum ≤ 8 ∧ K (.long (if b < a then a else b) :: r)
/-- what the tables say of them -/
def xm_mth (own : String) (k : Nat) (w : Int32) (TB : List Cond) : Prop := Cond.initialized "java/lang/Math" ∈ TB ∧
  ((w = -2 ∧ Cond.methodLink own k Lib.Math.max.name ∈ TB ∧ Cond.static Lib.Math.max.name ∈ TB ∧ Cond.code Lib.Math.max.name Lib.Math.max.code 2 (some .int) ∈ TB) ∨
   (w = -3 ∧ Cond.methodLink own k Lib.Math.min.name ∈ TB ∧ Cond.static Lib.Math.min.name ∈ TB ∧ Cond.code Lib.Math.min.name Lib.Math.min.code 2 (some .int) ∈ TB) ∨
   (w = -4 ∧ Cond.methodLink own k Lib.MathLoose.max_long.x ∈ TB ∧ Cond.static Lib.MathLoose.max_long.x ∈ TB ∧ Cond.code Lib.MathLoose.max_long.x Lib.MathLoose.max_long.code 4 (some .long) ∈ TB))
/-- the exceptions that are thrown -/
def xm_ex : Nat → String
  | 0 => "java/lang/IllegalStateException"
  | 1 => "java/lang/IllegalArgumentException"
  | 2 => "java/util/NoSuchElementException"
  | _ => "java/lang/ArithmeticException"
/-- where 'throw new E(text)' stands: its words, its instructions -/
def xm_site (sv : xm_V) (own : String) (cc : ByteArray) (TB : List Cond) (pc k x y : Nat) : Prop :=
  ∃ (text Y : String) (names : List String) (is ic sa ix : Nat) (rx : ByteArray), sv.2.1[y]? = some (own, is, text, sa) ∧ sv.2.2.2.1 = true ∧ Bundle.fit (xm_ex x) = true ∧ Bundle.fit Y = true ∧ (∀ n ∈ names, Bundle.fit n = true) ∧ names.length ≤ 2 ∧ xm_rx rx ix ∧ Cond.classLink own k (xm_ex x) ∈ TB ∧ Cond.initialized (xm_ex x) ∈ TB ∧
    (∀ w ∈ (xm_tx own ic (xm_ex x) ix rx Y names).filter vx_no, w ∈ TB ∨ w ∈ sv.2.2.1) ∧ decode cc pc = .ok (.new k, 3) ∧ decode cc (pc + 3) = .ok (.dup, 1) ∧
    ((decode cc (pc + 4) = .ok (.ldc is, 2) ∧ decode cc (pc + 6) = .ok (.invokespecial ic, 3) ∧ decode cc (pc + 9) = .ok (.athrow, 1)) ∨ (decode cc (pc + 4) = .ok (.ldc_w is, 3) ∧ decode cc (pc + 7) = .ok (.invokespecial ic, 3) ∧ decode cc (pc + 10) = .ok (.athrow, 1)))
/-- where a throw of a callee goes: to a handler, or on -/
def xm_kx (hh : List (Nat × Nat × Nat × Nat × String)) (sv : xm_V) (post : xm_Q) (X : xm_X) (pc : Nat) (L : xm_L) : String → xm_H → Nat → Nat → Prop := fun E h rc rs =>
  match hh with
  | [] => post (.inr E) h
  | z :: r => (∀ e ∈ z :: r, e.2.2.2.2 = E ∨ (E, e.2.2.2.2) ∈ sv.2.2.2.2.1) ∧ match xm_hd pc E (z :: r) with
    | some t => ∀ q : Nat, X t L [.ref q] h rc rs
    | none => post (.inr E) h
def xm_G (ac : Nat → ClassId) (lo : Nat) (fty : Nat → Nat → FieldType) (dfl : Nat → List Value) (mcl : Nat → Nat) (sv : xm_V) (dd : Nat) (hh : List (Nat × Nat × Nat × Nat × String)) (cs : xm_S) (tb : Nat → Option xm_I) (rt : Option FieldType) (post : xm_Q) (X : xm_X) (pc : Nat) (L : xm_L) (st : List Value) (h : xm_H) (rc rs : Nat) : Prop :=
  match tb pc with
  | some (.invokestatic _, x, y, w, _) => if w = -1 then xm_cp st fun sa sp da dp n r => xm_Ai h (ac 0) sa fun n0 f => xm_Ai h (ac 0) da fun n1 g =>
        ¬ sp < 0 ∧ ¬ dp < 0 ∧ ¬ n < 0 ∧ sp.toNatClampNeg + n.toNatClampNeg ≤ n0 ∧ dp.toNatClampNeg + n.toNatClampNeg ≤ n1 ∧ lo ≤ da ∧ (r.map fun v => v.category).sum ≤ 8 ∧ X (pc + 3) L r (xm_up h da (.inl (ac 0, n1, .inl (va_cpy f g sp.toNatClampNeg dp.toNatClampNeg n.toNatClampNeg)))) rc rs
      else if w < -1 then xm_ma w st (fun st' => X (pc + 3) L st' h rc rs)
      else y ≤ st.length ∧ xm_call cs x (st.take y).reverse (st.drop y) h rc rs (fun st' h' rc' rs' => X (pc + 3) L st' h' rc' rs') (xm_kx hh sv post X pc L)
  | some (.invokevirtual _, x, y, w, _) => if w = -1 then (xm_rcv st y fun b as r => (∃ (k : Nat) (q : String × Nat × String × Nat × Nat × List Int32), sv.2.2.2.2.2.2[k]? = some q ∧ q.2.2.2.1 = b) ∧ xm_call cs x (.ref b :: as) r h rc rs (fun st' h' rc' rs' => X (pc + 3) L st' h' rc' rs') (xm_kx hh sv post X pc L)) else xm_rcv st y fun b as r => xm_O h (mcl x) b (fun _ => True) ∧ xm_call cs x (.ref b :: as) r h rc rs (fun st' h' rc' rs' => X (pc + 3) L st' h' rc' rs') (xm_kx hh sv post X pc L)
  | some (.invokespecial _, x, y, w, _) => xm_rcv st y fun b as r => if w = -1 then y = 0 ∧ (r.map fun v => v.category).sum ≤ 8 ∧ X (pc + 3) L r h rc rs else xm_call cs x (.ref b :: as) r h rc rs (fun st' h' rc' rs' => X (pc + 3) L st' h' rc' rs') (xm_kx hh sv post X pc L)
  | some (.getstatic _, x, _) => match sv.1[x]? with
    | some q => X (pc + 3) L (q.2.2.2 :: st) h rc rs
    | none => False
  | some (.new _, x, _, w, _) => if w = -1 then hh = [] ∧ 7 ≤ dd ∧ 1 ≤ rc ∧ 6 ≤ rs ∧ (st.map fun v => v.category).sum ≤ 8 ∧ ∀ z, h.2 ≤ z → post (.inr (xm_ex x)) (h.1, z) else 1 ≤ rc ∧ (dfl x).length ≤ rs ∧ X (pc + 3) L (.ref h.2 :: st) (xm_nw h (.inr (x, dfl x))) (rc - 1) (rs - (dfl x).length)
  | some (.ldc _, x, y, _) => if x = 1 then (match sv.2.2.2.2.2.2[y]? with
    | some q => X (pc + 2) L (.ref q.2.2.2.1 :: st) h rc rs
    | none => False) else xm_F ac lo fty tb rt post X pc L st h rc rs
  | some (.getfield _, x, y, _) => if x = 98 then xm_a st fun a r => ∃ (k : Nat) (q : String × Nat × String × Nat × Nat × List Int32), sv.2.2.2.2.2.2[k]? = some q ∧ q.2.2.2.1 = a ∧ X (pc + 3) L ((if y = 0 then .ref q.2.2.2.2.1 else .int 0) :: r) h rc rs else xm_F ac lo fty tb rt post X pc L st h rc rs
  | some (.baload, x, _) => if x = 4 then xm_ai st fun a j r => ∃ (k : Nat) (q : String × Nat × String × Nat × Nat × List Int32), sv.2.2.2.2.2.2[k]? = some q ∧ q.2.2.2.2.1 = a ∧ vp_in j q.2.2.2.2.2.length ∧ X (pc + 1) L (.int (q.2.2.2.2.2.getD j.toNatClampNeg 0) :: r) h rc rs else xm_F ac lo fty tb rt post X pc L st h rc rs
  | some (.iaload, _, _, w, _) => if w = -1 then xm_ai st fun a j r => ∃ (k n : Nat) (f : Nat → Int32), sv.2.2.2.2.2.1[k]? = some (a, n, f) ∧ vp_in j n ∧ X (pc + 1) L (.int (f j.toNatClampNeg) :: r) h rc rs else xm_F ac lo fty tb rt post X pc L st h rc rs
  | some (.arraylength, _, _, w, _) => if w = -1 then xm_a st fun a r => ∃ (k n : Nat) (f : Nat → Int32), sv.2.2.2.2.2.1[k]? = some (a, n, f) ∧ X (pc + 1) L (.int (Int32.ofNat n) :: r) h rc rs else if w = -2 then xm_a st fun a r => ∃ (k : Nat) (q : String × Nat × String × Nat × Nat × List Int32), sv.2.2.2.2.2.2[k]? = some q ∧ q.2.2.2.2.1 = a ∧ X (pc + 1) L (.int (Int32.ofNat q.2.2.2.2.2.length) :: r) h rc rs else xm_F ac lo fty tb rt post X pc L st h rc rs
  | some (.multianewarray _ _, _) => xm_ii st fun a b r => a = 3 ∧ ¬ b < 0 ∧ b.toNatClampNeg * 8 ≤ 536870912 ∧ 4 ≤ rc ∧ 3 + 3 * b.toNatClampNeg ≤ rs ∧ X (pc + 4) L (.ref h.2 :: r) (xm_n4 ac h b.toNatClampNeg) (rc - 4) (rs - (3 + 3 * b.toNatClampNeg))
  | some (.aastore, _) => xm_aia st fun a j u r => xm_Aq h (ac 5) a fun n f => vp_in j n ∧ lo ≤ a ∧ xm_Ai h (ac 0) u (fun _ _ => True) ∧ X (pc + 1) L r (xm_up h a (.inl (ac 5, n, .inr (.inr (.inr (.inr (va_up f j.toNatClampNeg (some u)))))))) rc rs
  | _ => xm_F ac lo fty tb rt post X pc L st h rc rs
/-- k steps -/
def xm_go (ac : Nat → ClassId) (lo : Nat) (fty : Nat → Nat → FieldType) (dfl : Nat → List Value) (mcl : Nat → Nat) (sv : xm_V) (dd : Nat) (hh : List (Nat × Nat × Nat × Nat × String)) (cs : xm_S) (tb : Nat → Option xm_I) (rt : Option FieldType) (post : xm_Q) (X : xm_X) : Nat → xm_X
  | 0 => X
  | k + 1 => xm_G ac lo fty dfl mcl sv dd hh cs tb rt post (xm_go ac lo fty dfl mcl sv dd hh cs tb rt post X k)
/-- method x, called at depth d -/
def xm_M (P : xm_P) (ac : Nat → ClassId) (lo : Nat) (fty : Nat → Nat → FieldType) (dfl : Nat → List Value) (sv : xm_V) : Nat → xm_S
  | 0 => fun _ _ _ _ _ _ => False
  | d + 1 => fun x as h mc ms post => (P.2.2.2.2.1 x 0).isSome = true ∧ (xm_en as).length ≤ P.2.2.1 x ∧ (lg_sl as).length ≤ P.2.2.1 x ∧ ∀ X : xm_X,
      (∀ pc L st h rc rs, xm_G ac lo fty dfl P.2.2.2.2.2.2.1 sv d (P.2.2.2.2.2.2.2 x) (xm_M P ac lo fty dfl sv d) (P.2.2.2.2.1 x) (P.2.2.2.1 x) post X pc L st h rc rs → X pc L st h rc rs) → X 0 (xm_st (P.2.2.1 x) as) [] h mc ms
def xm_room (d mc ms : Nat) : Room := { frames := d, cells := mc, slots := ms, locals := 64 * d }
def xm_Pc (l : Launch) (D : va_G) (cl : List vw_C) (ac : Nat → ClassId) (H0 : Heap) (sv : xm_V) (as : List Value) (h : xm_H) : Array Value → State → Prop := fun a U => a = as.toArray ∧ xm_rep D cl H0 h U.heap ∧ va_K D cl (xm_tys ac) U ∧ xm_sv l H0 sv U
/-- an entry that calls or makes is what the class file says -/
def xm_ok2 (P : xm_P) (dfl : Nat → List Value) (sv : xm_V) (own : String) (cc : ByteArray) (TB : List Cond) (cl : List vw_C) (ini : Bool) (pc : Nat) (q : xm_I) : Prop :=
  match q with
  | (.invokestatic k, x, y, w, _) => decode cc pc = .ok (.invokestatic k, 3) ∧ if w = -1 then Cond.methodLink own k arraycopyName ∈ TB ∧ Cond.native arraycopyName ∈ TB ∧ Cond.static arraycopyName ∈ TB ∧ Cond.initialized "java/lang/System" ∈ TB else if w < -1 then xm_mth own k w TB else Cond.methodLink own k (P.1 x) ∈ TB ∧ Cond.static (P.1 x) ∈ TB ∧ (parseMethodDescriptor (P.1 x).desc).map (fun d => d.parameters.length) = some y
  | (.invokevirtual k, x, y, w, _) => decode cc pc = .ok (.invokevirtual k, 3) ∧ Cond.methodLink own k (P.1 x) ∈ TB ∧ Cond.instanceMethod (P.1 x) ∈ TB ∧ Cond.selects (P.1 x).cls (P.1 x) (P.1 x) ∈ TB ∧ (parseMethodDescriptor (P.1 x).desc).map (fun d => d.parameters.length) = some y ∧ (if w = -1 then (P.1 x).cls = "java/lang/String" else (cl[P.2.2.2.2.2.2.1 x]?).map (fun q => q.1) = some (P.1 x).cls) ∧ P.2.2.2.2.2.2.2 x = []
  | (.invokespecial k, x, y, w, _) => decode cc pc = .ok (.invokespecial k, 3) ∧ if w = -1 then Cond.methodLink own k Lib.objectInit ∈ TB ∧ Cond.instanceMethod Lib.objectInit ∈ TB ∧ Cond.code Lib.objectInit ⟨#[0xb1]⟩ 1 none ∈ TB
      else (P.1 x).name = "<init>" ∧ P.2.2.2.1 x = none ∧ P.2.2.2.2.2.2.2 x = [] ∧ (Cond.methodLink own k (P.1 x) ∈ TB ∨ ∃ host, Cond.methodLinkNest own k (P.1 x) host ∈ sv.2.2.1) ∧ Cond.instanceMethod (P.1 x) ∈ TB ∧ (parseMethodDescriptor (P.1 x).desc).map (fun d => d.parameters.length) = some y
  | (.getstatic k, x, _) => decode cc pc = .ok (.getstatic k, 3) ∧ match sv.1[x]? with
    | some q => Cond.fieldLink own k q.1 q.2.1 q.2.2.1 ∈ TB ∨ ∃ host, Cond.fieldLinkNest own k q.1 q.2.1 q.2.2.1 host ∈ sv.2.2.1
    | none => False
  | (.new k, x, y, w, _) => if w = -1 then xm_site sv own cc TB pc k x y else decode cc pc = .ok (.new k, 3) ∧ match cl[x]? with
    | some (C, _, N) => Cond.classLink own k C ∈ TB ∧ Cond.instantiable C N ∈ TB ∧ Cond.initialized C ∈ TB ∧ (dfl x).length = N
    | none => False
  | (.ldc k, x, y, w, v, ts) => if x = 1 then decode cc pc = .ok (.ldc k, 2) ∧ (sv.2.2.2.2.2.2[y]?).map (fun q => (q.1, q.2.1)) = some (own, k) else xm_ok own cc TB cl ini pc (.ldc k, x, y, w, v, ts)
  | (.baload, x, y, w, v, ts) => if x = 4 then decode cc pc = .ok (.baload, 1) else xm_ok own cc TB cl ini pc (.baload, x, y, w, v, ts)
  | (.getfield k, x, y, w, v, ts) => if x = 98 then decode cc pc = .ok (.getfield k, 3) ∧ (if y = 0 then Cond.fieldLink own k "java/lang/String" "value" "[B" ∈ TB else Cond.fieldLink own k "java/lang/String" "coder" "B" ∈ TB) else xm_ok own cc TB cl ini pc (.getfield k, x, y, w, v, ts)
  | (.multianewarray k n, _) => n = 2 ∧ sv.2.2.2.1 = true ∧ decode cc pc = .ok (.multianewarray k n, 4) ∧ Cond.classLink own k "[[I" ∈ TB
  | (.aastore, _) => decode cc pc = .ok (.aastore, 1) ∧ sv.2.2.2.1 = true
  | q => xm_ok own cc TB cl ini pc q
/-- the word of a method's code -/
def xm_cw (P : xm_P) (x : Nat) : Cond := match P.2.2.2.2.2.2.2 x with
  | [] => Cond.code (P.1 x) (P.2.1 x) (P.2.2.1 x) (P.2.2.2.1 x)
  | z :: r => Cond.codeWith (P.1 x) (P.2.1 x) (P.2.2.1 x) (P.2.2.2.1 x) ((z :: r).map (fun e => (e.1, e.2.1, e.2.2.1, e.2.2.2.1)))
/-- a method of the program is what the class files say -/
def xm_mok (P : xm_P) (dfl : Nat → List Value) (sv : xm_V) (TB : List Cond) (cl : List vw_C) (x : Nat) : Prop :=
  xm_cw P x ∈ TB ∧ Cond.initialized (P.1 x).cls ∈ TB ∧ plainName (P.1 x).cls = true ∧ ((P.1 x).cls ≠ "java/lang/invoke/MethodHandle" ∧ (P.1 x).cls ≠ "java/lang/invoke/VarHandle") ∧ P.2.2.1 x ≤ 45 ∧ (∀ e ∈ P.2.2.2.2.2.2.2 x, e.2.2.2.1 ≠ 0 ∧ Cond.classLink (P.1 x).cls e.2.2.2.1 e.2.2.2.2 ∈ TB ∧ Cond.castable e.2.2.2.2 e.2.2.2.2 ∈ sv.2.2.1) ∧ (P.2.2.2.2.2.1 x = true → (P.1 x).name = "<init>") ∧
  ∀ pc q, P.2.2.2.2.1 x pc = some q → xm_ok2 P dfl sv (P.1 x).cls (P.2.1 x) TB cl (P.2.2.2.2.2.1 x) pc q
