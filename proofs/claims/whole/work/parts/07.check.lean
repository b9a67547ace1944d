/-! THE ENGINE: the tables of a program, looked at by a program -/
def xm_ln : Instr → Nat
  | .bipush _ | .ldc _ | .iload _ | .lload _ | .aload _ | .istore _ | .lstore _ | .astore _ | .newarray _ => 2
  | .multianewarray _ _ => 4
  | .sipush _ | .ldc_w _ | .ldc2_w _ | .iinc _ _ | .goto _ | .ifCond _ _ | .if_icmp _ _ | .ifnull _ | .ifnonnull _ | .getfield _ | .putfield _ | .getstatic _ | .invokestatic _ | .invokevirtual _ | .invokespecial _ | .new _ => 3
  | _ => 1
/-- what a class's pool entries mean: fields (entry, class, field), methods (entry, method, arguments), ints, longs, classes, Object's constructor, static fields, constructors (entry, method, arguments), arraycopy, arrays of arrays, Math, String constants (entry, number), their fields (entry, 0: the bytes), their methods (entry, method, arguments) -/
abbrev xm_K : Type := List (Nat × Nat × Nat) × List (Nat × Nat × Nat) × List (Nat × Int32) × List (Nat × Int64) × List (Nat × Nat) × List Nat × List (Nat × Nat) × List (Nat × Nat × Nat) × List Nat × List Nat × List (Nat × Int32) × List (Nat × Nat) × List (Nat × Nat) × List (Nat × Nat × Nat)
/-- the methods by kind: static, of an object, constructors -/
abbrev xm_T : Type := List Nat × List Nat × List Nat
def xm_ckb (cl : List vw_C) (own : String) (cc : ByteArray) (ini : Bool) (k : xm_K) (t : xm_T) (si : List Nat) (q : Nat × xm_I) : Bool :=
  match q with
  | (pc, i, x, y, w, v, ts) => decide (decode cc pc = .ok (i, match i with | .tableswitch _ _ _ _ => y | .lookupswitch _ _ => y | j => xm_ln j)) && match i with
    | .iconst n => decide (Int32.ofInt n = w)
    | .bipush n => decide ((Int8.ofInt n).toInt32 = w)
    | .sipush n => decide ((Int16.ofInt n).toInt32 = w)
    | .ldc j => if x = 1 then decide ((j, y) ∈ k.2.2.2.2.2.2.2.2.2.2.2.1) else decide ((j, w) ∈ k.2.2.1)
    | .ldc_w j => decide ((j, w) ∈ k.2.2.1)
    | .lconst n => decide (Int64.ofNat (n : Nat) = v)
    | .ldc2_w j => decide ((j, v) ∈ k.2.2.2.1)
    | .iload_n j => decide ((j : Nat) = x)
    | .lload_n j => decide ((j : Nat) = x)
    | .aload_n j => decide ((j : Nat) = x)
    | .istore_n j => decide ((j : Nat) = x)
    | .lstore_n j => decide ((j : Nat) = x)
    | .astore_n j => decide ((j : Nat) = x)
    | .iload j => decide (j = x)
    | .lload j => decide (j = x)
    | .aload j => decide (j = x)
    | .istore j => decide (j = x)
    | .lstore j => decide (j = x)
    | .astore j => decide (j = x)
    | .iinc j n => decide (j = x) && decide (Int32.ofInt n = w)
    | .goto o => decide ((pc : Int) + o = (x : Int))
    | .ifCond _ o => decide ((pc : Int) + o = (x : Int))
    | .if_icmp _ o => decide ((pc : Int) + o = (x : Int))
    | .ifnull o => decide ((pc : Int) + o = (x : Int))
    | .ifnonnull o => decide ((pc : Int) + o = (x : Int))
    | .tableswitch d a b os => decide ((pc : Int) + d = (x : Int)) && (decide (b = a + os.size - 1) && xm_arms pc a os.toList ts)
    | .lookupswitch d ps => decide ((pc : Int) + d = (x : Int)) && ((ps.toList.zip (ps.toList.drop 1)).all (fun (a, next) => a.1 < next.1) && xm_arml pc ps.toList ts)
    | .getfield j => if x = 98 then decide ((j, y) ∈ k.2.2.2.2.2.2.2.2.2.2.2.2.1) else decide ((j, x, y) ∈ k.1)
    | .putfield j => decide ((j, x, y) ∈ k.1) && match cl[x]? with
      | some (_, T, _) => decide ((T y).2.2.2 = false ∨ ((T y).2.2.2 = true ∧ ini = true ∧ (T y).1 = own))
      | none => false
    | .baload => decide (x = 2 ∨ x = 3 ∨ x = 4)
    | .bastore => decide (x = 2 ∨ x = 3)
    | .newarray a => decide (a = .int ∨ a = .long ∨ a = .boolean ∨ a = .byte ∨ a = .char)
    | .invokestatic j => if w = -1 then decide (j ∈ k.2.2.2.2.2.2.2.2.1) else if w < -1 then decide ((j, w) ∈ k.2.2.2.2.2.2.2.2.2.2.1) else decide ((j, x, y) ∈ k.2.1) && decide (x ∈ t.1)
    | .invokevirtual j => if w = -1 then decide ((j, x, y) ∈ k.2.2.2.2.2.2.2.2.2.2.2.2.2) else decide ((j, x, y) ∈ k.2.1) && decide (x ∈ t.2.1)
    | .invokespecial j => if w = -1 then decide (j ∈ k.2.2.2.2.2.1) else decide ((j, x, y) ∈ k.2.2.2.2.2.2.2.1) && decide (x ∈ t.2.2)
    | .new j => if w = -1 then decide (pc ∈ si) else decide ((j, x) ∈ k.2.2.2.2.1)
    | .getstatic j => decide ((j, x) ∈ k.2.2.2.2.2.2.1)
    | .multianewarray j n => decide (n = 2) && decide (j ∈ k.2.2.2.2.2.2.2.2.2.1)
    | _ => true
/-- the meanings of a class's pool entries are the words of the tables -/
def xm_kok (P : xm_P) (dfl : Nat → List Value) (sv : xm_V) (own : String) (TB : List Cond) (cl : List vw_C) (k : xm_K) : Prop :=
  (∀ q ∈ k.1, match cl[q.2.1]? with
    | some (_, T, N) => q.2.2 < N ∧ Cond.fieldLink own q.1 (T q.2.2).1 (T q.2.2).2.1 (T q.2.2).2.2.1 ∈ TB
    | none => False) ∧
  (∀ q ∈ k.2.1, Cond.methodLink own q.1 (P.1 q.2.1) ∈ TB ∧ (parseMethodDescriptor (P.1 q.2.1).desc).map (fun d => d.parameters.length) = some q.2.2) ∧
  (∀ q ∈ k.2.2.1, Cond.constant own q.1 q.2 ∈ TB) ∧ (∀ q ∈ k.2.2.2.1, Cond.constantLong own q.1 q.2 ∈ TB) ∧
  (∀ q ∈ k.2.2.2.2.1, match cl[q.2]? with
    | some (C, _, N) => Cond.classLink own q.1 C ∈ TB ∧ Cond.instantiable C N ∈ TB ∧ Cond.initialized C ∈ TB ∧ (dfl q.2).length = N
    | none => False) ∧
  (∀ j ∈ k.2.2.2.2.2.1, Cond.methodLink own j Lib.objectInit ∈ TB ∧ Cond.instanceMethod Lib.objectInit ∈ TB ∧ Cond.code Lib.objectInit ⟨#[0xb1]⟩ 1 none ∈ TB) ∧
  (∀ q ∈ k.2.2.2.2.2.2.1, match sv.1[q.2]? with
    | some z => Cond.fieldLink own q.1 z.1 z.2.1 z.2.2.1 ∈ TB ∨ ∃ host, Cond.fieldLinkNest own q.1 z.1 z.2.1 z.2.2.1 host ∈ sv.2.2.1
    | none => False) ∧
  (∀ q ∈ k.2.2.2.2.2.2.2.1, (Cond.methodLink own q.1 (P.1 q.2.1) ∈ TB ∨ ∃ host, Cond.methodLinkNest own q.1 (P.1 q.2.1) host ∈ sv.2.2.1) ∧ (parseMethodDescriptor (P.1 q.2.1).desc).map (fun d => d.parameters.length) = some q.2.2) ∧
  (∀ q ∈ k.2.2.2.2.2.2.2.2.2.2.1, xm_mth own q.1 q.2 TB) ∧
  (∀ j ∈ k.2.2.2.2.2.2.2.2.2.1, sv.2.2.2.1 = true ∧ Cond.classLink own j "[[I" ∈ TB) ∧ sv.2.2.2.1 = true ∧
  (∀ j ∈ k.2.2.2.2.2.2.2.2.1, Cond.methodLink own j arraycopyName ∈ TB ∧ Cond.native arraycopyName ∈ TB ∧ Cond.static arraycopyName ∈ TB ∧ Cond.initialized "java/lang/System" ∈ TB) ∧
  (∀ q ∈ k.2.2.2.2.2.2.2.2.2.2.2.1, (sv.2.2.2.2.2.2[q.2]?).map (fun z => (z.1, z.2.1)) = some (own, q.1)) ∧
  (∀ q ∈ k.2.2.2.2.2.2.2.2.2.2.2.2.1, if q.2 = 0 then Cond.fieldLink own q.1 "java/lang/String" "value" "[B" ∈ TB else Cond.fieldLink own q.1 "java/lang/String" "coder" "B" ∈ TB) ∧
  ∀ q ∈ k.2.2.2.2.2.2.2.2.2.2.2.2.2, Cond.methodLink own q.1 (P.1 q.2.1) ∈ TB ∧ Cond.instanceMethod (P.1 q.2.1) ∈ TB ∧ Cond.selects (P.1 q.2.1).cls (P.1 q.2.1) (P.1 q.2.1) ∈ TB ∧ (parseMethodDescriptor (P.1 q.2.1).desc).map (fun d => d.parameters.length) = some q.2.2 ∧ (P.1 q.2.1).cls = "java/lang/String" ∧ P.2.2.2.2.2.2.2 q.2.1 = []
def xm_tok (P : xm_P) (TB : List Cond) (cl : List vw_C) (t : xm_T) : Prop :=
  (∀ x ∈ t.1, Cond.static (P.1 x) ∈ TB) ∧ (∀ x ∈ t.2.1, Cond.instanceMethod (P.1 x) ∈ TB ∧ Cond.selects (P.1 x).cls (P.1 x) (P.1 x) ∈ TB ∧ (cl[P.2.2.2.2.2.2.1 x]?).map (fun q => q.1) = some (P.1 x).cls ∧ P.2.2.2.2.2.2.2 x = []) ∧
  (∀ x ∈ t.2.2, (P.1 x).name = "<init>" ∧ P.2.2.2.1 x = none ∧ P.2.2.2.2.2.2.2 x = [] ∧ Cond.instanceMethod (P.1 x) ∈ TB) ∧
  ∀ a : ArrayType, (a = .int ∨ a = .long ∨ a = .boolean ∨ a = .byte ∨ a = .char) → Cond.arrayClass (newarray.typeOf a) ∈ TB
set_option maxHeartbeats 4000000 in
theorem xm_ckb_ok {P : xm_P} {dfl : Nat → List Value} {sv : xm_V} {own : String} {cc : ByteArray} {TB : List Cond} {cl : List vw_C} {ini : Bool} {k : xm_K} {t : xm_T} {si : List Nat} (hk : xm_kok P dfl sv own TB cl k) (ht : xm_tok P TB cl t) {pc : Nat} {q : xm_I} (hsi : pc ∈ si → ∀ j x y w v ts, q = (.new j, x, y, w, v, ts) → xm_site sv own cc TB pc j x y) (h : xm_ckb cl own cc ini k t si (pc, q) = true) : xm_ok2 P dfl sv own cc TB cl ini pc q := by
  obtain ⟨i, x, y, w, v, ts⟩ := q
  simp only [xm_ckb, Bool.and_eq_true, decide_eq_true_eq] at h
  obtain ⟨hd, h⟩ := h
  obtain ⟨k1, k2, k3, k4, k5, k6, k7, k8, k12, k10, k11, k9, k13, k14, k15⟩ := hk
  obtain ⟨t1, t2, t3, t4⟩ := ht
  cases i with
  | iconst n => exact ⟨hd, by simpa using h⟩
  | bipush n => exact ⟨hd, by simpa using h⟩
  | sipush n => exact ⟨hd, by simpa using h⟩
  | ldc j =>
    dsimp only [xm_ok2]
    by_cases hw : x = 1
    · simp only [hw, if_true, decide_eq_true_eq] at h ⊢
      exact ⟨hd, k13 (j, y) h⟩
    · simp only [hw, if_false, decide_eq_true_eq] at h ⊢
      exact ⟨hd, k3 _ h⟩
  | ldc_w j => exact ⟨hd, k3 _ (by simpa using h)⟩
  | lconst n => exact ⟨hd, by simpa using h⟩
  | ldc2_w j => exact ⟨hd, k4 _ (by simpa using h)⟩
  | iload_n j => exact ⟨hd, by simpa using h⟩
  | lload_n j => exact ⟨hd, by simpa using h⟩
  | aload_n j => exact ⟨hd, by simpa using h⟩
  | istore_n j => exact ⟨hd, by simpa using h⟩
  | lstore_n j => exact ⟨hd, by simpa using h⟩
  | astore_n j => exact ⟨hd, by simpa using h⟩
  | iload j => 
    have hj : j = x := by simpa using h
    subst hj
    exact ⟨hd, rfl⟩
  | lload j => 
    have hj : j = x := by simpa using h
    subst hj
    exact ⟨hd, rfl⟩
  | aload j => 
    have hj : j = x := by simpa using h
    subst hj
    exact ⟨hd, rfl⟩
  | istore j => 
    have hj : j = x := by simpa using h
    subst hj
    exact ⟨hd, rfl⟩
  | lstore j => 
    have hj : j = x := by simpa using h
    subst hj
    exact ⟨hd, rfl⟩
  | astore j => 
    have hj : j = x := by simpa using h
    subst hj
    exact ⟨hd, rfl⟩
  | iinc j n =>
    simp only [Bool.and_eq_true, decide_eq_true_eq] at h
    obtain ⟨rfl, h2⟩ := h
    exact ⟨hd, h2⟩
  | goto o => exact ⟨hd, by simpa using h⟩
  | ifCond a o => exact ⟨hd, by simpa using h⟩
  | if_icmp a o => exact ⟨hd, by simpa using h⟩
  | ifnull o => exact ⟨hd, by simpa using h⟩
  | ifnonnull o => exact ⟨hd, by simpa using h⟩
  | tableswitch d a b os =>
    simp only [Bool.and_eq_true, decide_eq_true_eq] at h
    exact ⟨hd, h.1, h.2.1, h.2.2⟩
  | getfield j =>
    dsimp only [xm_ok2]
    by_cases hw : x = 98
    · simp only [hw, if_true, decide_eq_true_eq] at h ⊢
      exact ⟨hd, k14 (j, y) h⟩
    · simp only [hw, if_false, decide_eq_true_eq] at h ⊢
      exact ⟨hd, k1 (j, x, y) h⟩
  | putfield j =>
    simp only [Bool.and_eq_true, decide_eq_true_eq] at h
    have h1 := k1 (j, x, y) h.1
    refine ⟨hd, ?_⟩
    cases hc : cl[x]? with
    | none => rw [hc] at h1; exact h1.elim
    | some z =>
      rw [hc] at h1 h
      exact ⟨h1.1, h1.2, by simpa using h.2⟩
  | baload =>
    dsimp only [xm_ok2]
    by_cases hw : x = 4
    · rw [if_pos hw]; exact hd
    · rw [if_neg hw]
      have h := of_decide_eq_true h
      exact ⟨hd, by omega⟩
  | bastore => exact ⟨hd, by simpa using h⟩
  | newarray a => exact ⟨hd, t4 a (by simpa using h)⟩
  | lookupswitch d ps =>
    simp only [Bool.and_eq_true, decide_eq_true_eq] at h
    exact ⟨hd, h.1, h.2.1, h.2.2⟩
  | invokestatic j =>
    refine ⟨hd, ?_⟩
    by_cases hw : w = -1
    · simp only [hw, if_true, decide_eq_true_eq] at h ⊢
      exact k9 j h
    · by_cases hw2 : w < -1
      · simp only [hw, hw2, if_false, if_true, decide_eq_true_eq] at h ⊢
        exact k12 (j, w) h
      · simp only [hw, hw2, if_false, Bool.and_eq_true, decide_eq_true_eq] at h ⊢
        exact ⟨(k2 _ h.1).1, t1 x h.2, (k2 _ h.1).2⟩
  | invokevirtual j =>
    dsimp only [xm_ok2]
    by_cases hw : w = -1
    · simp only [hw, if_true, decide_eq_true_eq] at h ⊢
      obtain ⟨z1, z2, z3, z4, z5, z6⟩ := k15 (j, x, y) h
      exact ⟨hd, z1, z2, z3, z4, z5, z6⟩
    · simp only [hw, if_false, Bool.and_eq_true, decide_eq_true_eq] at h ⊢
      exact ⟨hd, (k2 _ h.1).1, (t2 x h.2).1, (t2 x h.2).2.1, (k2 _ h.1).2, (t2 x h.2).2.2⟩
  | invokespecial j =>
    refine ⟨hd, ?_⟩
    by_cases hw : w = -1
    · simp only [hw, if_true, decide_eq_true_eq] at h ⊢
      exact k6 j h
    · simp only [hw, if_false, Bool.and_eq_true, decide_eq_true_eq] at h ⊢
      exact ⟨(t3 x h.2).1, (t3 x h.2).2.1, (t3 x h.2).2.2.1, (k8 _ h.1).1, (t3 x h.2).2.2.2, (k8 _ h.1).2⟩
  | new j =>
    dsimp only [xm_ok2]
    by_cases hw : w = -1
    · simp only [hw, if_true, decide_eq_true_eq] at h ⊢
      exact hsi h j x y w v ts rfl
    · simp only [hw, if_false, decide_eq_true_eq] at h ⊢
      exact ⟨hd, k5 _ h⟩
  | getstatic j => exact ⟨hd, k7 (j, x) (by simpa using h)⟩
  | multianewarray j n =>
    simp only [Bool.and_eq_true, decide_eq_true_eq] at h
    exact ⟨h.1, (k10 j h.2).1, hd, (k10 j h.2).2⟩
  | aastore => exact ⟨hd, k11⟩
  | _ => exact hd
theorem xm_tab_ok {P : xm_P} {dfl : Nat → List Value} {sv : xm_V} {own : String} {cc : ByteArray} {TB : List Cond} {cl : List vw_C} {ini : Bool} {k : xm_K} {t : xm_T} {si : List Nat} (hk : xm_kok P dfl sv own TB cl k) (ht : xm_tok P TB cl t) {tab : List (Nat × xm_I)} (hsi : ∀ pc ∈ si, ∀ j x y w v ts, tab.lookup pc = some (.new j, x, y, w, v, ts) → xm_site sv own cc TB pc j x y) (h : tab.all (xm_ckb cl own cc ini k t si) = true) : ∀ pc q, tab.lookup pc = some q → xm_ok2 P dfl sv own cc TB cl ini pc q := by
  intro pc q hq
  have hm : (pc, q) ∈ tab := by
    clear h hsi
    induction tab with
    | nil => simp at hq
    | cons z r ih =>
      obtain ⟨a, b⟩ := z
      rw [List.lookup_cons] at hq
      split at hq
      · rename_i he
        have he' : pc = a := by simpa using he
        cases hq
        rw [he']
        exact List.mem_cons_self
      · exact List.mem_cons_of_mem _ (ih hq)
  exact xm_ckb_ok hk ht (fun hp j x y w v ts e => hsi pc hp j x y w v ts (by rw [hq, e])) (List.all_eq_true.mp h _ hm)
