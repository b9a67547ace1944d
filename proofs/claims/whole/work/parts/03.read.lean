/-! THE ENGINE: a formula of part 02 over W gives W -/
theorem xm_i_e {st : List Value} {k : Int32 → List Value → Prop} (h : xm_i st k) : ∃ a r, st = .int a :: r ∧ k a r := by
  unfold xm_i at h; split at h
  · exact ⟨_, _, rfl, h⟩
  · exact h.elim
theorem xm_ii_e {st : List Value} {k : Int32 → Int32 → List Value → Prop} (h : xm_ii st k) : ∃ a b r, st = .int b :: .int a :: r ∧ k a b r := by
  unfold xm_ii at h; split at h
  · exact ⟨_, _, _, rfl, h⟩
  · exact h.elim
theorem xm_l_e {st : List Value} {k : Int64 → List Value → Prop} (h : xm_l st k) : ∃ a r, st = .long a :: r ∧ k a r := by
  unfold xm_l at h; split at h
  · exact ⟨_, _, rfl, h⟩
  · exact h.elim
theorem xm_ll_e {st : List Value} {k : Int64 → Int64 → List Value → Prop} (h : xm_ll st k) : ∃ a b r, st = .long b :: .long a :: r ∧ k a b r := by
  unfold xm_ll at h; split at h
  · exact ⟨_, _, _, rfl, h⟩
  · exact h.elim
theorem xm_li_e {st : List Value} {k : Int64 → Int32 → List Value → Prop} (h : xm_li st k) : ∃ a b r, st = .int b :: .long a :: r ∧ k a b r := by
  unfold xm_li at h; split at h
  · exact ⟨_, _, _, rfl, h⟩
  · exact h.elim
theorem xm_a_e {st : List Value} {k : Nat → List Value → Prop} (h : xm_a st k) : ∃ a r, st = .ref a :: r ∧ k a r := by
  unfold xm_a at h; split at h
  · exact ⟨_, _, rfl, h⟩
  · exact h.elim
theorem xm_n_e {st : List Value} {kn : List Value → Prop} {k : Nat → List Value → Prop} (h : xm_n st kn k) : (∃ a r, st = .ref a :: r ∧ k a r) ∨ ∃ r, st = .null :: r ∧ kn r := by
  unfold xm_n at h; split at h
  · exact Or.inl ⟨_, _, rfl, h⟩
  · exact Or.inr ⟨_, rfl, h⟩
  · exact h.elim
theorem xm_ai_e {st : List Value} {k : Nat → Int32 → List Value → Prop} (h : xm_ai st k) : ∃ a i r, st = .int i :: .ref a :: r ∧ k a i r := by
  unfold xm_ai at h; split at h
  · exact ⟨_, _, _, rfl, h⟩
  · exact h.elim
theorem xm_aii_e {st : List Value} {k : Nat → Int32 → Int32 → List Value → Prop} (h : xm_aii st k) : ∃ a i u r, st = .int u :: .int i :: .ref a :: r ∧ k a i u r := by
  unfold xm_aii at h; split at h
  · exact ⟨_, _, _, _, rfl, h⟩
  · exact h.elim
theorem xm_ail_e {st : List Value} {k : Nat → Int32 → Int64 → List Value → Prop} (h : xm_ail st k) : ∃ a i u r, st = .long u :: .int i :: .ref a :: r ∧ k a i u r := by
  unfold xm_ail at h; split at h
  · exact ⟨_, _, _, _, rfl, h⟩
  · exact h.elim
theorem xm_av_e {st : List Value} {k : Nat → Value → List Value → Prop} (h : xm_av st k) : ∃ a u r, st = u :: .ref a :: r ∧ k a u r := by
  unfold xm_av at h; split at h
  · exact ⟨_, _, _, rfl, h⟩
  · exact h.elim
theorem xm_ri_e {st : List Value} {k : Int32 → Prop} (h : xm_ri st k) : ∃ a, st = [.int a] ∧ k a := by
  unfold xm_ri at h; split at h
  · exact ⟨_, rfl, h⟩
  · exact h.elim
theorem xm_rl_e {st : List Value} {k : Int64 → Prop} (h : xm_rl st k) : ∃ a, st = [.long a] ∧ k a := by
  unfold xm_rl at h; split at h
  · exact ⟨_, rfl, h⟩
  · exact h.elim
theorem xm_rv_e {st : List Value} {k : Prop} (h : xm_rv st k) : st = [] ∧ k := by
  unfold xm_rv at h; split at h
  · exact ⟨rfl, h⟩
  · exact h.elim
theorem xm_Li_e {L : xm_L} {x : Nat} {k : Int32 → Prop} (h : xm_Li L x k) : ∃ a, L[x]? = some (some (.int a)) ∧ k a := by
  unfold xm_Li at h; split at h
  · rename_i q; exact ⟨_, q, h⟩
  · exact h.elim
theorem xm_Ll_e {L : xm_L} {x : Nat} {k : Int64 → Prop} (h : xm_Ll L x k) : ∃ a, L[x]? = some (some (.long a)) ∧ k a := by
  unfold xm_Ll at h; split at h
  · rename_i q; exact ⟨_, q, h⟩
  · exact h.elim
theorem xm_La_e {L : xm_L} {x : Nat} {kn : Prop} {k : Nat → Prop} (h : xm_La L x kn k) : (∃ a, L[x]? = some (some (.ref a)) ∧ k a) ∨ (L[x]? = some (some .null) ∧ kn) := by
  unfold xm_La at h; split at h
  · rename_i q; exact Or.inl ⟨_, q, h⟩
  · rename_i q; exact Or.inr ⟨q, h⟩
  · exact h.elim
theorem xm_Ai_e {h : xm_H} {cA : ClassId} {a : Nat} {k : Nat → (Nat → Int32) → Prop} (q : xm_Ai h cA a k) : ∃ n f, h.1 a = some (.inl (cA, n, .inl f)) ∧ k n f := by
  unfold xm_Ai at q; split at q
  · rename_i z; obtain ⟨rfl, q⟩ := q; exact ⟨_, _, z, q⟩
  · exact q.elim
theorem xm_Al_e {h : xm_H} {cA : ClassId} {a : Nat} {k : Nat → (Nat → Int64) → Prop} (q : xm_Al h cA a k) : ∃ n f, h.1 a = some (.inl (cA, n, .inr (.inl f))) ∧ k n f := by
  unfold xm_Al at q; split at q
  · rename_i z; obtain ⟨rfl, q⟩ := q; exact ⟨_, _, z, q⟩
  · exact q.elim
theorem xm_Aq_e {h : xm_H} {cA : ClassId} {a : Nat} {k : Nat → (Nat → Option Nat) → Prop} (q : xm_Aq h cA a k) : ∃ n f, h.1 a = some (.inl (cA, n, .inr (.inr (.inr (.inr f))))) ∧ k n f := by
  unfold xm_Aq at q; split at q
  · rename_i z; obtain ⟨rfl, q⟩ := q; exact ⟨_, _, z, q⟩
  · exact q.elim
theorem xm_An_e {h : xm_H} {ac : Nat → ClassId} {a : Nat} {k : Nat → Prop} (q : xm_An h ac a k) : ∃ c n f, h.1 a = some (.inl (c, n, f)) ∧ (c = ac 0 ∨ c = ac 1 ∨ c = ac 2 ∨ c = ac 3 ∨ c = ac 4 ∨ c = ac 5) ∧ k n := by
  unfold xm_An at q; split at q
  · rename_i z; exact ⟨_, _, _, z, q⟩
  · exact q.elim
theorem xm_O_e {h : xm_H} {ci a : Nat} {k : List Value → Prop} (q : xm_O h ci a k) : ∃ fs, h.1 a = some (.inr (ci, fs)) ∧ k fs := by
  unfold xm_O at q; split at q
  · rename_i z; obtain ⟨rfl, q⟩ := q; exact ⟨_, z, q⟩
  · exact q.elim
theorem xm_sw_e {a : Int32} {K : Nat → Prop} {d : Nat} : ∀ {ts : List (Int32 × Nat)}, xm_sw a K d ts → (∃ (j : Nat) (q : Int32 × Nat), ts[j]? = some q ∧ a = q.1 ∧ K q.2) ∨ ((∀ q ∈ ts, ¬ a = q.1) ∧ K d)
  | [], h => Or.inr ⟨fun _ q => (by cases q), h⟩
  | q :: r, h => by
    by_cases hq : a = q.1
    · exact Or.inl ⟨0, q, rfl, hq, h.1 hq⟩
    · rcases xm_sw_e (h.2 hq) with ⟨j, q', h1, h2, h3⟩ | ⟨h1, h2⟩
      · exact Or.inl ⟨j + 1, q', by simpa using h1, h2, h3⟩
      · refine Or.inr ⟨fun z hz => ?_, h2⟩
        rcases List.mem_cons.mp hz with rfl | hz
        · exact hq
        · exact h1 z hz
abbrev xm_tys (ac : Nat → ClassId) : List (ClassId × FieldType) := [(ac 0, .int), (ac 1, .long), (ac 2, .boolean), (ac 3, .byte), (ac 4, .char), (ac 5, .array .int)]
/-- the arms of a table: keys from a on, targets by their offsets -/
def xm_arms (pc : Nat) : Int → List Int → List (Int32 × Nat) → Bool
  | _, [], [] => true
  | a, o :: os, (k, t) :: ts => decide (k.toInt = a) && (decide ((pc : Int) + o = (t : Int)) && xm_arms pc (a + 1) os ts)
  | _, _, _ => false
def xm_arml (pc : Nat) : List (Int × Int) → List (Int32 × Nat) → Bool
  | [], [] => true
  | (a, o) :: ps, (k, t) :: ts => decide (k.toInt = a) && (decide ((pc : Int) + o = (t : Int)) && xm_arml pc ps ts)
  | _, _ => false
theorem xm_arml_at {pc x : Nat} {d : Int} {a : Int32} {K : Nat → Prop} (hd : (pc : Int) + d = (x : Int)) : ∀ {ps : List (Int × Int)} {ts : List (Int32 × Nat)}, xm_arml pc ps ts = true → xm_sw a K x ts → ∃ (off : Int) (tgt : Nat), Op.lookupswitch.offset ps d a.toInt = off ∧ (pc : Int) + off = (tgt : Int) ∧ K tgt
  | [], [], _, h => ⟨d, x, by simp [Op.lookupswitch.offset], hd, h⟩
  | [], _ :: _, h, _ => by simp [xm_arml] at h
  | _ :: _, [], h, _ => by simp [xm_arml] at h
  | (b, o) :: ps, (k, t) :: ts, h, hs => by
    simp only [xm_arml, Bool.and_eq_true, decide_eq_true_eq] at h
    obtain ⟨h1, h2, h3⟩ := h
    by_cases hk : a = k
    · refine ⟨o, t, ?_, h2, hs.1 hk⟩
      rw [hk, h1]
      simp [Op.lookupswitch.offset]
    · obtain ⟨off, tgt, e1, e2, e3⟩ := xm_arml_at hd h3 (hs.2 hk)
      exact ⟨off, tgt, by rw [lv_osw hk h1]; exact e1, e2, e3⟩
/-- what is known of the start beside the tables: static fields; Strings (class, entry, text, address); words of nest mates and of casts; whether throws may be; pairs of classes of which no cast leads from the first to the second; arrays of ints that nobody writes (address, length, contents); String constants that are read (class, entry, text, address, address of their bytes, bytes) -/
abbrev xm_V : Type := List (String × String × String × Value) × List (String × Nat × String × Nat) × List Cond × Bool × List (String × String) × List (Nat × Nat × (Nat → Int32)) × List (String × Nat × String × Nat × Nat × List Int32)
def xm_nwok : Cond → Bool
  | .fieldLinkNest _ _ _ _ _ _ => true
  | .methodLinkNest _ _ _ _ => true
  | .castable _ _ => true
  | .declares _ => true
  | _ => false
/-- the class of arrays of arrays of ints is known -/
def xm_A2 (U : State) : Prop := ∃ (comp c : ClassId) (k : Class), U.vm.findClass (FieldType.array .int).toString = some comp ∧ U.vm.classes[c]? = some k ∧ k.kind = .array comp (.array .int) ∧ U.vm.findClass ("[" ++ (FieldType.array .int).toString) = some c
theorem xm_A2.of {A : Array Value} {U : State} (h : (Cond.arrayOver (.array .int)).before A U = true) : xm_A2 U := by
  obtain ⟨comp, c, k, h1, -, h3, h4, h5⟩ := arrayOverA_spec h
  exact ⟨comp, c, k, h1, h3, h4, h5⟩
theorem xm_A2.moved {u U : State} (hvm : u.vm.Alike U.vm) (h : xm_A2 u) : xm_A2 U := by
  obtain ⟨comp, c, k, h1, h3, h4, h5⟩ := h
  obtain ⟨k', hk', he⟩ := hvm.2.2 _ _ h3
  exact ⟨comp, c, k', by rw [hvm.findClass]; exact h1, hk', by rw [he]; exact h4, by rw [hvm.findClass]; exact h5⟩
/-- a String constant: its entry, its bytes -/
def xm_lit (H0 : Heap) (q : String × Nat × String × Nat × Nat × List Int32) (U : State) : Prop := vk_R q.1 q.2.1 q.2.2.1 q.2.2.2.1 U ∧ va_O "java/lang/String" q.2.2.2.1 (fun a => H0.size ≤ a) U H0 ∧ va_OF "java/lang/String" "coder" "B" (.int 0) q.2.2.2.1 (fun a => H0.size ≤ a) U H0 ∧ va_OF "java/lang/String" "value" "[B" (.ref q.2.2.2.2.1) q.2.2.2.1 (fun a => H0.size ≤ a) U H0 ∧ va_T .byte q.2.2.2.2.1 q.2.2.2.2.2.length (fun j => .int (q.2.2.2.2.2.getD j 0)) (fun a => H0.size ≤ a) U H0
theorem xm_lit.warm {H0 : Heap} {q : String × Nat × String × Nat × Nat × List Int32} {s U : State} (hW : s.WarmedH U.vm) (h : xm_lit H0 q s) : xm_lit H0 q U := ⟨h.1.warm hW, va_O.moved hW.alike h.2.1, va_OF.moved hW.alike h.2.2.1, va_OF.moved hW.alike h.2.2.2.1, va_T.moved hW.alike h.2.2.2.2⟩
theorem xm_lit.same {H0 : Heap} {q : String × Nat × String × Nat × Nat × List Int32} {s U : State} (hv : s.vm = U.vm) (h : xm_lit H0 q s) : xm_lit H0 q U := by
  have ha : s.vm.Alike U.vm := by rw [← hv]; exact Vm.Alike.refl _
  exact ⟨h.1.same hv.symm, va_O.moved ha h.2.1, va_OF.moved ha h.2.2.1, va_OF.moved ha h.2.2.2.1, va_T.moved ha h.2.2.2.2⟩
def xm_sv (l : Launch) (H0 : Heap) (sv : xm_V) (U : State) : Prop :=
  (∀ (k : Nat) (q : String × String × String × Value), sv.1[k]? = some q → va_Z q.1 q.2.1 q.2.2.1 q.2.2.2 (fun a => H0.size ≤ a) U H0) ∧
  (∀ (k : Nat) (q : String × Nat × String × Nat), sv.2.1[k]? = some q → vk_R q.1 q.2.1 q.2.2.1 q.2.2.2 U) ∧ (∀ w ∈ sv.2.2.1, xm_nwok w = true ∧ va_Nw w U) ∧
  (∀ q ∈ sv.2.2.2.2.1, va_Nc q.1 q.2 U) ∧
  (sv.2.2.2.1 = true → l.stackTraces = false ∧ vx_Zq Bundle.tN "UNASSIGNED_STACK" Bundle.steD (fun a => H0.size ≤ a) U H0 ∧ vx_Zq Bundle.tN "SUPPRESSED_SENTINEL" Bundle.listD (fun a => H0.size ≤ a) U H0 ∧ xm_A2 U) ∧
  (∀ (k : Nat) (q : Nat × Nat × (Nat → Int32)), sv.2.2.2.2.2.1[k]? = some q → va_T .int q.1 q.2.1 (fun j => .int (q.2.2 j)) (fun a => H0.size ≤ a) U H0) ∧
  ∀ (k : Nat) (q : String × Nat × String × Nat × Nat × List Int32), sv.2.2.2.2.2.2[k]? = some q → xm_lit H0 q U
theorem xm_nwok_on {w : Cond} (h : xm_nwok w = true) : w.onTables = true := by
  cases w <;> first | rfl | cases h
theorem xm_sv.warm {l : Launch} {H0 : Heap} {sv : xm_V} {s U : State} (hW : s.WarmedH U.vm) (h : xm_sv l H0 sv s) : xm_sv l H0 sv U := by
  obtain ⟨h1, h2, h3, h5, h4, h6, h7⟩ := h
  refine ⟨fun k q hk => (h1 k q hk).moved hW.alike, fun k q hk => (h2 k q hk).warm hW, fun w hw => ⟨(h3 w hw).1, ?_⟩, fun q hq => (h5 q hq).moved hW.alike, fun hb => ⟨(h4 hb).1, (h4 hb).2.1.moved hW.alike, (h4 hb).2.2.1.moved hW.alike, (h4 hb).2.2.2.moved hW.alike⟩, fun k q hk => (h6 k q hk).moved hW.alike, fun k q hk => (h7 k q hk).warm hW⟩
  obtain ⟨g1, g2⟩ := h3 w hw
  cases w with
  | fieldLinkNest a b c d e f => exact va_Nw.warmF hW g2
  | methodLinkNest a b c d => exact va_Nw.warmM hW g2
  | castable a b => exact va_Nw.warmC hW g2
  | declares a => exact va_Nw.warmD hW g2
  | _ => cases g1
theorem xm_sv.same {l : Launch} {H0 : Heap} {sv : xm_V} {s U : State} (hv : s.vm = U.vm) (h : xm_sv l H0 sv s) : xm_sv l H0 sv U := by
  obtain ⟨h1, h2, h3, h5, h4, h6, h7⟩ := h
  have ha : s.vm.Alike U.vm := by rw [← hv]; exact Vm.Alike.refl _
  exact ⟨fun k q hk => (h1 k q hk).moved ha, fun k q hk => (h2 k q hk).same hv.symm, fun w hw => ⟨(h3 w hw).1, va_Nw.same (xm_nwok_on (h3 w hw).1) hv (h3 w hw).2⟩, fun q hq => (h5 q hq).moved ha, fun hb => ⟨(h4 hb).1, (h4 hb).2.1.moved ha, (h4 hb).2.2.1.moved ha, (h4 hb).2.2.2.moved ha⟩, fun k q hk => (h6 k q hk).moved ha, fun k q hk => (h7 k q hk).same hv⟩
/-- an entry of a method's table is what the class file says -/
def xm_ok (own : String) (cc : ByteArray) (TB : List Cond) (cl : List vw_C) (ini : Bool) (pc : Nat) (q : xm_I) : Prop :=
  match q with
  | (i, x, y, w, v, ts) => match i with
    | .iconst n => decode cc pc = .ok (.iconst n, 1) ∧ Int32.ofInt n = w
    | .bipush n => decode cc pc = .ok (.bipush n, 2) ∧ (Int8.ofInt n).toInt32 = w
    | .sipush n => decode cc pc = .ok (.sipush n, 3) ∧ (Int16.ofInt n).toInt32 = w
    | .ldc k => decode cc pc = .ok (.ldc k, 2) ∧ Cond.constant own k w ∈ TB
    | .ldc_w k => decode cc pc = .ok (.ldc_w k, 3) ∧ Cond.constant own k w ∈ TB
    | .lconst n => decode cc pc = .ok (.lconst n, 1) ∧ Int64.ofNat (n : Nat) = v
    | .ldc2_w k => decode cc pc = .ok (.ldc2_w k, 3) ∧ Cond.constantLong own k v ∈ TB
    | .iload_n k => decode cc pc = .ok (.iload_n k, 1) ∧ (k : Nat) = x
    | .lload_n k => decode cc pc = .ok (.lload_n k, 1) ∧ (k : Nat) = x
    | .aload_n k => decode cc pc = .ok (.aload_n k, 1) ∧ (k : Nat) = x
    | .istore_n k => decode cc pc = .ok (.istore_n k, 1) ∧ (k : Nat) = x
    | .lstore_n k => decode cc pc = .ok (.lstore_n k, 1) ∧ (k : Nat) = x
    | .astore_n k => decode cc pc = .ok (.astore_n k, 1) ∧ (k : Nat) = x
    | .iload k => decode cc pc = .ok (.iload x, 2) ∧ k = x
    | .lload k => decode cc pc = .ok (.lload x, 2) ∧ k = x
    | .aload k => decode cc pc = .ok (.aload x, 2) ∧ k = x
    | .istore k => decode cc pc = .ok (.istore x, 2) ∧ k = x
    | .lstore k => decode cc pc = .ok (.lstore x, 2) ∧ k = x
    | .astore k => decode cc pc = .ok (.astore x, 2) ∧ k = x
    | .iinc _ n => decode cc pc = .ok (.iinc x n, 3) ∧ Int32.ofInt n = w
    | .goto o => decode cc pc = .ok (.goto o, 3) ∧ (pc : Int) + o = (x : Int)
    | .ifCond t o => decode cc pc = .ok (.ifCond t o, 3) ∧ (pc : Int) + o = (x : Int)
    | .if_icmp t o => decode cc pc = .ok (.if_icmp t o, 3) ∧ (pc : Int) + o = (x : Int)
    | .ifnull o => decode cc pc = .ok (.ifnull o, 3) ∧ (pc : Int) + o = (x : Int)
    | .ifnonnull o => decode cc pc = .ok (.ifnonnull o, 3) ∧ (pc : Int) + o = (x : Int)
    | .tableswitch d a b os => decode cc pc = .ok (.tableswitch d a b os, y) ∧ (pc : Int) + d = (x : Int) ∧ b = a + os.size - 1 ∧ xm_arms pc a os.toList ts = true
    | .lookupswitch d ps => decode cc pc = .ok (.lookupswitch d ps, y) ∧ (pc : Int) + d = (x : Int) ∧ (ps.toList.zip (ps.toList.drop 1)).all (fun (a, next) => a.1 < next.1) = true ∧ xm_arml pc ps.toList ts = true
    | .getfield k => decode cc pc = .ok (.getfield k, 3) ∧ match cl[x]? with
      | some (_, T, N) => y < N ∧ Cond.fieldLink own k (T y).1 (T y).2.1 (T y).2.2.1 ∈ TB
      | none => False
    | .putfield k => decode cc pc = .ok (.putfield k, 3) ∧ match cl[x]? with
      | some (_, T, N) => y < N ∧ Cond.fieldLink own k (T y).1 (T y).2.1 (T y).2.2.1 ∈ TB ∧ ((T y).2.2.2 = false ∨ ((T y).2.2.2 = true ∧ ini = true ∧ (T y).1 = own))
      | none => False
    | .baload => decode cc pc = .ok (.baload, 1) ∧ (x = 2 ∨ x = 3)
    | .bastore => decode cc pc = .ok (.bastore, 1) ∧ (x = 2 ∨ x = 3)
    | .newarray t => decode cc pc = .ok (.newarray t, 2) ∧ Cond.arrayClass (newarray.typeOf t) ∈ TB
    | j => decode cc pc = .ok (j, 1)
theorem xm_arms_at {pc : Nat} : ∀ {os : List Int} {ts : List (Int32 × Nat)} {a : Int}, xm_arms pc a os ts = true → os.length = ts.length ∧ ∀ (j : Nat) (q : Int32 × Nat), ts[j]? = some q → q.1.toInt = a + (j : Int) ∧ ∃ o : Int, os[j]? = some o ∧ (pc : Int) + o = (q.2 : Int)
  | [], [], a, _ => ⟨rfl, fun j q h => by simp at h⟩
  | [], q :: ts, a, h => by simp [xm_arms] at h
  | o :: os, [], a, h => by simp [xm_arms] at h
  | o :: os, (k, t) :: ts, a, h => by
    simp only [xm_arms, Bool.and_eq_true, decide_eq_true_eq] at h
    obtain ⟨h1, h2, h3⟩ := h
    obtain ⟨g1, g2⟩ := xm_arms_at h3
    refine ⟨by simp [g1], fun j q hj => ?_⟩
    cases j with
    | zero =>
      simp at hj
      subst hj
      exact ⟨by simpa using h1, o, rfl, h2⟩
    | succ j =>
      obtain ⟨e1, o', e2, e3⟩ := g2 j q (by simpa using hj)
      exact ⟨by rw [e1]; omega, o', by simpa using e2, e3⟩
