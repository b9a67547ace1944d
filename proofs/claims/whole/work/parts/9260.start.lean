/-! THE LAW: from the machine's start to formulas (lw_.. as in the kit's skeleton) -/
def R_law : String := "RootHouseLaw"
def lw_P (b : Addr) (xs : List Int32) (args : Array Value) (s : State) : Prop := args = #[.ref b] ∧ s.IntsAt b xs ∧ xs.length ≤ 384 ∧ (Jvm.Cond.and given_1 narrow_1).before args s = true
def lw_Q (_ : Array Value) (s : State) (o : Outcome) (t : State) : Prop := o = .returned (some (.int 1)) ∧ Framed s o t [] 600128 7301098
def lw_Z (below : List Frame) (a : Array Value) (s : State) : State → Prop := fun t => ∃ o, t.status = .running ∧ Ended t below o ∧ lw_Q a s o t
/-- the law's own end, with 1 on the stack, nothing written that was there before, its room as the claim has it -/
theorem lw_ret {p : Program} {l : Launch} {e : Env} {s : State} {m : MethodId} {below : List Frame} {meth : Method} {c : Code} {b : Nat} (hx : p.tables.exec = Jvm.exec) (hb : c.code = code) (hr : meth.sig.returnType = ret) (hlocks : meth.locks = false) {pc : Nat} {H : Heap} {ls : Array Slot} (hdg : decode code pc = .ok (.ireturn, 1)) : W p l e room_1 s m #[Value.ref b] below meth c H [] 600128 7301098 (lw_Z below #[Value.ref b] s) (F0 m pc ls [.int 1]) := by
  intro T hT X
  obtain ⟨fs, hret, hrun, hended, hW, hframe⟩ := X.leave (v := some (.int 1)) (hlocks := hlocks) (fun h => by rw [hr] at h; cases h)
  have hmeth' : T.vm.method? m = some meth := X.method'
  refine ⟨T.setFrames fs, ?_, .returned (some (.int 1)), hrun, hended, rfl, ⟨_, rfl⟩, hW, hframe⟩
  jvm_step X.here [X.here.top, hx, hb, hdg, hmeth', hr, ret, narrow_b1]
  (try refine ⟨rfl, ?_⟩); (try refine ⟨rfl, ?_⟩)
  first | (intro acts; rw [hret _ acts rfl rfl rfl]) | rw [hret _ _ rfl rfl rfl]
  exact Steps.refl _
/-- what holds at the law's entry: the machine, the code, the tables' words (any of lw_tbl by 'hts w (by decide +kernel)'), the script of L ints xs at the cell b, what the Statement gives of the start (any of its parts by flat_of_before) -/
def lw_At (p : Program) (s : State) (m : MethodId) (meth : Method) (c : Code) (b L : Nat) (xs : Nat → Int32) : Prop :=
  p.tables.exec = Jvm.exec ∧ c.code = code ∧ meth.sig.returnType = ret ∧ c.maxLocals = 8 ∧ s.vm.findClass R_law = some m.cls ∧ (∀ w ∈ lw_tbl, w.before #[Value.ref b] s = true) ∧ va_X b L xs s s.heap ∧ b < s.heap.size ∧ meth.locks = false ∧ (Jvm.Cond.and given_1 narrow_1).before #[Value.ref b] s = true
/-- what the law's walk owes, in formulas -/
def xl_Owed (ac : Nat → ClassId) (lo : Nat) (ad as : Nat → Nat) (sc : Nat × Nat × (Nat → Int32)) : Prop :=
  ∀ X : xm_X, (∀ pc L st h rc rs, xm_G ac lo xp_fty xp_dfl xp.2.2.2.2.2.2.1 (xp_sv ad as sc) 1000 [] (xm_M xp ac lo xp_fty xp_dfl (xp_sv ad as sc) 1000) (fun pc => xl_L_law.lookup pc) (some .boolean) (fun r _ => r = .inl (some (.int 1))) X pc L st h rc rs → X pc L st h rc rs) → X 0 (xm_st 8 [.ref sc.1]) [] (xh (fun _ => none) lo []) 600128 7301098
theorem xl_skolem {P : Nat → Nat → (Nat → Nat) → Prop} (h : ∀ k, ∃ (c : Nat) (i : Nat → Nat), P k c i) : ∃ (dC : Nat → Nat) (dI : Nat → Nat → Nat), ∀ k, P k (dC k) (dI k) :=
  ⟨fun k => Classical.choose (h k), fun k => Classical.choose (Classical.choose_spec (h k)), fun k => Classical.choose_spec (Classical.choose_spec (h k))⟩
set_option maxHeartbeats 4000000 in
theorem xl_start {p : Program} {e : Env} {s : State} {m : MethodId} {below : List Frame} {meth : Method} {c : Code} (l : Launch) (hst : l.stackTraces = false) (hemp : ∀ z ∈ c.exceptionTable.toList, False) {b L : Nat} {xs : Nat → Int32} (C0 : lw_At p s m meth c b L xs) (HO : ∀ (ac : Nat → ClassId) (ad as : Nat → Nat), xl_Owed ac s.heap.size ad as (b, L, xs)) : W p l e room_1 s m #[Value.ref b] below meth c s.heap [] 0 0 (lw_Z below #[Value.ref b] s) (entryFrame m ([Value.ref b] : List Value).toArray 8) := by
  obtain ⟨hx, hb, hr, hml, hown, hts, hX, hbl, hlocks, hgv⟩ := id C0
  have hTB : ∀ w ∈ xp_TB, w.before #[Value.ref b] s = true := fun w hw => hts w (List.mem_filter.mp hw).1
  have hgood : ∀ w ∈ xp_TB, goodWord w = true := fun w hw => (List.mem_filter.mp hw).2
  have hA : ∀ a : Nat, a < s.heap.size → ¬ (fun a => s.heap.size ≤ a) a := fun a ha => Nat.not_le.mpr ha
  obtain ⟨dC, dI, hk3⟩ := xl_skolem (P := fun k c i => ∀ q, vwCl[k]? = some q → u_Kn s q.1 q.2.1 q.2.2 c i) (fun k => by
    cases hq : vwCl[k]? with
    | none => exact ⟨0, fun _ => 0, fun q h => by cases h⟩
    | some q =>
      obtain ⟨c, i, h⟩ := u_known (n := q.2.2) hTB (xs_cl k q hq).1 (hTB _ (xs_ins k q hq))
      exact ⟨c, i, fun q' h' => by cases h'; exact h⟩)
  have ha : ∀ ty : FieldType, (Cond.arrayClass ty).before #[Value.ref b] s = true → ∃ cA : ClassId, ArrOfT s cA ty ∧ s.vm.findClass ("[" ++ ty.toString) = some cA := by
    intro ty h
    obtain ⟨c, k, comp, h1, h2, h3⟩ := Cond.arrayClass_spec h
    exact ⟨c, fun n z => ⟨fun k h => (by cases h), k, h2, comp, h3⟩, h1⟩
  obtain ⟨c0, h0, n0⟩ := ha .int (hTB _ (xp_ar .int (by simp)))
  obtain ⟨c1, h1, n1⟩ := ha .long (hTB _ (xp_ar .long (by simp)))
  obtain ⟨c2, h2, n2⟩ := ha .boolean (hTB _ (xp_ar .boolean (by simp)))
  obtain ⟨c3, h3, n3⟩ := ha .byte (hTB _ (xp_ar .byte (by simp)))
  obtain ⟨c4, h4, n4⟩ := ha .char (hTB _ (xp_ar .char (by simp)))
  have hov : (Cond.arrayOver (.array .int)).before #[Value.ref b] s = true := xs_tb hts 2 24 rfl
  obtain ⟨comp, c5, k5, g1, -, g3, g4, g5⟩ := arrayOverA_spec hov
  have h5 : ArrOfT s c5 (.array .int) := fun n z => ⟨fun k h => (by cases h), k5, g3, comp, g4⟩
  obtain ⟨ac, hac⟩ : ∃ ac : Nat → ClassId, ac 0 = c0 ∧ ac 1 = c1 ∧ ac 2 = c2 ∧ ac 3 = c3 ∧ ac 4 = c4 ∧ ac 5 = c5 := ⟨fun k => [c0, c1, c2, c3, c4, c5].getD k 0, rfl, rfl, rfl, rfl, rfl, rfl⟩
  obtain ⟨e0, e1, e2, e3, e4, e5⟩ := hac
  subst e0; subst e1; subst e2; subst e3; subst e4; subst e5
  have hK : va_K (dC, dI) vwCl (xm_tys ac) s := ⟨fun k q h => hk3 k q h, fun k q h => by
    match k, h with
    | 0, h => cases h; exact ⟨h0, n0⟩
    | 1, h => cases h; exact ⟨h1, n1⟩
    | 2, h => cases h; exact ⟨h2, n2⟩
    | 3, h => cases h; exact ⟨h3, n3⟩
    | 4, h => cases h; exact ⟨h4, n4⟩
    | 5, h => cases h; exact ⟨h5, g5⟩
    | k + 6, h => simp at h⟩
  obtain ⟨t0, z0, q0⟩ := xs_arr (C := "RootHouse") (n := "KIND_OF_EIGHTHS") (N := 8) (l := xp_a0) (xs_tb hts 3 218 (by decide +kernel)) (xs_tb hts 0 1 (by decide +kernel)) (xs_hold hgv (i := 0) rfl) (xs_hold hgv (i := 1) rfl) (by decide) (fun j hj => xs_hold hgv (xs_el0 j hj))
  obtain ⟨t1, z1, q1⟩ := xs_arr (C := "RootHouse") (n := "EIGHTHS") (N := 11) (l := xp_a1) (xs_tb hts 3 196 (by decide +kernel)) (xs_tb hts 0 1 (by decide +kernel)) (xs_hold hgv (i := 10) rfl) (xs_hold hgv (i := 11) rfl) (by decide) (fun j hj => xs_hold hgv (xs_el1 j hj))
  obtain ⟨t2, z2, q2⟩ := xs_arr (C := "RootHouse$Cliffords") (n := "STEPS") (N := 7) (l := xp_a2) (xs_tb hts 3 130 (by decide +kernel)) (xs_tb hts 0 9 (by decide +kernel)) (xs_hold hgv (i := 23) rfl) (xs_hold hgv (i := 24) rfl) (by decide) (fun j hj => xs_hold hgv (xs_el2 j hj))
  obtain ⟨t3, z3, q3⟩ := xs_arr (C := "RootHouse$Cliffords") (n := "BACK_STEPS") (N := 5) (l := xp_a3) (xs_tb hts 3 156 (by decide +kernel)) (xs_tb hts 0 9 (by decide +kernel)) (xs_hold hgv (i := 32) rfl) (xs_hold hgv (i := 33) rfl) (by decide) (fun j hj => xs_hold hgv (xs_el3 j hj))
  obtain ⟨t4, z4, q4⟩ := xs_arr (C := "RootHouse$Search") (n := "CONTROLS") (N := 12) (l := xp_a4) (xs_tb hts 5 208 (by decide +kernel)) (xs_tb hts 0 10 (by decide +kernel)) (xs_hold hgv (i := 39) rfl) (xs_hold hgv (i := 40) rfl) (by decide) (fun j hj => xs_hold hgv (xs_el4 j hj))
  obtain ⟨t5, z5, q5⟩ := xs_arr (C := "RootHouse$Search") (n := "LOW_END") (N := 15) (l := xp_a5) (xs_tb hts 5 233 (by decide +kernel)) (xs_tb hts 0 10 (by decide +kernel)) (xs_hold hgv (i := 53) rfl) (xs_hold hgv (i := 54) rfl) (by decide) (fun j hj => xs_hold hgv (xs_el5 j hj))
  obtain ⟨t6, z6, q6⟩ := xs_arr (C := "RootHouse$Search") (n := "HIGH_END") (N := 15) (l := xp_a6) (xs_tb hts 5 235 (by decide +kernel)) (xs_tb hts 0 10 (by decide +kernel)) (xs_hold hgv (i := 70) rfl) (xs_hold hgv (i := 71) rfl) (by decide) (fun j hj => xs_hold hgv (xs_el6 j hj))
  obtain ⟨a0, r0⟩ := xs_str (own := "RootHouse") (tx := "no such ROOT") (k := 269) (xs_tb hts 8 156 (by decide +kernel)) (xs_hold hgv (i := 87) rfl)
  obtain ⟨a1, r1⟩ := xs_str (own := "RootHouse") (tx := "there are 20 circuits") (k := 122) (xs_tb hts 7 143 (by decide +kernel)) (xs_hold hgv (i := 88) rfl)
  obtain ⟨a2, r2⟩ := xs_str (own := "RootHouse") (tx := "the TAPE has a FAULT") (k := 136) (xs_tb hts 8 105 (by decide +kernel)) (xs_hold hgv (i := 89) rfl)
  obtain ⟨a3, r3⟩ := xs_str (own := "RootHouse") (tx := "no such D(i, j)") (k := 547) (xs_tb hts 9 72 (by decide +kernel)) (xs_hold hgv (i := 90) rfl)
  obtain ⟨a4, r4⟩ := xs_str (own := "RootHouse") (tx := "no such PAULI") (k := 285) (xs_tb hts 8 198 (by decide +kernel)) (xs_hold hgv (i := 91) rfl)
  obtain ⟨a5, r5⟩ := xs_str (own := "RootHouse") (tx := "no such MEANING") (k := 397) (xs_tb hts 8 225 (by decide +kernel)) (xs_hold hgv (i := 92) rfl)
  obtain ⟨a6, r6⟩ := xs_str (own := "RootHouse") (tx := "more than 12 SPIDERS") (k := 402) (xs_tb hts 8 230 (by decide +kernel)) (xs_hold hgv (i := 93) rfl)
  obtain ⟨a7, r7⟩ := xs_str (own := "RootHouse") (tx := "no such matrix") (k := 293) (xs_tb hts 8 211 (by decide +kernel)) (xs_hold hgv (i := 94) rfl)
  obtain ⟨a8, r8⟩ := xs_str (own := "RootHouse") (tx := "no such row or column") (k := 295) (xs_tb hts 8 212 (by decide +kernel)) (xs_hold hgv (i := 95) rfl)
  obtain ⟨a9, r9⟩ := xs_str (own := "RootHouse") (tx := "no such PURITY") (k := 550) (xs_tb hts 9 81 (by decide +kernel)) (xs_hold hgv (i := 96) rfl)
  obtain ⟨a10, r10⟩ := xs_str (own := "RootHouse") (tx := "a k above 50") (k := 557) (xs_tb hts 9 99 (by decide +kernel)) (xs_hold hgv (i := 97) rfl)
  obtain ⟨a11, r11⟩ := xs_str (own := "RootHouse") (tx := "n is not 1 .. 400") (k := 238) (xs_tb hts 8 120 (by decide +kernel)) (xs_hold hgv (i := 98) rfl)
  obtain ⟨a12, r12⟩ := xs_str (own := "RootHouse") (tx := "no OP is left") (k := 243) (xs_tb hts 8 121 (by decide +kernel)) (xs_hold hgv (i := 99) rfl)
  obtain ⟨a13, r13⟩ := xs_str (own := "RootHouse") (tx := "no such TERM") (k := 520) (xs_tb hts 9 64 (by decide +kernel)) (xs_hold hgv (i := 100) rfl)
  obtain ⟨a14, r14⟩ := xs_str (own := "RootHouse") (tx := "no such WEIGHT") (k := 279) (xs_tb hts 8 181 (by decide +kernel)) (xs_hold hgv (i := 101) rfl)
  obtain ⟨u0, v0, k0⟩ := xs_lit (own := "RootHouse$Bank") (tx := "xyzhststwmr") (k := 114) (N := 11) (l := xp_l0) (xs_tb hts 2 223 (by decide +kernel)) (xs_hold hgv (i := 102) rfl) (xs_hold hgv (i := 103) rfl) (xs_hold hgv (i := 104) rfl) (xs_hold hgv (i := 105) rfl) (by decide) rfl (fun j hj => xs_hold hgv (xs_lt0 j hj))
  obtain ⟨u1, v1, k1⟩ := xs_lit (own := "RootHouse$Guard") (tx := "IXYZ") (k := 92) (N := 4) (l := xp_l1) (xs_tb hts 9 21 (by decide +kernel)) (xs_hold hgv (i := 117) rfl) (xs_hold hgv (i := 118) rfl) (xs_hold hgv (i := 119) rfl) (xs_hold hgv (i := 120) rfl) (by decide) rfl (fun j hj => xs_hold hgv (xs_lt1 j hj))
  obtain ⟨u2, v2, k2⟩ := xs_lit (own := "RootHouse$Reader") (tx := "abcd") (k := 182) (N := 4) (l := xp_l2) (xs_tb hts 8 9 (by decide +kernel)) (xs_hold hgv (i := 125) rfl) (xs_hold hgv (i := 126) rfl) (xs_hold hgv (i := 127) rfl) (xs_hold hgv (i := 128) rfl) (by decide) rfl (fun j hj => xs_hold hgv (xs_lt2 j hj))
  obtain ⟨u3, v3, k3⟩ := xs_lit (own := "RootHouse$Reader") (tx := "xyzhst") (k := 126) (N := 6) (l := xp_l3) (xs_tb hts 8 89 (by decide +kernel)) (xs_hold hgv (i := 133) rfl) (xs_hold hgv (i := 134) rfl) (xs_hold hgv (i := 135) rfl) (xs_hold hgv (i := 136) rfl) (by decide) rfl (fun j hj => xs_hold hgv (xs_lt3 j hj))
  have zcp : va_Z "java/lang/String" "COMPACT_STRINGS" "Z" (.int 1) (fun a => s.heap.size ≤ a) s s.heap := va_Zof (xs_tb hts 2 233 (by decide +kernel)) (xs_tb hts 0 21 (by decide +kernel)) (xs_eq (xs_hold hgv (i := 143) rfl)) hA
  obtain ⟨zf, zfm⟩ := xs_fmt (C := "jdk/internal/util/Preconditions") (n := "SIOOBE_FORMATTER") (d := "Ljava/util/function/BiFunction;") (xs_tb hts 3 1 (by decide +kernel)) (xs_tb hts 0 24 (by decide +kernel)) (xs_hold hgv (i := 144) rfl)
  obtain ⟨ad, had⟩ : ∃ ad : Nat → Nat, ad 0 = t0 ∧ ad 1 = t1 ∧ ad 2 = t2 ∧ ad 3 = t3 ∧ ad 4 = t4 ∧ ad 5 = t5 ∧ ad 6 = t6 ∧ ad 7 = u0 ∧ ad 8 = u1 ∧ ad 9 = u2 ∧ ad 10 = u3 ∧ ad 11 = v0 ∧ ad 12 = v1 ∧ ad 13 = v2 ∧ ad 14 = v3 ∧ ad 15 = zf := ⟨fun k => [t0, t1, t2, t3, t4, t5, t6, u0, u1, u2, u3, v0, v1, v2, v3, zf].getD k 0, rfl, rfl, rfl, rfl, rfl, rfl, rfl, rfl, rfl, rfl, rfl, rfl, rfl, rfl, rfl, rfl⟩
  obtain ⟨f0, f1, f2, f3, f4, f5, f6, f7, f8, f9, f10, f11, f12, f13, f14, f15⟩ := had
  subst f0; subst f1; subst f2; subst f3; subst f4; subst f5; subst f6; subst f7; subst f8; subst f9; subst f10; subst f11; subst f12; subst f13; subst f14; subst f15
  obtain ⟨as, has⟩ : ∃ as : Nat → Nat, as 0 = a0 ∧ as 1 = a1 ∧ as 2 = a2 ∧ as 3 = a3 ∧ as 4 = a4 ∧ as 5 = a5 ∧ as 6 = a6 ∧ as 7 = a7 ∧ as 8 = a8 ∧ as 9 = a9 ∧ as 10 = a10 ∧ as 11 = a11 ∧ as 12 = a12 ∧ as 13 = a13 ∧ as 14 = a14 := ⟨fun k => [a0, a1, a2, a3, a4, a5, a6, a7, a8, a9, a10, a11, a12, a13, a14].getD k 0, rfl, rfl, rfl, rfl, rfl, rfl, rfl, rfl, rfl, rfl, rfl, rfl, rfl, rfl, rfl⟩
  obtain ⟨f0, f1, f2, f3, f4, f5, f6, f7, f8, f9, f10, f11, f12, f13, f14⟩ := has
  subst f0; subst f1; subst f2; subst f3; subst f4; subst f5; subst f6; subst f7; subst f8; subst f9; subst f10; subst f11; subst f12; subst f13; subst f14
  have hsv : xm_sv l s.heap (xp_sv ad as (b, L, xs)) s := by
    refine ⟨fun k q h => ?_, fun k q h => ?_, fun w hw => ?_, fun q hq => ?_, fun _ => ?_, fun k q h => ?_, fun k q h => ?_⟩
    · match k, h with
      | 0, h => cases h; exact z0
      | 1, h => cases h; exact z1
      | 2, h => cases h; exact z2
      | 3, h => cases h; exact z3
      | 4, h => cases h; exact z4
      | 5, h => cases h; exact z5
      | 6, h => cases h; exact z6
      | 7, h => cases h; exact zcp
      | 8, h => cases h; exact zfm
      | k + 9, h => simp [xp_sv, xp_sl] at h
    · match k, h with
      | 0, h => cases h; exact r0
      | 1, h => cases h; exact r1
      | 2, h => cases h; exact r2
      | 3, h => cases h; exact r3
      | 4, h => cases h; exact r4
      | 5, h => cases h; exact r5
      | 6, h => cases h; exact r6
      | 7, h => cases h; exact r7
      | 8, h => cases h; exact r8
      | 9, h => cases h; exact r9
      | 10, h => cases h; exact r10
      | 11, h => cases h; exact r11
      | 12, h => cases h; exact r12
      | 13, h => cases h; exact r13
      | 14, h => cases h; exact r14
      | k + 15, h => simp [xp_sv, xp_tx] at h
    · rw [xp_sv_nw] at hw
      unfold xp_nw at hw
      have hw2 := List.mem_filter.mp hw
      exact ⟨hw2.2, va_Nw.of (xm_nwok_on hw2.2) (hts w hw2.1)⟩
    · have hq2 : q ∈ xp_pr := hq
      simp only [xp_pr, List.mem_cons, List.not_mem_nil, or_false] at hq2
      rcases hq2 with rfl | rfl | rfl | rfl | rfl | rfl | rfl | rfl | rfl | rfl | rfl | rfl
      · exact va_Nc.of (xs_hold hgv (i := 145) rfl)
      · exact va_Nc.of (xs_hold hgv (i := 146) rfl)
      · exact va_Nc.of (xs_hold hgv (i := 147) rfl)
      · exact va_Nc.of (xs_hold hgv (i := 148) rfl)
      · exact va_Nc.of (xs_hold hgv (i := 149) rfl)
      · exact va_Nc.of (xs_hold hgv (i := 150) rfl)
      · exact va_Nc.of (xs_hold hgv (i := 151) rfl)
      · exact va_Nc.of (xs_hold hgv (i := 152) rfl)
      · exact va_Nc.of (xs_hold hgv (i := 153) rfl)
      · exact va_Nc.of (xs_hold hgv (i := 154) rfl)
      · exact va_Nc.of (xs_hold hgv (i := 155) rfl)
      · exact va_Nc.of (xs_hold hgv (i := 156) rfl)
    · exact ⟨hst, vx_Zqof (xs_tb hts 7 128 (by decide +kernel)) (xs_tb hts 0 15 (by decide +kernel)) (xs_hold hgv (i := 157) rfl) hA, vx_Zqof (xs_tb hts 7 130 (by decide +kernel)) (xs_tb hts 0 15 (by decide +kernel)) (xs_hold hgv (i := 158) rfl) hA, xm_A2.of hov⟩
    · match k, h with
      | 0, h =>
        cases h
        obtain ⟨scr, y1, y2, y3, y4, y5⟩ := hX
        exact ⟨scr, y1, y2, y3, Nat.le_of_eq y4.symm, congrArg Nat.toInt32 y4, y5, Nat.not_le.mpr hbl⟩
      | 1, h => cases h; exact q0
      | 2, h => cases h; exact q1
      | 3, h => cases h; exact q2
      | 4, h => cases h; exact q3
      | 5, h => cases h; exact q4
      | 6, h => cases h; exact q5
      | 7, h => cases h; exact q6
      | k + 8, h => simp [xp_sv, xp_ro] at h
    · match k, h with
      | 0, h => cases h; exact k0
      | 1, h => cases h; exact k1
      | 2, h => cases h; exact k2
      | 3, h => cases h; exact k3
      | k + 4, h => simp [xp_sv, xp_li] at h
  have C : xm_C p l room_1 s m #[Value.ref b] meth c cL_law 600128 7301098 (dC, dI) vwCl ac RL xp_TB false xp_fty (some .boolean) s.heap (xp_sv ad as (b, L, xs)) :=
    ⟨hx, hb, hown, hTB, hK, hlocks, hr, fun h => (by cases h), Nat.le_refl _, Nat.le_refl _, hsv, ⟨Nat.le_refl _, fun _ _ => rfl⟩, xs_cl⟩
  have htab : xm_tabk c (xp_sv ad as (b, L, xs)) xp_TB RL [] := ⟨by
    cases ht : c.exceptionTable.toList with
    | nil => rfl
    | cons a r => exact (hemp a (by rw [ht]; exact List.mem_cons_self)).elim, fun _ h => by cases h⟩
  have hW := HO ac ad as (xm_W p l e room_1 s m #[Value.ref b] below meth c 8 (dC, dI) vwCl s.heap 600128 7301098 (fun r _ => r = .inl (some (.int 1)))) (fun pc L' st h rc rs hG =>
    xm_stepG C hml htab hgood (xp_mok ad as (b, L, xs)) xs_df (d := 1000) (fun x as' h mc ms q hM => xm_sound l hgood (xp_mok ad as (b, L, xs)) xs_df xs_cl 1000 x as' h mc ms q hM) (by decide) (by decide)
      (fun q hq => xm_tab_ok (xk_L_ok ad as (b, L, xs)) xt_is (fun _ h => absurd h List.not_mem_nil) vc_L_law pc q hq) hG)
  rw [lg_entry_eq]
  have hW2 := hW _ s.heap [] 0 0 (xm_st_lo (vs := [Value.ref b]) (Nat.le_of_ble_eq_true rfl) (Nat.le_of_ble_eq_true rfl)) ⟨rfl, fun a x h => by
      rw [xh_at] at h
      by_cases hlt : a < s.heap.size
      · rw [if_pos hlt] at h; cases h
      · rw [if_neg hlt] at h; simp at h, Nat.le_refl _, fun _ _ => rfl⟩ (fun _ h => by cases h) (Nat.zero_add _) (Nat.zero_add _)
  intro T hT X
  obtain ⟨t, a1, o, b1, b2, b3⟩ := hW2 T hT X
  refine ⟨t, a1, o, b1, b2, ?_⟩
  rcases b3 with ⟨⟨v, h, rfl, hp, -⟩, L', hF, hL'⟩ | ⟨q, rfl, E, ce, L', ⟨h, hp, -⟩, -⟩
  · have hv : v = some (.int 1) := Sum.inl.inj hp
    subst hv
    exact ⟨rfl, ⟨_, rfl⟩, hF.2.1, hF.2.2.weaken (fun y hy hlt => absurd hlt (Nat.not_lt.mpr (hL' y hy))) (Nat.le_refl _) (Nat.le_refl _)⟩
  · cases hp
