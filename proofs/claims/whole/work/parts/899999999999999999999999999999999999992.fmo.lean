/-! FORM: the reference's numbers, in its matrices -/
section FMO
variable {d : Nat} {M : mm_M} {g : Nat → Int64}
set_option maxRecDepth 100000 in
theorem ld_l186 {P : am_Q} {X : am_X} {a : Nat} (hX : am_K d false nm_X12_load P X) (ha : a + 5 ≤ 20) (hP : P (.inl none) (mm_l M 118 (fun j => if j < 5 then M.2 186 (a + j) else M.2 118 j))) : ∀ (m i : Nat), i + m = 5 → X 2 [some (aR 108), some (aR 186), some (aI (nI a)), some (aI (nI i))] [] (mm_l M 118 (fun j => if j < i then M.2 186 (a + j) else M.2 118 j)) := by
  intro m
  induction m with
  | zero =>
    intro i hi
    have hi : i = 5 := by omega
    subst hi
    refine am_run hX 4 _ _ _ _ ?_
    conv => whnf
    refine ⟨fun _ => ?_, fun c => absurd (by decide) c⟩
    conv => whnf
    exact ⟨trivial, hP⟩
  | succ m ih =>
    intro i hi
    refine am_run hX 3 _ _ _ _ ?_
    conv => whnf
    refine ⟨fun c => absurd c (nI_ge (a := i) (b := 5) (by omega) (by decide)), fun _ => ?_⟩
    refine am_run hX 11 _ _ _ _ ?_
    conv => whnf
    rw [nI_add]
    refine ⟨vp_in_nI (by show _ < 20; omega) (by decide), ?_⟩
    conv => whnf
    refine ⟨vp_in_nI (by show _ < 5; omega) (by decide), ?_⟩
    conv => whnf
    rw [nI_clamp (n := i) (by omega), nI_clamp (n := a + i) (by omega), nI_1, mm_l2, mm_ll, mm_lne _ 118 186 _ (by decide)]
    have e : vp_updL (fun j => if j < i then M.2 186 (a + j) else M.2 118 j) i (M.2 186 (a + i)) = fun j => if j < i + 1 then M.2 186 (a + j) else M.2 118 j := by
      funext j
      unfold vp_updL
      by_cases h : j = i
      · rw [if_pos h, if_pos (by omega), h]
      · rw [if_neg h]
        dsimp only
        by_cases h2 : j < i
        · rw [if_pos h2, if_pos (by omega)]
        · rw [if_neg h2, if_neg (by omega)]
    rw [e]
    exact ih (i + 1) (by omega)
set_option maxRecDepth 100000 in
theorem ct_load186 {a : Nat} (ha : a + 5 ≤ 20) : am_M (d + 1) false nm_X12_load [aR 108, aR 186, aI (nI a)] M (am_q0 (mm_l M 118 (fun j => if j < 5 then M.2 186 (a + j) else M.2 118 j))) := by
  refine ⟨rfl, rfl, rfl, fun X hX => am_run hX 2 _ _ _ _ ?_⟩
  conv => whnf
  have key := ld_l186 (M := M) (a := a) hX ha ⟨rfl, rfl⟩ 5 0 (by omega)
  have e : (fun j => if j < 0 then M.2 186 (a + j) else M.2 118 j) = M.2 118 := by
    funext j
    rw [if_neg (by omega)]
  rw [e, mm_lz] at key
  exact key
theorem ct_ld186 {a k : Nat} {x : R4} (ha : a + 5 ≤ 20) (h : at5 (M.2 186) a x k) : am_M (d + 1) false nm_X12_load [aR 108, aR 186, aI (nI a)] M (am_q0 (mm_l M 118 (ov (M.2 118) x k))) := by
  obtain ⟨h0, h1, h2, h3, h4⟩ := h
  rw [← ov_of (g := M.2 118) h0 h1 h2 h3 h4]
  exact ct_load186 ha
set_option maxRecDepth 100000 in
theorem st_l186 {P : am_Q} {X : am_X} {a : Nat} (hX : am_K d false nm_X12_store P X) (ha : a + 5 ≤ 20) (hP : P (.inl none) (mm_l M 186 (sv (M.2 186) a (M.2 118)))) : ∀ (m i : Nat), i + m = 5 → X 2 [some (aR 108), some (aR 186), some (aI (nI a)), some (aI (nI i))] [] (mm_l M 186 (fun j => if a ≤ j ∧ j < a + i then M.2 118 (j - a) else M.2 186 j)) := by
  intro m
  induction m with
  | zero =>
    intro i hi
    have hi : i = 5 := by omega
    subst hi
    refine am_run hX 4 _ _ _ _ ?_
    conv => whnf
    refine ⟨fun _ => ?_, fun c => absurd (by decide) c⟩
    conv => whnf
    exact ⟨trivial, hP⟩
  | succ m ih =>
    intro i hi
    refine am_run hX 3 _ _ _ _ ?_
    conv => whnf
    refine ⟨fun c => absurd c (nI_ge (a := i) (b := 5) (by omega) (by decide)), fun _ => ?_⟩
    refine am_run hX 11 _ _ _ _ ?_
    conv => whnf
    refine ⟨vp_in_nI (by show _ < 5; omega) (by decide), ?_⟩
    conv => whnf
    rw [nI_add]
    refine ⟨vp_in_nI (by show _ < 20; omega) (by decide), ?_⟩
    conv => whnf
    rw [nI_clamp (n := i) (by omega), nI_clamp (n := a + i) (by omega), nI_1, mm_l2, mm_ll, mm_lne _ 186 118 _ (by decide)]
    have e : vp_updL (fun j => if a ≤ j ∧ j < a + i then M.2 118 (j - a) else M.2 186 j) (a + i) (M.2 118 i) = fun j => if a ≤ j ∧ j < a + (i + 1) then M.2 118 (j - a) else M.2 186 j := by
      funext j
      unfold vp_updL
      by_cases h : j = a + i
      · rw [if_pos h, if_pos (by omega), h, Nat.add_sub_cancel_left]
      · rw [if_neg h]
        dsimp only
        by_cases h2 : a ≤ j ∧ j < a + i
        · rw [if_pos h2, if_pos (by omega)]
        · rw [if_neg h2, if_neg (by omega)]
    rw [e]
    exact ih (i + 1) (by omega)
set_option maxRecDepth 100000 in
theorem ct_store186 {a : Nat} (ha : a + 5 ≤ 20) : am_M (d + 1) false nm_X12_store [aR 108, aR 186, aI (nI a)] M (am_q0 (mm_l M 186 (sv (M.2 186) a (M.2 118)))) := by
  refine ⟨rfl, rfl, rfl, fun X hX => am_run hX 2 _ _ _ _ ?_⟩
  conv => whnf
  have key := st_l186 (M := M) (a := a) hX ha ⟨rfl, rfl⟩ 5 0 (by omega)
  have e : (fun j => if a ≤ j ∧ j < a + 0 then M.2 118 (j - a) else M.2 186 j) = M.2 186 := by
    funext j
    rw [if_neg (by omega)]
  rw [e, mm_lz] at key
  exact key
set_option maxRecDepth 100000 in
theorem ct_mul186 {a k l : Nat} {x y : R4} (ha : a + 5 ≤ 20) (hk : k < 2 ^ 30) (hl : l < 2 ^ 30) (h : at5 (M.2 186) a y l) (hb : bd (mu x y)) : am_M (d + 2) false nm_X12_multiply [aR 108, aR 186, aI (nI a)] (mm_l M 118 (ov g x k)) (am_q0 (mm_l M 118 (ov g (red (k + l) (mu x y)).1 (red (k + l) (mu x y)).2))) := by
  obtain ⟨h0, h1, h2, h3, h4⟩ := h
  have e1 : nI a + 1 = nI (a + 1) := nI_1 a
  have e2 : nI a + 2 = nI (a + 2) := by rw [show (2 : Int32) = nI 2 from rfl, nI_add]
  have e3 : nI a + 3 = nI (a + 3) := by rw [show (3 : Int32) = nI 3 from rfl, nI_add]
  have e4 : nI a + 4 = nI (a + 4) := by rw [show (4 : Int32) = nI 4 from rfl, nI_add]
  refine ⟨rfl, rfl, rfl, fun X hX => am_run hX 200 _ _ _ _ ?_⟩
  conv => whnf
  refine ⟨by first | exact i5_0 | exact i5_1 | exact i5_2 | exact i5_3 | exact i5_4 | exact i5_01 | exact i5_02 | exact i5_03 | exact i5_04 | exact i4_0 | exact i4_1 | exact i4_2 | exact i4_3 | exact i5_11 | exact i5_111 | decide, ?_⟩
  conv => whnf
  refine ⟨by first | exact i5_0 | exact i5_1 | exact i5_2 | exact i5_3 | exact i5_4 | exact i5_01 | exact i5_02 | exact i5_03 | exact i5_04 | exact i4_0 | exact i4_1 | exact i4_2 | exact i4_3 | exact i5_11 | exact i5_111 | decide, ?_⟩
  conv => whnf
  refine ⟨by first | exact i5_0 | exact i5_1 | exact i5_2 | exact i5_3 | exact i5_4 | exact i5_01 | exact i5_02 | exact i5_03 | exact i5_04 | exact i4_0 | exact i4_1 | exact i4_2 | exact i4_3 | exact i5_11 | exact i5_111 | decide, ?_⟩
  conv => whnf
  refine ⟨by first | exact i5_0 | exact i5_1 | exact i5_2 | exact i5_3 | exact i5_4 | exact i5_01 | exact i5_02 | exact i5_03 | exact i5_04 | exact i4_0 | exact i4_1 | exact i4_2 | exact i4_3 | exact i5_11 | exact i5_111 | decide, ?_⟩
  conv => whnf
  refine ⟨vp_in_nI (by show _ < 20; omega) (by decide), ?_⟩
  conv => whnf
  rw [e1]
  refine ⟨vp_in_nI (by show _ < 20; omega) (by decide), ?_⟩
  conv => whnf
  rw [e2]
  refine ⟨vp_in_nI (by show _ < 20; omega) (by decide), ?_⟩
  conv => whnf
  rw [e3]
  refine ⟨vp_in_nI (by show _ < 20; omega) (by decide), ?_⟩
  conv => whnf
  rw [nI_clamp (n := a) (by omega), nI_clamp (n := a + 1) (by omega), nI_clamp (n := a + 2) (by omega), nI_clamp (n := a + 3) (by omega)]
  simp only [mm_l2, k_0, k_1, k_2, k_3, k_4, k0_1, k0_2, k0_3, k0_4, ov_0, ov_1, ov_2, ov_3, ov_4, mm_lne _ 118 186 _ (by decide), h0, h1, h2, h3, lI_mul, lI_add, lI_sub]
  refine ⟨by first | exact i5_0 | exact i5_1 | exact i5_2 | exact i5_3 | exact i5_4 | exact i5_01 | exact i5_02 | exact i5_03 | exact i5_04 | exact i4_0 | exact i4_1 | exact i4_2 | exact i4_3 | exact i5_11 | exact i5_111 | decide, ?_⟩
  conv => whnf
  refine ⟨by first | exact i5_0 | exact i5_1 | exact i5_2 | exact i5_3 | exact i5_4 | exact i5_01 | exact i5_02 | exact i5_03 | exact i5_04 | exact i4_0 | exact i4_1 | exact i4_2 | exact i4_3 | exact i5_11 | exact i5_111 | decide, ?_⟩
  conv => whnf
  refine ⟨by first | exact i5_0 | exact i5_1 | exact i5_2 | exact i5_3 | exact i5_4 | exact i5_01 | exact i5_02 | exact i5_03 | exact i5_04 | exact i4_0 | exact i4_1 | exact i4_2 | exact i4_3 | exact i5_11 | exact i5_111 | decide, ?_⟩
  conv => whnf
  refine ⟨by first | exact i5_0 | exact i5_1 | exact i5_2 | exact i5_3 | exact i5_4 | exact i5_01 | exact i5_02 | exact i5_03 | exact i5_04 | exact i4_0 | exact i4_1 | exact i4_2 | exact i4_3 | exact i5_11 | exact i5_111 | decide, ?_⟩
  conv => whnf
  refine ⟨by first | exact i5_0 | exact i5_1 | exact i5_2 | exact i5_3 | exact i5_4 | exact i5_01 | exact i5_02 | exact i5_03 | exact i5_04 | exact i4_0 | exact i4_1 | exact i4_2 | exact i4_3 | exact i5_11 | exact i5_111 | decide, ?_⟩
  conv => whnf
  rw [e4]
  refine ⟨vp_in_nI (by show _ < 20; omega) (by decide), ?_⟩
  conv => whnf
  refine ⟨by first | exact i5_0 | exact i5_1 | exact i5_2 | exact i5_3 | exact i5_4 | exact i5_01 | exact i5_02 | exact i5_03 | exact i5_04 | exact i4_0 | exact i4_1 | exact i4_2 | exact i4_3 | exact i5_11 | exact i5_111 | decide, ?_⟩
  conv => whnf
  rw [nI_clamp (n := a + 4) (by omega)]
  simp only [mm_l2, mm_ll, k_0, k_1, k_2, k_3, k_4, k0_1, k0_2, k0_3, k0_4, ov_0, ov_1, ov_2, ov_3, ov_4, mm_lne _ 118 186 _ (by decide), h4, lI_mul, lI_sub, lI_add, ov_u0, ov_u1, ov_u2, ov_u3]
  rw [show ((k : Nat) : Int) + ((l : Nat) : Int) = ((k + l : Nat) : Int) by omega, ov_u4]
  refine am_c0 (ct_red (d := d) (x := mu x y) (by omega) hb) ?_
  conv => whnf
  exact ⟨trivial, rfl, rfl⟩
set_option maxRecDepth 100000 in
theorem ad_l186 {P : am_Q} {X : am_X} {a : Nat} {s : Int32} (hX : am_K d false nm_X12_add P X) (ha : a + 5 ≤ 20) (hP : X 28 [some (aR 108), some (aR 186), some (aI (nI a)), some (aI s), some (aI (nI 5))] [] (mm_l M 119 (fun j => if j < 5 then M.2 186 (a + j) else M.2 119 j))) : ∀ (m i : Nat), i + m = 5 → X 3 [some (aR 108), some (aR 186), some (aI (nI a)), some (aI s), some (aI (nI i))] [] (mm_l M 119 (fun j => if j < i then M.2 186 (a + j) else M.2 119 j)) := by
  intro m
  induction m with
  | zero =>
    intro i hi
    have hi : i = 5 := by omega
    subst hi
    refine am_run hX 3 _ _ _ _ ?_
    conv => whnf
    refine ⟨fun _ => ?_, fun c => absurd (by decide) c⟩
    exact hP
  | succ m ih =>
    intro i hi
    refine am_run hX 3 _ _ _ _ ?_
    conv => whnf
    refine ⟨fun c => absurd c (nI_ge (a := i) (b := 5) (by omega) (by decide)), fun _ => ?_⟩
    refine am_run hX 11 _ _ _ _ ?_
    conv => whnf
    rw [nI_add]
    refine ⟨vp_in_nI (by show _ < 20; omega) (by decide), ?_⟩
    conv => whnf
    refine ⟨vp_in_nI (by show _ < 5; omega) (by decide), ?_⟩
    conv => whnf
    rw [nI_clamp (n := i) (by omega), nI_clamp (n := a + i) (by omega), nI_1, mm_l2, mm_ll, mm_lne _ 119 186 _ (by decide)]
    have e : vp_updL (fun j => if j < i then M.2 186 (a + j) else M.2 119 j) i (M.2 186 (a + i)) = fun j => if j < i + 1 then M.2 186 (a + j) else M.2 119 j := by
      funext j
      unfold vp_updL
      by_cases h : j = i
      · rw [if_pos h, if_pos (by omega), h]
      · rw [if_neg h]
        dsimp only
        by_cases h2 : j < i
        · rw [if_pos h2, if_pos (by omega)]
        · rw [if_neg h2, if_neg (by omega)]
    rw [e]
    exact ih (i + 1) (by omega)
set_option maxRecDepth 100000 in
theorem ct_add186p {a k l : Nat} {x y : R4} (ha : a + 5 ≤ 20) (hk : k < 2 ^ 30) (hl : l < 2 ^ 30) (h : at5 (M.2 186) a y l) (hb : bd (rsum k x l (y))) : am_M (d + 2) false nm_X12_add [aR 108, aR 186, aI (nI a), aI 1] (mm_l M 118 (ov g x k)) (am_q0 (mm_l (mm_l M 119 (ov (M.2 119) (rn (max k l - l) y) (max k l))) 118 (ov g (red (max k l) (rsum k x l (y))).1 (red (max k l) (rsum k x l (y))).2))) := by
  obtain ⟨h0, h1, h2, h3, h4⟩ := h
  have em : max l k = max k l := Nat.max_comm l k
  have em2 : max k (max l k) = max k l := by omega
  refine ⟨rfl, rfl, rfl, fun X hX => am_run hX 2 _ _ _ _ ?_⟩
  conv => whnf
  have key := ad_l186 (M := mm_l M 118 (ov g x k)) (a := a) (s := 1) hX ha ?_ 5 0 (by omega)
  · have e : (fun j => if j < 0 then (mm_l M 118 (ov g x k)).2 186 (a + j) else (mm_l M 118 (ov g x k)).2 119 j) = (mm_l M 118 (ov g x k)).2 119 := by
      funext j
      rw [if_neg (by omega)]
    rw [e, mm_lz] at key
    exact key
  · rw [mm_lne _ 118 186 _ (by decide), mm_lne _ 118 119 _ (by decide), ov_of (g := M.2 119) h0 h1 h2 h3 h4]
    refine am_run hX 200 _ _ _ _ ?_
    conv => whnf
    refine ⟨by first | exact i5_0 | exact i5_1 | exact i5_2 | exact i5_3 | exact i5_4 | exact i5_01 | exact i5_02 | exact i5_03 | exact i5_04 | exact i4_0 | exact i4_1 | exact i4_2 | exact i4_3 | exact i5_11 | exact i5_111 | decide, ?_⟩
    conv => whnf
    simp only [k_4, mm_lne _ 119 118 _ (by decide), mm_l2, ov_4]
    refine am_c0 (ct_raise119 (d := d) (p := k) (by omega) (by omega)) ?_
    try simp only [List.drop_succ_cons, List.drop_zero, List.append_eq, List.nil_append, List.append_nil]
    conv => whnf
    refine ⟨by first | exact i5_0 | exact i5_1 | exact i5_2 | exact i5_3 | exact i5_4 | exact i5_01 | exact i5_02 | exact i5_03 | exact i5_04 | exact i4_0 | exact i4_1 | exact i4_2 | exact i4_3 | exact i5_11 | exact i5_111 | decide, ?_⟩
    conv => whnf
    simp only [k_4, mm_l2, ov_4]
    rw [mm_lc M 118 119 _ _ (by decide)]
    refine am_c0 (ct_raise118 (d := d) (p := max l k) (by omega) (by omega)) ?_
    try simp only [List.drop_succ_cons, List.drop_zero, List.append_eq, List.nil_append, List.append_nil]
    rw [em2, em]
    conv => whnf
    refine ⟨fun c => absurd c (by decide), fun _ => ?_⟩
    conv => whnf
    refine ⟨by first | exact i5_0 | exact i5_1 | exact i5_2 | exact i5_3 | exact i5_4 | exact i5_01 | exact i5_02 | exact i5_03 | exact i5_04 | exact i4_0 | exact i4_1 | exact i4_2 | exact i4_3 | exact i5_11 | exact i5_111 | decide, ?_⟩
    conv => whnf
    refine ⟨by first | exact i5_0 | exact i5_1 | exact i5_2 | exact i5_3 | exact i5_4 | exact i5_01 | exact i5_02 | exact i5_03 | exact i5_04 | exact i4_0 | exact i4_1 | exact i4_2 | exact i4_3 | exact i5_11 | exact i5_111 | decide, ?_⟩
    conv => whnf
    refine ⟨by first | exact i5_0 | exact i5_1 | exact i5_2 | exact i5_3 | exact i5_4 | exact i5_01 | exact i5_02 | exact i5_03 | exact i5_04 | exact i4_0 | exact i4_1 | exact i4_2 | exact i4_3 | exact i5_11 | exact i5_111 | decide, ?_⟩
    conv => whnf
    refine ⟨fun c => absurd c (by decide), fun _ => ?_⟩
    conv => whnf
    refine ⟨by first | exact i5_0 | exact i5_1 | exact i5_2 | exact i5_3 | exact i5_4 | exact i5_01 | exact i5_02 | exact i5_03 | exact i5_04 | exact i4_0 | exact i4_1 | exact i4_2 | exact i4_3 | exact i5_11 | exact i5_111 | decide, ?_⟩
    conv => whnf
    refine ⟨by first | exact i5_0 | exact i5_1 | exact i5_2 | exact i5_3 | exact i5_4 | exact i5_01 | exact i5_02 | exact i5_03 | exact i5_04 | exact i4_0 | exact i4_1 | exact i4_2 | exact i4_3 | exact i5_11 | exact i5_111 | decide, ?_⟩
    conv => whnf
    refine ⟨by first | exact i5_0 | exact i5_1 | exact i5_2 | exact i5_3 | exact i5_4 | exact i5_01 | exact i5_02 | exact i5_03 | exact i5_04 | exact i4_0 | exact i4_1 | exact i4_2 | exact i4_3 | exact i5_11 | exact i5_111 | decide, ?_⟩
    conv => whnf
    refine ⟨fun c => absurd c (by decide), fun _ => ?_⟩
    conv => whnf
    refine ⟨by first | exact i5_0 | exact i5_1 | exact i5_2 | exact i5_3 | exact i5_4 | exact i5_01 | exact i5_02 | exact i5_03 | exact i5_04 | exact i4_0 | exact i4_1 | exact i4_2 | exact i4_3 | exact i5_11 | exact i5_111 | decide, ?_⟩
    conv => whnf
    refine ⟨by first | exact i5_0 | exact i5_1 | exact i5_2 | exact i5_3 | exact i5_4 | exact i5_01 | exact i5_02 | exact i5_03 | exact i5_04 | exact i4_0 | exact i4_1 | exact i4_2 | exact i4_3 | exact i5_11 | exact i5_111 | decide, ?_⟩
    conv => whnf
    refine ⟨by first | exact i5_0 | exact i5_1 | exact i5_2 | exact i5_3 | exact i5_4 | exact i5_01 | exact i5_02 | exact i5_03 | exact i5_04 | exact i4_0 | exact i4_1 | exact i4_2 | exact i4_3 | exact i5_11 | exact i5_111 | decide, ?_⟩
    conv => whnf
    refine ⟨fun c => absurd c (by decide), fun _ => ?_⟩
    conv => whnf
    refine ⟨by first | exact i5_0 | exact i5_1 | exact i5_2 | exact i5_3 | exact i5_4 | exact i5_01 | exact i5_02 | exact i5_03 | exact i5_04 | exact i4_0 | exact i4_1 | exact i4_2 | exact i4_3 | exact i5_11 | exact i5_111 | decide, ?_⟩
    conv => whnf
    refine ⟨by first | exact i5_0 | exact i5_1 | exact i5_2 | exact i5_3 | exact i5_4 | exact i5_01 | exact i5_02 | exact i5_03 | exact i5_04 | exact i4_0 | exact i4_1 | exact i4_2 | exact i4_3 | exact i5_11 | exact i5_111 | decide, ?_⟩
    conv => whnf
    refine ⟨by first | exact i5_0 | exact i5_1 | exact i5_2 | exact i5_3 | exact i5_4 | exact i5_01 | exact i5_02 | exact i5_03 | exact i5_04 | exact i4_0 | exact i4_1 | exact i4_2 | exact i4_3 | exact i5_11 | exact i5_111 | decide, ?_⟩
    conv => whnf
    refine ⟨fun _ => ?_, fun c => absurd (by decide) c⟩
    conv => whnf
    simp only [mm_l2, mm_ll, mm_lne _ 118 119 _ (by decide), k_0, k_1, k_2, k_3, k_4, k0_1, k0_2, k0_3, k0_4, k0_11, k0_111, ov_0, ov_1, ov_2, ov_3, ov_4, s_p, s_m, lI_mul, Int.one_mul, lI_add, ov_u0, ov_u1, ov_u2, ov_u3]
    refine am_c0 (ct_red (d := d) (M := mm_l M 119 (ov (M.2 119) (rn (max k l - l) y) (max k l))) (g := g) (x := rsum k x l y) (k := max k l) (by omega) hb) ?_
    conv => whnf
    exact ⟨trivial, rfl, rfl⟩
set_option maxRecDepth 100000 in
theorem ct_add186m {a k l : Nat} {x y : R4} (ha : a + 5 ≤ 20) (hk : k < 2 ^ 30) (hl : l < 2 ^ 30) (h : at5 (M.2 186) a y l) (hb : bd (rsum k x l (ng y))) : am_M (d + 2) false nm_X12_add [aR 108, aR 186, aI (nI a), aI (-1)] (mm_l M 118 (ov g x k)) (am_q0 (mm_l (mm_l M 119 (ov (M.2 119) (rn (max k l - l) y) (max k l))) 118 (ov g (red (max k l) (rsum k x l (ng y))).1 (red (max k l) (rsum k x l (ng y))).2))) := by
  unfold rsum at *
  rw [ng_rn] at *
  obtain ⟨h0, h1, h2, h3, h4⟩ := h
  have em : max l k = max k l := Nat.max_comm l k
  have em2 : max k (max l k) = max k l := by omega
  refine ⟨rfl, rfl, rfl, fun X hX => am_run hX 2 _ _ _ _ ?_⟩
  conv => whnf
  have key := ad_l186 (M := mm_l M 118 (ov g x k)) (a := a) (s := (-1)) hX ha ?_ 5 0 (by omega)
  · have e : (fun j => if j < 0 then (mm_l M 118 (ov g x k)).2 186 (a + j) else (mm_l M 118 (ov g x k)).2 119 j) = (mm_l M 118 (ov g x k)).2 119 := by
      funext j
      rw [if_neg (by omega)]
    rw [e, mm_lz] at key
    exact key
  · rw [mm_lne _ 118 186 _ (by decide), mm_lne _ 118 119 _ (by decide), ov_of (g := M.2 119) h0 h1 h2 h3 h4]
    refine am_run hX 200 _ _ _ _ ?_
    conv => whnf
    refine ⟨by first | exact i5_0 | exact i5_1 | exact i5_2 | exact i5_3 | exact i5_4 | exact i5_01 | exact i5_02 | exact i5_03 | exact i5_04 | exact i4_0 | exact i4_1 | exact i4_2 | exact i4_3 | exact i5_11 | exact i5_111 | decide, ?_⟩
    conv => whnf
    simp only [k_4, mm_lne _ 119 118 _ (by decide), mm_l2, ov_4]
    refine am_c0 (ct_raise119 (d := d) (p := k) (by omega) (by omega)) ?_
    try simp only [List.drop_succ_cons, List.drop_zero, List.append_eq, List.nil_append, List.append_nil]
    conv => whnf
    refine ⟨by first | exact i5_0 | exact i5_1 | exact i5_2 | exact i5_3 | exact i5_4 | exact i5_01 | exact i5_02 | exact i5_03 | exact i5_04 | exact i4_0 | exact i4_1 | exact i4_2 | exact i4_3 | exact i5_11 | exact i5_111 | decide, ?_⟩
    conv => whnf
    simp only [k_4, mm_l2, ov_4]
    rw [mm_lc M 118 119 _ _ (by decide)]
    refine am_c0 (ct_raise118 (d := d) (p := max l k) (by omega) (by omega)) ?_
    try simp only [List.drop_succ_cons, List.drop_zero, List.append_eq, List.nil_append, List.append_nil]
    rw [em2, em]
    conv => whnf
    refine ⟨fun c => absurd c (by decide), fun _ => ?_⟩
    conv => whnf
    refine ⟨by first | exact i5_0 | exact i5_1 | exact i5_2 | exact i5_3 | exact i5_4 | exact i5_01 | exact i5_02 | exact i5_03 | exact i5_04 | exact i4_0 | exact i4_1 | exact i4_2 | exact i4_3 | exact i5_11 | exact i5_111 | decide, ?_⟩
    conv => whnf
    refine ⟨by first | exact i5_0 | exact i5_1 | exact i5_2 | exact i5_3 | exact i5_4 | exact i5_01 | exact i5_02 | exact i5_03 | exact i5_04 | exact i4_0 | exact i4_1 | exact i4_2 | exact i4_3 | exact i5_11 | exact i5_111 | decide, ?_⟩
    conv => whnf
    refine ⟨by first | exact i5_0 | exact i5_1 | exact i5_2 | exact i5_3 | exact i5_4 | exact i5_01 | exact i5_02 | exact i5_03 | exact i5_04 | exact i4_0 | exact i4_1 | exact i4_2 | exact i4_3 | exact i5_11 | exact i5_111 | decide, ?_⟩
    conv => whnf
    refine ⟨fun c => absurd c (by decide), fun _ => ?_⟩
    conv => whnf
    refine ⟨by first | exact i5_0 | exact i5_1 | exact i5_2 | exact i5_3 | exact i5_4 | exact i5_01 | exact i5_02 | exact i5_03 | exact i5_04 | exact i4_0 | exact i4_1 | exact i4_2 | exact i4_3 | exact i5_11 | exact i5_111 | decide, ?_⟩
    conv => whnf
    refine ⟨by first | exact i5_0 | exact i5_1 | exact i5_2 | exact i5_3 | exact i5_4 | exact i5_01 | exact i5_02 | exact i5_03 | exact i5_04 | exact i4_0 | exact i4_1 | exact i4_2 | exact i4_3 | exact i5_11 | exact i5_111 | decide, ?_⟩
    conv => whnf
    refine ⟨by first | exact i5_0 | exact i5_1 | exact i5_2 | exact i5_3 | exact i5_4 | exact i5_01 | exact i5_02 | exact i5_03 | exact i5_04 | exact i4_0 | exact i4_1 | exact i4_2 | exact i4_3 | exact i5_11 | exact i5_111 | decide, ?_⟩
    conv => whnf
    refine ⟨fun c => absurd c (by decide), fun _ => ?_⟩
    conv => whnf
    refine ⟨by first | exact i5_0 | exact i5_1 | exact i5_2 | exact i5_3 | exact i5_4 | exact i5_01 | exact i5_02 | exact i5_03 | exact i5_04 | exact i4_0 | exact i4_1 | exact i4_2 | exact i4_3 | exact i5_11 | exact i5_111 | decide, ?_⟩
    conv => whnf
    refine ⟨by first | exact i5_0 | exact i5_1 | exact i5_2 | exact i5_3 | exact i5_4 | exact i5_01 | exact i5_02 | exact i5_03 | exact i5_04 | exact i4_0 | exact i4_1 | exact i4_2 | exact i4_3 | exact i5_11 | exact i5_111 | decide, ?_⟩
    conv => whnf
    refine ⟨by first | exact i5_0 | exact i5_1 | exact i5_2 | exact i5_3 | exact i5_4 | exact i5_01 | exact i5_02 | exact i5_03 | exact i5_04 | exact i4_0 | exact i4_1 | exact i4_2 | exact i4_3 | exact i5_11 | exact i5_111 | decide, ?_⟩
    conv => whnf
    refine ⟨fun c => absurd c (by decide), fun _ => ?_⟩
    conv => whnf
    refine ⟨by first | exact i5_0 | exact i5_1 | exact i5_2 | exact i5_3 | exact i5_4 | exact i5_01 | exact i5_02 | exact i5_03 | exact i5_04 | exact i4_0 | exact i4_1 | exact i4_2 | exact i4_3 | exact i5_11 | exact i5_111 | decide, ?_⟩
    conv => whnf
    refine ⟨by first | exact i5_0 | exact i5_1 | exact i5_2 | exact i5_3 | exact i5_4 | exact i5_01 | exact i5_02 | exact i5_03 | exact i5_04 | exact i4_0 | exact i4_1 | exact i4_2 | exact i4_3 | exact i5_11 | exact i5_111 | decide, ?_⟩
    conv => whnf
    refine ⟨by first | exact i5_0 | exact i5_1 | exact i5_2 | exact i5_3 | exact i5_4 | exact i5_01 | exact i5_02 | exact i5_03 | exact i5_04 | exact i4_0 | exact i4_1 | exact i4_2 | exact i4_3 | exact i5_11 | exact i5_111 | decide, ?_⟩
    conv => whnf
    refine ⟨fun _ => ?_, fun c => absurd (by decide) c⟩
    conv => whnf
    simp only [mm_l2, mm_ll, mm_lne _ 118 119 _ (by decide), k_0, k_1, k_2, k_3, k_4, k0_1, k0_2, k0_3, k0_4, k0_11, k0_111, ov_0, ov_1, ov_2, ov_3, ov_4, s_p, s_m, lI_mul, Int.neg_mul, Int.one_mul, lI_add, ov_u0, ov_u1, ov_u2, ov_u3]
    refine am_c0 (ct_red (d := d) (M := mm_l M 119 (ov (M.2 119) (rn (max k l - l) y) (max k l))) (g := g) (x := ra (rn (max k l - k) x) (ng (rn (max k l - l) y))) (k := max k l) (by omega) hb) ?_
    conv => whnf
    exact ⟨trivial, rfl, rfl⟩
set_option maxRecDepth 100000 in
theorem ld_l187 {P : am_Q} {X : am_X} {a : Nat} (hX : am_K d false nm_X12_load P X) (ha : a + 5 ≤ 20) (hP : P (.inl none) (mm_l M 118 (fun j => if j < 5 then M.2 187 (a + j) else M.2 118 j))) : ∀ (m i : Nat), i + m = 5 → X 2 [some (aR 108), some (aR 187), some (aI (nI a)), some (aI (nI i))] [] (mm_l M 118 (fun j => if j < i then M.2 187 (a + j) else M.2 118 j)) := by
  intro m
  induction m with
  | zero =>
    intro i hi
    have hi : i = 5 := by omega
    subst hi
    refine am_run hX 4 _ _ _ _ ?_
    conv => whnf
    refine ⟨fun _ => ?_, fun c => absurd (by decide) c⟩
    conv => whnf
    exact ⟨trivial, hP⟩
  | succ m ih =>
    intro i hi
    refine am_run hX 3 _ _ _ _ ?_
    conv => whnf
    refine ⟨fun c => absurd c (nI_ge (a := i) (b := 5) (by omega) (by decide)), fun _ => ?_⟩
    refine am_run hX 11 _ _ _ _ ?_
    conv => whnf
    rw [nI_add]
    refine ⟨vp_in_nI (by show _ < 20; omega) (by decide), ?_⟩
    conv => whnf
    refine ⟨vp_in_nI (by show _ < 5; omega) (by decide), ?_⟩
    conv => whnf
    rw [nI_clamp (n := i) (by omega), nI_clamp (n := a + i) (by omega), nI_1, mm_l2, mm_ll, mm_lne _ 118 187 _ (by decide)]
    have e : vp_updL (fun j => if j < i then M.2 187 (a + j) else M.2 118 j) i (M.2 187 (a + i)) = fun j => if j < i + 1 then M.2 187 (a + j) else M.2 118 j := by
      funext j
      unfold vp_updL
      by_cases h : j = i
      · rw [if_pos h, if_pos (by omega), h]
      · rw [if_neg h]
        dsimp only
        by_cases h2 : j < i
        · rw [if_pos h2, if_pos (by omega)]
        · rw [if_neg h2, if_neg (by omega)]
    rw [e]
    exact ih (i + 1) (by omega)
set_option maxRecDepth 100000 in
theorem ct_load187 {a : Nat} (ha : a + 5 ≤ 20) : am_M (d + 1) false nm_X12_load [aR 108, aR 187, aI (nI a)] M (am_q0 (mm_l M 118 (fun j => if j < 5 then M.2 187 (a + j) else M.2 118 j))) := by
  refine ⟨rfl, rfl, rfl, fun X hX => am_run hX 2 _ _ _ _ ?_⟩
  conv => whnf
  have key := ld_l187 (M := M) (a := a) hX ha ⟨rfl, rfl⟩ 5 0 (by omega)
  have e : (fun j => if j < 0 then M.2 187 (a + j) else M.2 118 j) = M.2 118 := by
    funext j
    rw [if_neg (by omega)]
  rw [e, mm_lz] at key
  exact key
theorem ct_ld187 {a k : Nat} {x : R4} (ha : a + 5 ≤ 20) (h : at5 (M.2 187) a x k) : am_M (d + 1) false nm_X12_load [aR 108, aR 187, aI (nI a)] M (am_q0 (mm_l M 118 (ov (M.2 118) x k))) := by
  obtain ⟨h0, h1, h2, h3, h4⟩ := h
  rw [← ov_of (g := M.2 118) h0 h1 h2 h3 h4]
  exact ct_load187 ha
set_option maxRecDepth 100000 in
theorem st_l187 {P : am_Q} {X : am_X} {a : Nat} (hX : am_K d false nm_X12_store P X) (ha : a + 5 ≤ 20) (hP : P (.inl none) (mm_l M 187 (sv (M.2 187) a (M.2 118)))) : ∀ (m i : Nat), i + m = 5 → X 2 [some (aR 108), some (aR 187), some (aI (nI a)), some (aI (nI i))] [] (mm_l M 187 (fun j => if a ≤ j ∧ j < a + i then M.2 118 (j - a) else M.2 187 j)) := by
  intro m
  induction m with
  | zero =>
    intro i hi
    have hi : i = 5 := by omega
    subst hi
    refine am_run hX 4 _ _ _ _ ?_
    conv => whnf
    refine ⟨fun _ => ?_, fun c => absurd (by decide) c⟩
    conv => whnf
    exact ⟨trivial, hP⟩
  | succ m ih =>
    intro i hi
    refine am_run hX 3 _ _ _ _ ?_
    conv => whnf
    refine ⟨fun c => absurd c (nI_ge (a := i) (b := 5) (by omega) (by decide)), fun _ => ?_⟩
    refine am_run hX 11 _ _ _ _ ?_
    conv => whnf
    refine ⟨vp_in_nI (by show _ < 5; omega) (by decide), ?_⟩
    conv => whnf
    rw [nI_add]
    refine ⟨vp_in_nI (by show _ < 20; omega) (by decide), ?_⟩
    conv => whnf
    rw [nI_clamp (n := i) (by omega), nI_clamp (n := a + i) (by omega), nI_1, mm_l2, mm_ll, mm_lne _ 187 118 _ (by decide)]
    have e : vp_updL (fun j => if a ≤ j ∧ j < a + i then M.2 118 (j - a) else M.2 187 j) (a + i) (M.2 118 i) = fun j => if a ≤ j ∧ j < a + (i + 1) then M.2 118 (j - a) else M.2 187 j := by
      funext j
      unfold vp_updL
      by_cases h : j = a + i
      · rw [if_pos h, if_pos (by omega), h, Nat.add_sub_cancel_left]
      · rw [if_neg h]
        dsimp only
        by_cases h2 : a ≤ j ∧ j < a + i
        · rw [if_pos h2, if_pos (by omega)]
        · rw [if_neg h2, if_neg (by omega)]
    rw [e]
    exact ih (i + 1) (by omega)
set_option maxRecDepth 100000 in
theorem ct_store187 {a : Nat} (ha : a + 5 ≤ 20) : am_M (d + 1) false nm_X12_store [aR 108, aR 187, aI (nI a)] M (am_q0 (mm_l M 187 (sv (M.2 187) a (M.2 118)))) := by
  refine ⟨rfl, rfl, rfl, fun X hX => am_run hX 2 _ _ _ _ ?_⟩
  conv => whnf
  have key := st_l187 (M := M) (a := a) hX ha ⟨rfl, rfl⟩ 5 0 (by omega)
  have e : (fun j => if a ≤ j ∧ j < a + 0 then M.2 118 (j - a) else M.2 187 j) = M.2 187 := by
    funext j
    rw [if_neg (by omega)]
  rw [e, mm_lz] at key
  exact key
set_option maxRecDepth 100000 in
theorem ct_mul187 {a k l : Nat} {x y : R4} (ha : a + 5 ≤ 20) (hk : k < 2 ^ 30) (hl : l < 2 ^ 30) (h : at5 (M.2 187) a y l) (hb : bd (mu x y)) : am_M (d + 2) false nm_X12_multiply [aR 108, aR 187, aI (nI a)] (mm_l M 118 (ov g x k)) (am_q0 (mm_l M 118 (ov g (red (k + l) (mu x y)).1 (red (k + l) (mu x y)).2))) := by
  obtain ⟨h0, h1, h2, h3, h4⟩ := h
  have e1 : nI a + 1 = nI (a + 1) := nI_1 a
  have e2 : nI a + 2 = nI (a + 2) := by rw [show (2 : Int32) = nI 2 from rfl, nI_add]
  have e3 : nI a + 3 = nI (a + 3) := by rw [show (3 : Int32) = nI 3 from rfl, nI_add]
  have e4 : nI a + 4 = nI (a + 4) := by rw [show (4 : Int32) = nI 4 from rfl, nI_add]
  refine ⟨rfl, rfl, rfl, fun X hX => am_run hX 200 _ _ _ _ ?_⟩
  conv => whnf
  refine ⟨by first | exact i5_0 | exact i5_1 | exact i5_2 | exact i5_3 | exact i5_4 | exact i5_01 | exact i5_02 | exact i5_03 | exact i5_04 | exact i4_0 | exact i4_1 | exact i4_2 | exact i4_3 | exact i5_11 | exact i5_111 | decide, ?_⟩
  conv => whnf
  refine ⟨by first | exact i5_0 | exact i5_1 | exact i5_2 | exact i5_3 | exact i5_4 | exact i5_01 | exact i5_02 | exact i5_03 | exact i5_04 | exact i4_0 | exact i4_1 | exact i4_2 | exact i4_3 | exact i5_11 | exact i5_111 | decide, ?_⟩
  conv => whnf
  refine ⟨by first | exact i5_0 | exact i5_1 | exact i5_2 | exact i5_3 | exact i5_4 | exact i5_01 | exact i5_02 | exact i5_03 | exact i5_04 | exact i4_0 | exact i4_1 | exact i4_2 | exact i4_3 | exact i5_11 | exact i5_111 | decide, ?_⟩
  conv => whnf
  refine ⟨by first | exact i5_0 | exact i5_1 | exact i5_2 | exact i5_3 | exact i5_4 | exact i5_01 | exact i5_02 | exact i5_03 | exact i5_04 | exact i4_0 | exact i4_1 | exact i4_2 | exact i4_3 | exact i5_11 | exact i5_111 | decide, ?_⟩
  conv => whnf
  refine ⟨vp_in_nI (by show _ < 20; omega) (by decide), ?_⟩
  conv => whnf
  rw [e1]
  refine ⟨vp_in_nI (by show _ < 20; omega) (by decide), ?_⟩
  conv => whnf
  rw [e2]
  refine ⟨vp_in_nI (by show _ < 20; omega) (by decide), ?_⟩
  conv => whnf
  rw [e3]
  refine ⟨vp_in_nI (by show _ < 20; omega) (by decide), ?_⟩
  conv => whnf
  rw [nI_clamp (n := a) (by omega), nI_clamp (n := a + 1) (by omega), nI_clamp (n := a + 2) (by omega), nI_clamp (n := a + 3) (by omega)]
  simp only [mm_l2, k_0, k_1, k_2, k_3, k_4, k0_1, k0_2, k0_3, k0_4, ov_0, ov_1, ov_2, ov_3, ov_4, mm_lne _ 118 187 _ (by decide), h0, h1, h2, h3, lI_mul, lI_add, lI_sub]
  refine ⟨by first | exact i5_0 | exact i5_1 | exact i5_2 | exact i5_3 | exact i5_4 | exact i5_01 | exact i5_02 | exact i5_03 | exact i5_04 | exact i4_0 | exact i4_1 | exact i4_2 | exact i4_3 | exact i5_11 | exact i5_111 | decide, ?_⟩
  conv => whnf
  refine ⟨by first | exact i5_0 | exact i5_1 | exact i5_2 | exact i5_3 | exact i5_4 | exact i5_01 | exact i5_02 | exact i5_03 | exact i5_04 | exact i4_0 | exact i4_1 | exact i4_2 | exact i4_3 | exact i5_11 | exact i5_111 | decide, ?_⟩
  conv => whnf
  refine ⟨by first | exact i5_0 | exact i5_1 | exact i5_2 | exact i5_3 | exact i5_4 | exact i5_01 | exact i5_02 | exact i5_03 | exact i5_04 | exact i4_0 | exact i4_1 | exact i4_2 | exact i4_3 | exact i5_11 | exact i5_111 | decide, ?_⟩
  conv => whnf
  refine ⟨by first | exact i5_0 | exact i5_1 | exact i5_2 | exact i5_3 | exact i5_4 | exact i5_01 | exact i5_02 | exact i5_03 | exact i5_04 | exact i4_0 | exact i4_1 | exact i4_2 | exact i4_3 | exact i5_11 | exact i5_111 | decide, ?_⟩
  conv => whnf
  refine ⟨by first | exact i5_0 | exact i5_1 | exact i5_2 | exact i5_3 | exact i5_4 | exact i5_01 | exact i5_02 | exact i5_03 | exact i5_04 | exact i4_0 | exact i4_1 | exact i4_2 | exact i4_3 | exact i5_11 | exact i5_111 | decide, ?_⟩
  conv => whnf
  rw [e4]
  refine ⟨vp_in_nI (by show _ < 20; omega) (by decide), ?_⟩
  conv => whnf
  refine ⟨by first | exact i5_0 | exact i5_1 | exact i5_2 | exact i5_3 | exact i5_4 | exact i5_01 | exact i5_02 | exact i5_03 | exact i5_04 | exact i4_0 | exact i4_1 | exact i4_2 | exact i4_3 | exact i5_11 | exact i5_111 | decide, ?_⟩
  conv => whnf
  rw [nI_clamp (n := a + 4) (by omega)]
  simp only [mm_l2, mm_ll, k_0, k_1, k_2, k_3, k_4, k0_1, k0_2, k0_3, k0_4, ov_0, ov_1, ov_2, ov_3, ov_4, mm_lne _ 118 187 _ (by decide), h4, lI_mul, lI_sub, lI_add, ov_u0, ov_u1, ov_u2, ov_u3]
  rw [show ((k : Nat) : Int) + ((l : Nat) : Int) = ((k + l : Nat) : Int) by omega, ov_u4]
  refine am_c0 (ct_red (d := d) (x := mu x y) (by omega) hb) ?_
  conv => whnf
  exact ⟨trivial, rfl, rfl⟩
set_option maxRecDepth 100000 in
theorem ad_l187 {P : am_Q} {X : am_X} {a : Nat} {s : Int32} (hX : am_K d false nm_X12_add P X) (ha : a + 5 ≤ 20) (hP : X 28 [some (aR 108), some (aR 187), some (aI (nI a)), some (aI s), some (aI (nI 5))] [] (mm_l M 119 (fun j => if j < 5 then M.2 187 (a + j) else M.2 119 j))) : ∀ (m i : Nat), i + m = 5 → X 3 [some (aR 108), some (aR 187), some (aI (nI a)), some (aI s), some (aI (nI i))] [] (mm_l M 119 (fun j => if j < i then M.2 187 (a + j) else M.2 119 j)) := by
  intro m
  induction m with
  | zero =>
    intro i hi
    have hi : i = 5 := by omega
    subst hi
    refine am_run hX 3 _ _ _ _ ?_
    conv => whnf
    refine ⟨fun _ => ?_, fun c => absurd (by decide) c⟩
    exact hP
  | succ m ih =>
    intro i hi
    refine am_run hX 3 _ _ _ _ ?_
    conv => whnf
    refine ⟨fun c => absurd c (nI_ge (a := i) (b := 5) (by omega) (by decide)), fun _ => ?_⟩
    refine am_run hX 11 _ _ _ _ ?_
    conv => whnf
    rw [nI_add]
    refine ⟨vp_in_nI (by show _ < 20; omega) (by decide), ?_⟩
    conv => whnf
    refine ⟨vp_in_nI (by show _ < 5; omega) (by decide), ?_⟩
    conv => whnf
    rw [nI_clamp (n := i) (by omega), nI_clamp (n := a + i) (by omega), nI_1, mm_l2, mm_ll, mm_lne _ 119 187 _ (by decide)]
    have e : vp_updL (fun j => if j < i then M.2 187 (a + j) else M.2 119 j) i (M.2 187 (a + i)) = fun j => if j < i + 1 then M.2 187 (a + j) else M.2 119 j := by
      funext j
      unfold vp_updL
      by_cases h : j = i
      · rw [if_pos h, if_pos (by omega), h]
      · rw [if_neg h]
        dsimp only
        by_cases h2 : j < i
        · rw [if_pos h2, if_pos (by omega)]
        · rw [if_neg h2, if_neg (by omega)]
    rw [e]
    exact ih (i + 1) (by omega)
set_option maxRecDepth 100000 in
theorem ct_add187p {a k l : Nat} {x y : R4} (ha : a + 5 ≤ 20) (hk : k < 2 ^ 30) (hl : l < 2 ^ 30) (h : at5 (M.2 187) a y l) (hb : bd (rsum k x l (y))) : am_M (d + 2) false nm_X12_add [aR 108, aR 187, aI (nI a), aI 1] (mm_l M 118 (ov g x k)) (am_q0 (mm_l (mm_l M 119 (ov (M.2 119) (rn (max k l - l) y) (max k l))) 118 (ov g (red (max k l) (rsum k x l (y))).1 (red (max k l) (rsum k x l (y))).2))) := by
  obtain ⟨h0, h1, h2, h3, h4⟩ := h
  have em : max l k = max k l := Nat.max_comm l k
  have em2 : max k (max l k) = max k l := by omega
  refine ⟨rfl, rfl, rfl, fun X hX => am_run hX 2 _ _ _ _ ?_⟩
  conv => whnf
  have key := ad_l187 (M := mm_l M 118 (ov g x k)) (a := a) (s := 1) hX ha ?_ 5 0 (by omega)
  · have e : (fun j => if j < 0 then (mm_l M 118 (ov g x k)).2 187 (a + j) else (mm_l M 118 (ov g x k)).2 119 j) = (mm_l M 118 (ov g x k)).2 119 := by
      funext j
      rw [if_neg (by omega)]
    rw [e, mm_lz] at key
    exact key
  · rw [mm_lne _ 118 187 _ (by decide), mm_lne _ 118 119 _ (by decide), ov_of (g := M.2 119) h0 h1 h2 h3 h4]
    refine am_run hX 200 _ _ _ _ ?_
    conv => whnf
    refine ⟨by first | exact i5_0 | exact i5_1 | exact i5_2 | exact i5_3 | exact i5_4 | exact i5_01 | exact i5_02 | exact i5_03 | exact i5_04 | exact i4_0 | exact i4_1 | exact i4_2 | exact i4_3 | exact i5_11 | exact i5_111 | decide, ?_⟩
    conv => whnf
    simp only [k_4, mm_lne _ 119 118 _ (by decide), mm_l2, ov_4]
    refine am_c0 (ct_raise119 (d := d) (p := k) (by omega) (by omega)) ?_
    try simp only [List.drop_succ_cons, List.drop_zero, List.append_eq, List.nil_append, List.append_nil]
    conv => whnf
    refine ⟨by first | exact i5_0 | exact i5_1 | exact i5_2 | exact i5_3 | exact i5_4 | exact i5_01 | exact i5_02 | exact i5_03 | exact i5_04 | exact i4_0 | exact i4_1 | exact i4_2 | exact i4_3 | exact i5_11 | exact i5_111 | decide, ?_⟩
    conv => whnf
    simp only [k_4, mm_l2, ov_4]
    rw [mm_lc M 118 119 _ _ (by decide)]
    refine am_c0 (ct_raise118 (d := d) (p := max l k) (by omega) (by omega)) ?_
    try simp only [List.drop_succ_cons, List.drop_zero, List.append_eq, List.nil_append, List.append_nil]
    rw [em2, em]
    conv => whnf
    refine ⟨fun c => absurd c (by decide), fun _ => ?_⟩
    conv => whnf
    refine ⟨by first | exact i5_0 | exact i5_1 | exact i5_2 | exact i5_3 | exact i5_4 | exact i5_01 | exact i5_02 | exact i5_03 | exact i5_04 | exact i4_0 | exact i4_1 | exact i4_2 | exact i4_3 | exact i5_11 | exact i5_111 | decide, ?_⟩
    conv => whnf
    refine ⟨by first | exact i5_0 | exact i5_1 | exact i5_2 | exact i5_3 | exact i5_4 | exact i5_01 | exact i5_02 | exact i5_03 | exact i5_04 | exact i4_0 | exact i4_1 | exact i4_2 | exact i4_3 | exact i5_11 | exact i5_111 | decide, ?_⟩
    conv => whnf
    refine ⟨by first | exact i5_0 | exact i5_1 | exact i5_2 | exact i5_3 | exact i5_4 | exact i5_01 | exact i5_02 | exact i5_03 | exact i5_04 | exact i4_0 | exact i4_1 | exact i4_2 | exact i4_3 | exact i5_11 | exact i5_111 | decide, ?_⟩
    conv => whnf
    refine ⟨fun c => absurd c (by decide), fun _ => ?_⟩
    conv => whnf
    refine ⟨by first | exact i5_0 | exact i5_1 | exact i5_2 | exact i5_3 | exact i5_4 | exact i5_01 | exact i5_02 | exact i5_03 | exact i5_04 | exact i4_0 | exact i4_1 | exact i4_2 | exact i4_3 | exact i5_11 | exact i5_111 | decide, ?_⟩
    conv => whnf
    refine ⟨by first | exact i5_0 | exact i5_1 | exact i5_2 | exact i5_3 | exact i5_4 | exact i5_01 | exact i5_02 | exact i5_03 | exact i5_04 | exact i4_0 | exact i4_1 | exact i4_2 | exact i4_3 | exact i5_11 | exact i5_111 | decide, ?_⟩
    conv => whnf
    refine ⟨by first | exact i5_0 | exact i5_1 | exact i5_2 | exact i5_3 | exact i5_4 | exact i5_01 | exact i5_02 | exact i5_03 | exact i5_04 | exact i4_0 | exact i4_1 | exact i4_2 | exact i4_3 | exact i5_11 | exact i5_111 | decide, ?_⟩
    conv => whnf
    refine ⟨fun c => absurd c (by decide), fun _ => ?_⟩
    conv => whnf
    refine ⟨by first | exact i5_0 | exact i5_1 | exact i5_2 | exact i5_3 | exact i5_4 | exact i5_01 | exact i5_02 | exact i5_03 | exact i5_04 | exact i4_0 | exact i4_1 | exact i4_2 | exact i4_3 | exact i5_11 | exact i5_111 | decide, ?_⟩
    conv => whnf
    refine ⟨by first | exact i5_0 | exact i5_1 | exact i5_2 | exact i5_3 | exact i5_4 | exact i5_01 | exact i5_02 | exact i5_03 | exact i5_04 | exact i4_0 | exact i4_1 | exact i4_2 | exact i4_3 | exact i5_11 | exact i5_111 | decide, ?_⟩
    conv => whnf
    refine ⟨by first | exact i5_0 | exact i5_1 | exact i5_2 | exact i5_3 | exact i5_4 | exact i5_01 | exact i5_02 | exact i5_03 | exact i5_04 | exact i4_0 | exact i4_1 | exact i4_2 | exact i4_3 | exact i5_11 | exact i5_111 | decide, ?_⟩
    conv => whnf
    refine ⟨fun c => absurd c (by decide), fun _ => ?_⟩
    conv => whnf
    refine ⟨by first | exact i5_0 | exact i5_1 | exact i5_2 | exact i5_3 | exact i5_4 | exact i5_01 | exact i5_02 | exact i5_03 | exact i5_04 | exact i4_0 | exact i4_1 | exact i4_2 | exact i4_3 | exact i5_11 | exact i5_111 | decide, ?_⟩
    conv => whnf
    refine ⟨by first | exact i5_0 | exact i5_1 | exact i5_2 | exact i5_3 | exact i5_4 | exact i5_01 | exact i5_02 | exact i5_03 | exact i5_04 | exact i4_0 | exact i4_1 | exact i4_2 | exact i4_3 | exact i5_11 | exact i5_111 | decide, ?_⟩
    conv => whnf
    refine ⟨by first | exact i5_0 | exact i5_1 | exact i5_2 | exact i5_3 | exact i5_4 | exact i5_01 | exact i5_02 | exact i5_03 | exact i5_04 | exact i4_0 | exact i4_1 | exact i4_2 | exact i4_3 | exact i5_11 | exact i5_111 | decide, ?_⟩
    conv => whnf
    refine ⟨fun _ => ?_, fun c => absurd (by decide) c⟩
    conv => whnf
    simp only [mm_l2, mm_ll, mm_lne _ 118 119 _ (by decide), k_0, k_1, k_2, k_3, k_4, k0_1, k0_2, k0_3, k0_4, k0_11, k0_111, ov_0, ov_1, ov_2, ov_3, ov_4, s_p, s_m, lI_mul, Int.one_mul, lI_add, ov_u0, ov_u1, ov_u2, ov_u3]
    refine am_c0 (ct_red (d := d) (M := mm_l M 119 (ov (M.2 119) (rn (max k l - l) y) (max k l))) (g := g) (x := rsum k x l y) (k := max k l) (by omega) hb) ?_
    conv => whnf
    exact ⟨trivial, rfl, rfl⟩
set_option maxRecDepth 100000 in
theorem ct_add187m {a k l : Nat} {x y : R4} (ha : a + 5 ≤ 20) (hk : k < 2 ^ 30) (hl : l < 2 ^ 30) (h : at5 (M.2 187) a y l) (hb : bd (rsum k x l (ng y))) : am_M (d + 2) false nm_X12_add [aR 108, aR 187, aI (nI a), aI (-1)] (mm_l M 118 (ov g x k)) (am_q0 (mm_l (mm_l M 119 (ov (M.2 119) (rn (max k l - l) y) (max k l))) 118 (ov g (red (max k l) (rsum k x l (ng y))).1 (red (max k l) (rsum k x l (ng y))).2))) := by
  unfold rsum at *
  rw [ng_rn] at *
  obtain ⟨h0, h1, h2, h3, h4⟩ := h
  have em : max l k = max k l := Nat.max_comm l k
  have em2 : max k (max l k) = max k l := by omega
  refine ⟨rfl, rfl, rfl, fun X hX => am_run hX 2 _ _ _ _ ?_⟩
  conv => whnf
  have key := ad_l187 (M := mm_l M 118 (ov g x k)) (a := a) (s := (-1)) hX ha ?_ 5 0 (by omega)
  · have e : (fun j => if j < 0 then (mm_l M 118 (ov g x k)).2 187 (a + j) else (mm_l M 118 (ov g x k)).2 119 j) = (mm_l M 118 (ov g x k)).2 119 := by
      funext j
      rw [if_neg (by omega)]
    rw [e, mm_lz] at key
    exact key
  · rw [mm_lne _ 118 187 _ (by decide), mm_lne _ 118 119 _ (by decide), ov_of (g := M.2 119) h0 h1 h2 h3 h4]
    refine am_run hX 200 _ _ _ _ ?_
    conv => whnf
    refine ⟨by first | exact i5_0 | exact i5_1 | exact i5_2 | exact i5_3 | exact i5_4 | exact i5_01 | exact i5_02 | exact i5_03 | exact i5_04 | exact i4_0 | exact i4_1 | exact i4_2 | exact i4_3 | exact i5_11 | exact i5_111 | decide, ?_⟩
    conv => whnf
    simp only [k_4, mm_lne _ 119 118 _ (by decide), mm_l2, ov_4]
    refine am_c0 (ct_raise119 (d := d) (p := k) (by omega) (by omega)) ?_
    try simp only [List.drop_succ_cons, List.drop_zero, List.append_eq, List.nil_append, List.append_nil]
    conv => whnf
    refine ⟨by first | exact i5_0 | exact i5_1 | exact i5_2 | exact i5_3 | exact i5_4 | exact i5_01 | exact i5_02 | exact i5_03 | exact i5_04 | exact i4_0 | exact i4_1 | exact i4_2 | exact i4_3 | exact i5_11 | exact i5_111 | decide, ?_⟩
    conv => whnf
    simp only [k_4, mm_l2, ov_4]
    rw [mm_lc M 118 119 _ _ (by decide)]
    refine am_c0 (ct_raise118 (d := d) (p := max l k) (by omega) (by omega)) ?_
    try simp only [List.drop_succ_cons, List.drop_zero, List.append_eq, List.nil_append, List.append_nil]
    rw [em2, em]
    conv => whnf
    refine ⟨fun c => absurd c (by decide), fun _ => ?_⟩
    conv => whnf
    refine ⟨by first | exact i5_0 | exact i5_1 | exact i5_2 | exact i5_3 | exact i5_4 | exact i5_01 | exact i5_02 | exact i5_03 | exact i5_04 | exact i4_0 | exact i4_1 | exact i4_2 | exact i4_3 | exact i5_11 | exact i5_111 | decide, ?_⟩
    conv => whnf
    refine ⟨by first | exact i5_0 | exact i5_1 | exact i5_2 | exact i5_3 | exact i5_4 | exact i5_01 | exact i5_02 | exact i5_03 | exact i5_04 | exact i4_0 | exact i4_1 | exact i4_2 | exact i4_3 | exact i5_11 | exact i5_111 | decide, ?_⟩
    conv => whnf
    refine ⟨by first | exact i5_0 | exact i5_1 | exact i5_2 | exact i5_3 | exact i5_4 | exact i5_01 | exact i5_02 | exact i5_03 | exact i5_04 | exact i4_0 | exact i4_1 | exact i4_2 | exact i4_3 | exact i5_11 | exact i5_111 | decide, ?_⟩
    conv => whnf
    refine ⟨fun c => absurd c (by decide), fun _ => ?_⟩
    conv => whnf
    refine ⟨by first | exact i5_0 | exact i5_1 | exact i5_2 | exact i5_3 | exact i5_4 | exact i5_01 | exact i5_02 | exact i5_03 | exact i5_04 | exact i4_0 | exact i4_1 | exact i4_2 | exact i4_3 | exact i5_11 | exact i5_111 | decide, ?_⟩
    conv => whnf
    refine ⟨by first | exact i5_0 | exact i5_1 | exact i5_2 | exact i5_3 | exact i5_4 | exact i5_01 | exact i5_02 | exact i5_03 | exact i5_04 | exact i4_0 | exact i4_1 | exact i4_2 | exact i4_3 | exact i5_11 | exact i5_111 | decide, ?_⟩
    conv => whnf
    refine ⟨by first | exact i5_0 | exact i5_1 | exact i5_2 | exact i5_3 | exact i5_4 | exact i5_01 | exact i5_02 | exact i5_03 | exact i5_04 | exact i4_0 | exact i4_1 | exact i4_2 | exact i4_3 | exact i5_11 | exact i5_111 | decide, ?_⟩
    conv => whnf
    refine ⟨fun c => absurd c (by decide), fun _ => ?_⟩
    conv => whnf
    refine ⟨by first | exact i5_0 | exact i5_1 | exact i5_2 | exact i5_3 | exact i5_4 | exact i5_01 | exact i5_02 | exact i5_03 | exact i5_04 | exact i4_0 | exact i4_1 | exact i4_2 | exact i4_3 | exact i5_11 | exact i5_111 | decide, ?_⟩
    conv => whnf
    refine ⟨by first | exact i5_0 | exact i5_1 | exact i5_2 | exact i5_3 | exact i5_4 | exact i5_01 | exact i5_02 | exact i5_03 | exact i5_04 | exact i4_0 | exact i4_1 | exact i4_2 | exact i4_3 | exact i5_11 | exact i5_111 | decide, ?_⟩
    conv => whnf
    refine ⟨by first | exact i5_0 | exact i5_1 | exact i5_2 | exact i5_3 | exact i5_4 | exact i5_01 | exact i5_02 | exact i5_03 | exact i5_04 | exact i4_0 | exact i4_1 | exact i4_2 | exact i4_3 | exact i5_11 | exact i5_111 | decide, ?_⟩
    conv => whnf
    refine ⟨fun c => absurd c (by decide), fun _ => ?_⟩
    conv => whnf
    refine ⟨by first | exact i5_0 | exact i5_1 | exact i5_2 | exact i5_3 | exact i5_4 | exact i5_01 | exact i5_02 | exact i5_03 | exact i5_04 | exact i4_0 | exact i4_1 | exact i4_2 | exact i4_3 | exact i5_11 | exact i5_111 | decide, ?_⟩
    conv => whnf
    refine ⟨by first | exact i5_0 | exact i5_1 | exact i5_2 | exact i5_3 | exact i5_4 | exact i5_01 | exact i5_02 | exact i5_03 | exact i5_04 | exact i4_0 | exact i4_1 | exact i4_2 | exact i4_3 | exact i5_11 | exact i5_111 | decide, ?_⟩
    conv => whnf
    refine ⟨by first | exact i5_0 | exact i5_1 | exact i5_2 | exact i5_3 | exact i5_4 | exact i5_01 | exact i5_02 | exact i5_03 | exact i5_04 | exact i4_0 | exact i4_1 | exact i4_2 | exact i4_3 | exact i5_11 | exact i5_111 | decide, ?_⟩
    conv => whnf
    refine ⟨fun _ => ?_, fun c => absurd (by decide) c⟩
    conv => whnf
    simp only [mm_l2, mm_ll, mm_lne _ 118 119 _ (by decide), k_0, k_1, k_2, k_3, k_4, k0_1, k0_2, k0_3, k0_4, k0_11, k0_111, ov_0, ov_1, ov_2, ov_3, ov_4, s_p, s_m, lI_mul, Int.neg_mul, Int.one_mul, lI_add, ov_u0, ov_u1, ov_u2, ov_u3]
    refine am_c0 (ct_red (d := d) (M := mm_l M 119 (ov (M.2 119) (rn (max k l - l) y) (max k l))) (g := g) (x := ra (rn (max k l - k) x) (ng (rn (max k l - l) y))) (k := max k l) (by omega) hb) ?_
    conv => whnf
    exact ⟨trivial, rfl, rfl⟩
set_option maxRecDepth 100000 in
theorem ld_l188 {P : am_Q} {X : am_X} {a : Nat} (hX : am_K d false nm_X12_load P X) (ha : a + 5 ≤ 20) (hP : P (.inl none) (mm_l M 118 (fun j => if j < 5 then M.2 188 (a + j) else M.2 118 j))) : ∀ (m i : Nat), i + m = 5 → X 2 [some (aR 108), some (aR 188), some (aI (nI a)), some (aI (nI i))] [] (mm_l M 118 (fun j => if j < i then M.2 188 (a + j) else M.2 118 j)) := by
  intro m
  induction m with
  | zero =>
    intro i hi
    have hi : i = 5 := by omega
    subst hi
    refine am_run hX 4 _ _ _ _ ?_
    conv => whnf
    refine ⟨fun _ => ?_, fun c => absurd (by decide) c⟩
    conv => whnf
    exact ⟨trivial, hP⟩
  | succ m ih =>
    intro i hi
    refine am_run hX 3 _ _ _ _ ?_
    conv => whnf
    refine ⟨fun c => absurd c (nI_ge (a := i) (b := 5) (by omega) (by decide)), fun _ => ?_⟩
    refine am_run hX 11 _ _ _ _ ?_
    conv => whnf
    rw [nI_add]
    refine ⟨vp_in_nI (by show _ < 20; omega) (by decide), ?_⟩
    conv => whnf
    refine ⟨vp_in_nI (by show _ < 5; omega) (by decide), ?_⟩
    conv => whnf
    rw [nI_clamp (n := i) (by omega), nI_clamp (n := a + i) (by omega), nI_1, mm_l2, mm_ll, mm_lne _ 118 188 _ (by decide)]
    have e : vp_updL (fun j => if j < i then M.2 188 (a + j) else M.2 118 j) i (M.2 188 (a + i)) = fun j => if j < i + 1 then M.2 188 (a + j) else M.2 118 j := by
      funext j
      unfold vp_updL
      by_cases h : j = i
      · rw [if_pos h, if_pos (by omega), h]
      · rw [if_neg h]
        dsimp only
        by_cases h2 : j < i
        · rw [if_pos h2, if_pos (by omega)]
        · rw [if_neg h2, if_neg (by omega)]
    rw [e]
    exact ih (i + 1) (by omega)
set_option maxRecDepth 100000 in
theorem ct_load188 {a : Nat} (ha : a + 5 ≤ 20) : am_M (d + 1) false nm_X12_load [aR 108, aR 188, aI (nI a)] M (am_q0 (mm_l M 118 (fun j => if j < 5 then M.2 188 (a + j) else M.2 118 j))) := by
  refine ⟨rfl, rfl, rfl, fun X hX => am_run hX 2 _ _ _ _ ?_⟩
  conv => whnf
  have key := ld_l188 (M := M) (a := a) hX ha ⟨rfl, rfl⟩ 5 0 (by omega)
  have e : (fun j => if j < 0 then M.2 188 (a + j) else M.2 118 j) = M.2 118 := by
    funext j
    rw [if_neg (by omega)]
  rw [e, mm_lz] at key
  exact key
theorem ct_ld188 {a k : Nat} {x : R4} (ha : a + 5 ≤ 20) (h : at5 (M.2 188) a x k) : am_M (d + 1) false nm_X12_load [aR 108, aR 188, aI (nI a)] M (am_q0 (mm_l M 118 (ov (M.2 118) x k))) := by
  obtain ⟨h0, h1, h2, h3, h4⟩ := h
  rw [← ov_of (g := M.2 118) h0 h1 h2 h3 h4]
  exact ct_load188 ha
set_option maxRecDepth 100000 in
theorem ad_l188 {P : am_Q} {X : am_X} {a : Nat} {s : Int32} (hX : am_K d false nm_X12_add P X) (ha : a + 5 ≤ 20) (hP : X 28 [some (aR 108), some (aR 188), some (aI (nI a)), some (aI s), some (aI (nI 5))] [] (mm_l M 119 (fun j => if j < 5 then M.2 188 (a + j) else M.2 119 j))) : ∀ (m i : Nat), i + m = 5 → X 3 [some (aR 108), some (aR 188), some (aI (nI a)), some (aI s), some (aI (nI i))] [] (mm_l M 119 (fun j => if j < i then M.2 188 (a + j) else M.2 119 j)) := by
  intro m
  induction m with
  | zero =>
    intro i hi
    have hi : i = 5 := by omega
    subst hi
    refine am_run hX 3 _ _ _ _ ?_
    conv => whnf
    refine ⟨fun _ => ?_, fun c => absurd (by decide) c⟩
    exact hP
  | succ m ih =>
    intro i hi
    refine am_run hX 3 _ _ _ _ ?_
    conv => whnf
    refine ⟨fun c => absurd c (nI_ge (a := i) (b := 5) (by omega) (by decide)), fun _ => ?_⟩
    refine am_run hX 11 _ _ _ _ ?_
    conv => whnf
    rw [nI_add]
    refine ⟨vp_in_nI (by show _ < 20; omega) (by decide), ?_⟩
    conv => whnf
    refine ⟨vp_in_nI (by show _ < 5; omega) (by decide), ?_⟩
    conv => whnf
    rw [nI_clamp (n := i) (by omega), nI_clamp (n := a + i) (by omega), nI_1, mm_l2, mm_ll, mm_lne _ 119 188 _ (by decide)]
    have e : vp_updL (fun j => if j < i then M.2 188 (a + j) else M.2 119 j) i (M.2 188 (a + i)) = fun j => if j < i + 1 then M.2 188 (a + j) else M.2 119 j := by
      funext j
      unfold vp_updL
      by_cases h : j = i
      · rw [if_pos h, if_pos (by omega), h]
      · rw [if_neg h]
        dsimp only
        by_cases h2 : j < i
        · rw [if_pos h2, if_pos (by omega)]
        · rw [if_neg h2, if_neg (by omega)]
    rw [e]
    exact ih (i + 1) (by omega)
set_option maxRecDepth 100000 in
theorem ct_add188p {a k l : Nat} {x y : R4} (ha : a + 5 ≤ 20) (hk : k < 2 ^ 30) (hl : l < 2 ^ 30) (h : at5 (M.2 188) a y l) (hb : bd (rsum k x l (y))) : am_M (d + 2) false nm_X12_add [aR 108, aR 188, aI (nI a), aI 1] (mm_l M 118 (ov g x k)) (am_q0 (mm_l (mm_l M 119 (ov (M.2 119) (rn (max k l - l) y) (max k l))) 118 (ov g (red (max k l) (rsum k x l (y))).1 (red (max k l) (rsum k x l (y))).2))) := by
  obtain ⟨h0, h1, h2, h3, h4⟩ := h
  have em : max l k = max k l := Nat.max_comm l k
  have em2 : max k (max l k) = max k l := by omega
  refine ⟨rfl, rfl, rfl, fun X hX => am_run hX 2 _ _ _ _ ?_⟩
  conv => whnf
  have key := ad_l188 (M := mm_l M 118 (ov g x k)) (a := a) (s := 1) hX ha ?_ 5 0 (by omega)
  · have e : (fun j => if j < 0 then (mm_l M 118 (ov g x k)).2 188 (a + j) else (mm_l M 118 (ov g x k)).2 119 j) = (mm_l M 118 (ov g x k)).2 119 := by
      funext j
      rw [if_neg (by omega)]
    rw [e, mm_lz] at key
    exact key
  · rw [mm_lne _ 118 188 _ (by decide), mm_lne _ 118 119 _ (by decide), ov_of (g := M.2 119) h0 h1 h2 h3 h4]
    refine am_run hX 200 _ _ _ _ ?_
    conv => whnf
    refine ⟨by first | exact i5_0 | exact i5_1 | exact i5_2 | exact i5_3 | exact i5_4 | exact i5_01 | exact i5_02 | exact i5_03 | exact i5_04 | exact i4_0 | exact i4_1 | exact i4_2 | exact i4_3 | exact i5_11 | exact i5_111 | decide, ?_⟩
    conv => whnf
    simp only [k_4, mm_lne _ 119 118 _ (by decide), mm_l2, ov_4]
    refine am_c0 (ct_raise119 (d := d) (p := k) (by omega) (by omega)) ?_
    try simp only [List.drop_succ_cons, List.drop_zero, List.append_eq, List.nil_append, List.append_nil]
    conv => whnf
    refine ⟨by first | exact i5_0 | exact i5_1 | exact i5_2 | exact i5_3 | exact i5_4 | exact i5_01 | exact i5_02 | exact i5_03 | exact i5_04 | exact i4_0 | exact i4_1 | exact i4_2 | exact i4_3 | exact i5_11 | exact i5_111 | decide, ?_⟩
    conv => whnf
    simp only [k_4, mm_l2, ov_4]
    rw [mm_lc M 118 119 _ _ (by decide)]
    refine am_c0 (ct_raise118 (d := d) (p := max l k) (by omega) (by omega)) ?_
    try simp only [List.drop_succ_cons, List.drop_zero, List.append_eq, List.nil_append, List.append_nil]
    rw [em2, em]
    conv => whnf
    refine ⟨fun c => absurd c (by decide), fun _ => ?_⟩
    conv => whnf
    refine ⟨by first | exact i5_0 | exact i5_1 | exact i5_2 | exact i5_3 | exact i5_4 | exact i5_01 | exact i5_02 | exact i5_03 | exact i5_04 | exact i4_0 | exact i4_1 | exact i4_2 | exact i4_3 | exact i5_11 | exact i5_111 | decide, ?_⟩
    conv => whnf
    refine ⟨by first | exact i5_0 | exact i5_1 | exact i5_2 | exact i5_3 | exact i5_4 | exact i5_01 | exact i5_02 | exact i5_03 | exact i5_04 | exact i4_0 | exact i4_1 | exact i4_2 | exact i4_3 | exact i5_11 | exact i5_111 | decide, ?_⟩
    conv => whnf
    refine ⟨by first | exact i5_0 | exact i5_1 | exact i5_2 | exact i5_3 | exact i5_4 | exact i5_01 | exact i5_02 | exact i5_03 | exact i5_04 | exact i4_0 | exact i4_1 | exact i4_2 | exact i4_3 | exact i5_11 | exact i5_111 | decide, ?_⟩
    conv => whnf
    refine ⟨fun c => absurd c (by decide), fun _ => ?_⟩
    conv => whnf
    refine ⟨by first | exact i5_0 | exact i5_1 | exact i5_2 | exact i5_3 | exact i5_4 | exact i5_01 | exact i5_02 | exact i5_03 | exact i5_04 | exact i4_0 | exact i4_1 | exact i4_2 | exact i4_3 | exact i5_11 | exact i5_111 | decide, ?_⟩
    conv => whnf
    refine ⟨by first | exact i5_0 | exact i5_1 | exact i5_2 | exact i5_3 | exact i5_4 | exact i5_01 | exact i5_02 | exact i5_03 | exact i5_04 | exact i4_0 | exact i4_1 | exact i4_2 | exact i4_3 | exact i5_11 | exact i5_111 | decide, ?_⟩
    conv => whnf
    refine ⟨by first | exact i5_0 | exact i5_1 | exact i5_2 | exact i5_3 | exact i5_4 | exact i5_01 | exact i5_02 | exact i5_03 | exact i5_04 | exact i4_0 | exact i4_1 | exact i4_2 | exact i4_3 | exact i5_11 | exact i5_111 | decide, ?_⟩
    conv => whnf
    refine ⟨fun c => absurd c (by decide), fun _ => ?_⟩
    conv => whnf
    refine ⟨by first | exact i5_0 | exact i5_1 | exact i5_2 | exact i5_3 | exact i5_4 | exact i5_01 | exact i5_02 | exact i5_03 | exact i5_04 | exact i4_0 | exact i4_1 | exact i4_2 | exact i4_3 | exact i5_11 | exact i5_111 | decide, ?_⟩
    conv => whnf
    refine ⟨by first | exact i5_0 | exact i5_1 | exact i5_2 | exact i5_3 | exact i5_4 | exact i5_01 | exact i5_02 | exact i5_03 | exact i5_04 | exact i4_0 | exact i4_1 | exact i4_2 | exact i4_3 | exact i5_11 | exact i5_111 | decide, ?_⟩
    conv => whnf
    refine ⟨by first | exact i5_0 | exact i5_1 | exact i5_2 | exact i5_3 | exact i5_4 | exact i5_01 | exact i5_02 | exact i5_03 | exact i5_04 | exact i4_0 | exact i4_1 | exact i4_2 | exact i4_3 | exact i5_11 | exact i5_111 | decide, ?_⟩
    conv => whnf
    refine ⟨fun c => absurd c (by decide), fun _ => ?_⟩
    conv => whnf
    refine ⟨by first | exact i5_0 | exact i5_1 | exact i5_2 | exact i5_3 | exact i5_4 | exact i5_01 | exact i5_02 | exact i5_03 | exact i5_04 | exact i4_0 | exact i4_1 | exact i4_2 | exact i4_3 | exact i5_11 | exact i5_111 | decide, ?_⟩
    conv => whnf
    refine ⟨by first | exact i5_0 | exact i5_1 | exact i5_2 | exact i5_3 | exact i5_4 | exact i5_01 | exact i5_02 | exact i5_03 | exact i5_04 | exact i4_0 | exact i4_1 | exact i4_2 | exact i4_3 | exact i5_11 | exact i5_111 | decide, ?_⟩
    conv => whnf
    refine ⟨by first | exact i5_0 | exact i5_1 | exact i5_2 | exact i5_3 | exact i5_4 | exact i5_01 | exact i5_02 | exact i5_03 | exact i5_04 | exact i4_0 | exact i4_1 | exact i4_2 | exact i4_3 | exact i5_11 | exact i5_111 | decide, ?_⟩
    conv => whnf
    refine ⟨fun _ => ?_, fun c => absurd (by decide) c⟩
    conv => whnf
    simp only [mm_l2, mm_ll, mm_lne _ 118 119 _ (by decide), k_0, k_1, k_2, k_3, k_4, k0_1, k0_2, k0_3, k0_4, k0_11, k0_111, ov_0, ov_1, ov_2, ov_3, ov_4, s_p, s_m, lI_mul, Int.one_mul, lI_add, ov_u0, ov_u1, ov_u2, ov_u3]
    refine am_c0 (ct_red (d := d) (M := mm_l M 119 (ov (M.2 119) (rn (max k l - l) y) (max k l))) (g := g) (x := rsum k x l y) (k := max k l) (by omega) hb) ?_
    conv => whnf
    exact ⟨trivial, rfl, rfl⟩
set_option maxRecDepth 100000 in
theorem ct_add188m {a k l : Nat} {x y : R4} (ha : a + 5 ≤ 20) (hk : k < 2 ^ 30) (hl : l < 2 ^ 30) (h : at5 (M.2 188) a y l) (hb : bd (rsum k x l (ng y))) : am_M (d + 2) false nm_X12_add [aR 108, aR 188, aI (nI a), aI (-1)] (mm_l M 118 (ov g x k)) (am_q0 (mm_l (mm_l M 119 (ov (M.2 119) (rn (max k l - l) y) (max k l))) 118 (ov g (red (max k l) (rsum k x l (ng y))).1 (red (max k l) (rsum k x l (ng y))).2))) := by
  unfold rsum at *
  rw [ng_rn] at *
  obtain ⟨h0, h1, h2, h3, h4⟩ := h
  have em : max l k = max k l := Nat.max_comm l k
  have em2 : max k (max l k) = max k l := by omega
  refine ⟨rfl, rfl, rfl, fun X hX => am_run hX 2 _ _ _ _ ?_⟩
  conv => whnf
  have key := ad_l188 (M := mm_l M 118 (ov g x k)) (a := a) (s := (-1)) hX ha ?_ 5 0 (by omega)
  · have e : (fun j => if j < 0 then (mm_l M 118 (ov g x k)).2 188 (a + j) else (mm_l M 118 (ov g x k)).2 119 j) = (mm_l M 118 (ov g x k)).2 119 := by
      funext j
      rw [if_neg (by omega)]
    rw [e, mm_lz] at key
    exact key
  · rw [mm_lne _ 118 188 _ (by decide), mm_lne _ 118 119 _ (by decide), ov_of (g := M.2 119) h0 h1 h2 h3 h4]
    refine am_run hX 200 _ _ _ _ ?_
    conv => whnf
    refine ⟨by first | exact i5_0 | exact i5_1 | exact i5_2 | exact i5_3 | exact i5_4 | exact i5_01 | exact i5_02 | exact i5_03 | exact i5_04 | exact i4_0 | exact i4_1 | exact i4_2 | exact i4_3 | exact i5_11 | exact i5_111 | decide, ?_⟩
    conv => whnf
    simp only [k_4, mm_lne _ 119 118 _ (by decide), mm_l2, ov_4]
    refine am_c0 (ct_raise119 (d := d) (p := k) (by omega) (by omega)) ?_
    try simp only [List.drop_succ_cons, List.drop_zero, List.append_eq, List.nil_append, List.append_nil]
    conv => whnf
    refine ⟨by first | exact i5_0 | exact i5_1 | exact i5_2 | exact i5_3 | exact i5_4 | exact i5_01 | exact i5_02 | exact i5_03 | exact i5_04 | exact i4_0 | exact i4_1 | exact i4_2 | exact i4_3 | exact i5_11 | exact i5_111 | decide, ?_⟩
    conv => whnf
    simp only [k_4, mm_l2, ov_4]
    rw [mm_lc M 118 119 _ _ (by decide)]
    refine am_c0 (ct_raise118 (d := d) (p := max l k) (by omega) (by omega)) ?_
    try simp only [List.drop_succ_cons, List.drop_zero, List.append_eq, List.nil_append, List.append_nil]
    rw [em2, em]
    conv => whnf
    refine ⟨fun c => absurd c (by decide), fun _ => ?_⟩
    conv => whnf
    refine ⟨by first | exact i5_0 | exact i5_1 | exact i5_2 | exact i5_3 | exact i5_4 | exact i5_01 | exact i5_02 | exact i5_03 | exact i5_04 | exact i4_0 | exact i4_1 | exact i4_2 | exact i4_3 | exact i5_11 | exact i5_111 | decide, ?_⟩
    conv => whnf
    refine ⟨by first | exact i5_0 | exact i5_1 | exact i5_2 | exact i5_3 | exact i5_4 | exact i5_01 | exact i5_02 | exact i5_03 | exact i5_04 | exact i4_0 | exact i4_1 | exact i4_2 | exact i4_3 | exact i5_11 | exact i5_111 | decide, ?_⟩
    conv => whnf
    refine ⟨by first | exact i5_0 | exact i5_1 | exact i5_2 | exact i5_3 | exact i5_4 | exact i5_01 | exact i5_02 | exact i5_03 | exact i5_04 | exact i4_0 | exact i4_1 | exact i4_2 | exact i4_3 | exact i5_11 | exact i5_111 | decide, ?_⟩
    conv => whnf
    refine ⟨fun c => absurd c (by decide), fun _ => ?_⟩
    conv => whnf
    refine ⟨by first | exact i5_0 | exact i5_1 | exact i5_2 | exact i5_3 | exact i5_4 | exact i5_01 | exact i5_02 | exact i5_03 | exact i5_04 | exact i4_0 | exact i4_1 | exact i4_2 | exact i4_3 | exact i5_11 | exact i5_111 | decide, ?_⟩
    conv => whnf
    refine ⟨by first | exact i5_0 | exact i5_1 | exact i5_2 | exact i5_3 | exact i5_4 | exact i5_01 | exact i5_02 | exact i5_03 | exact i5_04 | exact i4_0 | exact i4_1 | exact i4_2 | exact i4_3 | exact i5_11 | exact i5_111 | decide, ?_⟩
    conv => whnf
    refine ⟨by first | exact i5_0 | exact i5_1 | exact i5_2 | exact i5_3 | exact i5_4 | exact i5_01 | exact i5_02 | exact i5_03 | exact i5_04 | exact i4_0 | exact i4_1 | exact i4_2 | exact i4_3 | exact i5_11 | exact i5_111 | decide, ?_⟩
    conv => whnf
    refine ⟨fun c => absurd c (by decide), fun _ => ?_⟩
    conv => whnf
    refine ⟨by first | exact i5_0 | exact i5_1 | exact i5_2 | exact i5_3 | exact i5_4 | exact i5_01 | exact i5_02 | exact i5_03 | exact i5_04 | exact i4_0 | exact i4_1 | exact i4_2 | exact i4_3 | exact i5_11 | exact i5_111 | decide, ?_⟩
    conv => whnf
    refine ⟨by first | exact i5_0 | exact i5_1 | exact i5_2 | exact i5_3 | exact i5_4 | exact i5_01 | exact i5_02 | exact i5_03 | exact i5_04 | exact i4_0 | exact i4_1 | exact i4_2 | exact i4_3 | exact i5_11 | exact i5_111 | decide, ?_⟩
    conv => whnf
    refine ⟨by first | exact i5_0 | exact i5_1 | exact i5_2 | exact i5_3 | exact i5_4 | exact i5_01 | exact i5_02 | exact i5_03 | exact i5_04 | exact i4_0 | exact i4_1 | exact i4_2 | exact i4_3 | exact i5_11 | exact i5_111 | decide, ?_⟩
    conv => whnf
    refine ⟨fun c => absurd c (by decide), fun _ => ?_⟩
    conv => whnf
    refine ⟨by first | exact i5_0 | exact i5_1 | exact i5_2 | exact i5_3 | exact i5_4 | exact i5_01 | exact i5_02 | exact i5_03 | exact i5_04 | exact i4_0 | exact i4_1 | exact i4_2 | exact i4_3 | exact i5_11 | exact i5_111 | decide, ?_⟩
    conv => whnf
    refine ⟨by first | exact i5_0 | exact i5_1 | exact i5_2 | exact i5_3 | exact i5_4 | exact i5_01 | exact i5_02 | exact i5_03 | exact i5_04 | exact i4_0 | exact i4_1 | exact i4_2 | exact i4_3 | exact i5_11 | exact i5_111 | decide, ?_⟩
    conv => whnf
    refine ⟨by first | exact i5_0 | exact i5_1 | exact i5_2 | exact i5_3 | exact i5_4 | exact i5_01 | exact i5_02 | exact i5_03 | exact i5_04 | exact i4_0 | exact i4_1 | exact i4_2 | exact i4_3 | exact i5_11 | exact i5_111 | decide, ?_⟩
    conv => whnf
    refine ⟨fun _ => ?_, fun c => absurd (by decide) c⟩
    conv => whnf
    simp only [mm_l2, mm_ll, mm_lne _ 118 119 _ (by decide), k_0, k_1, k_2, k_3, k_4, k0_1, k0_2, k0_3, k0_4, k0_11, k0_111, ov_0, ov_1, ov_2, ov_3, ov_4, s_p, s_m, lI_mul, Int.neg_mul, Int.one_mul, lI_add, ov_u0, ov_u1, ov_u2, ov_u3]
    refine am_c0 (ct_red (d := d) (M := mm_l M 119 (ov (M.2 119) (rn (max k l - l) y) (max k l))) (g := g) (x := ra (rn (max k l - k) x) (ng (rn (max k l - l) y))) (k := max k l) (by omega) hb) ?_
    conv => whnf
    exact ⟨trivial, rfl, rfl⟩
set_option maxRecDepth 100000 in
theorem io_l190 {P : am_Q} {X : am_X} {a : Nat} (hX : am_K d false nm_X12_isOne P X) (ha : a + 5 ≤ 480) (hP : P (.inl (some (aI (b01 (allN (fun i => decide (M.2 118 i = M.2 190 (a + i))) 5))))) M) : ∀ (m i : Nat), i + m = 5 → X 5 [some (aR 108), some (aR 190), some (aI (nI a)), some (aI (b01 (allN (fun i => decide (M.2 118 i = M.2 190 (a + i))) i))), some (aI (nI i))] [] M := by
  intro m
  induction m with
  | zero =>
    intro i hi
    have hi : i = 5 := by omega
    subst hi
    refine am_run hX 6 _ _ _ _ ?_
    conv => whnf
    refine ⟨fun _ => ?_, fun c => absurd (by decide) c⟩
    conv => whnf
    refine ⟨?_, hP⟩
    cases allN (fun i => decide (M.2 118 i = M.2 190 (a + i))) 5 <;> rfl
  | succ m ih =>
    intro i hi
    have ih := ih (i + 1) (by omega)
    simp only [allN] at ih
    refine am_run hX 3 _ _ _ _ ?_
    conv => whnf
    refine ⟨fun c => absurd c (nI_ge (a := i) (b := 5) (by omega) (by decide)), fun _ => ?_⟩
    cases hc : allN (fun i => decide (M.2 118 i = M.2 190 (a + i))) i with
    | false =>
      rw [hc, Bool.false_and] at ih
      refine am_run hX 2 _ _ _ _ ?_
      conv => whnf
      refine ⟨fun _ => ?_, fun c => absurd rfl c⟩
      refine am_run hX 4 _ _ _ _ ?_
      conv => whnf
      rw [nI_1]
      exact ih
    | true =>
      rw [hc, Bool.true_and] at ih
      refine am_run hX 2 _ _ _ _ ?_
      conv => whnf
      refine ⟨fun c => absurd c (by decide), fun _ => ?_⟩
      refine am_run hX 11 _ _ _ _ ?_
      conv => whnf
      refine ⟨vp_in_nI (by show _ < 5; omega) (by decide), ?_⟩
      conv => whnf
      rw [nI_add]
      refine ⟨vp_in_nI (by show _ < 480; omega) (by decide), ?_⟩
      conv => whnf
      rw [nI_clamp (n := i) (by omega), nI_clamp (n := a + i) (by omega), lg_0]
      refine ⟨fun c => ?_, fun c => ?_⟩
      · rw [decide_eq_false c] at ih
        refine am_run hX 4 _ _ _ _ ?_
        conv => whnf
        rw [nI_1]
        exact ih
      · rw [decide_eq_true (Decidable.byContradiction c)] at ih
        refine am_run hX 5 _ _ _ _ ?_
        conv => whnf
        rw [nI_1]
        exact ih
set_option maxRecDepth 100000 in
theorem ct_isOneC {a k l : Nat} {x y : R4} {f : Nat → Int64} (ha : a + 5 ≤ 480) (hx : bd x) (hy : bd y) (hk : k < 2 ^ 31) (hl : l < 2 ^ 31) (hh : at5 (M.2 190) a y l) : am_M (d + 1) false nm_X12_isOne [aR 108, aR 190, aI (nI a)] (mm_l M 118 (ov f x k)) (am_q1 (aI (b01 (decide (x = y ∧ k = l)))) (mm_l M 118 (ov f x k))) := by
  have e : allN (fun i => decide ((mm_l M 118 (ov f x k)).2 118 i = (mm_l M 118 (ov f x k)).2 190 (a + i))) 5 = decide (x = y ∧ k = l) := by
    rw [mm_l2, mm_lne _ 118 190 _ (by decide)]
    have := io_e (f := f) hx hy hk hl hh
    by_cases z : x = y ∧ k = l
    · rw [decide_eq_true z]
      exact this.mpr z
    · rw [decide_eq_false z]
      exact nt_f (fun q => z (this.mp q))
  refine ⟨rfl, rfl, rfl, fun X hX => am_run hX 4 _ _ _ _ ?_⟩
  conv => whnf
  exact io_l190 (M := mm_l M 118 (ov f x k)) hX ha (by rw [e]; exact ⟨rfl, rfl⟩) 5 0 (by omega)
end FMO
