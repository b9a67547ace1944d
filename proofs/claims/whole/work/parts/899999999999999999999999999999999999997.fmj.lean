/-! FORM: copies, units, what is alike, at the reference -/
def en (x y : R2) (i : Nat) : R4 := if i = 0 then x.1 else if i = 1 then x.2 else if i = 2 then y.1 else y.2
theorem mx_en {f : Nat → Int64} {a K : Nat} {x y : R2} : mxE f a K x y ↔ ∀ i, i < 4 → a5 f (a + 5 * i) K (en x y i) := by
  constructor
  · intro h i hi
    have : i = 0 ∨ i = 1 ∨ i = 2 ∨ i = 3 := by omega
    rcases this with rfl | rfl | rfl | rfl
    · exact h.1
    · exact h.2.1
    · exact h.2.2.1
    · exact h.2.2.2
  · intro h
    exact ⟨h 0 (by decide), h 1 (by decide), h 2 (by decide), h 3 (by decide)⟩
theorem a5_f {f f' : Nat → Int64} {a b K : Nat} {x : R4} (e : ∀ j, j < 5 → f' (b + j) = f (a + j)) (h : a5 f a K x) : a5 f' b K x := by
  obtain ⟨h0, h1, h2, h3, h4⟩ := h
  exact ⟨(e 0 (by decide)).trans h0, (e 1 (by decide)).trans h1, (e 2 (by decide)).trans h2, (e 3 (by decide)).trans h3, (e 4 (by decide)).trans h4⟩
theorem mx_f {f f' : Nat → Int64} {a b K : Nat} {x y : R2} (e : ∀ j, j < 20 → f' (b + j) = f (a + j)) (h : mxE f a K x y) : mxE f' b K x y := by
  rw [mx_en] at h ⊢
  intro i hi
  refine a5_f (fun j hj => ?_) (h i hi)
  have := e (5 * i + j) (by omega)
  rw [← Nat.add_assoc, ← Nat.add_assoc] at this
  exact this
def cpM (M : mm_M) (F T a i : Nat) : mm_M := mm_l M T (fun j => if a ≤ j ∧ j < a + i then M.2 F (j - a) else M.2 T j)
theorem cpM_0 (M : mm_M) (F T a : Nat) : cpM M F T a 0 = M := by
  unfold cpM
  have e : (fun j => if a ≤ j ∧ j < a + 0 then M.2 F (j - a) else M.2 T j) = M.2 T := by
    funext j
    rw [if_neg (by omega)]
  rw [e, mm_lz]
def unV (k : Nat) : Int64 := if k = 0 ∨ k = 15 then 1 else 0
def unM (M : mm_M) (T i : Nat) : mm_M := mm_l M T (fun j => if j < i then unV j else M.2 T j)
theorem unM_0 (M : mm_M) (T : Nat) : unM M T 0 = M := by
  unfold unM
  have e : (fun j => if j < 0 then unV j else M.2 T j) = M.2 T := by
    funext j
    rw [if_neg (by omega)]
  rw [e, mm_lz]
/-- but one array of longs stays -/
def k1F (c : Nat) (M N : mm_M) : Prop := N.1 = M.1 ∧ ∀ k, k ≠ c → N.2 k = M.2 k
section FMJ
variable {d : Nat} {M : mm_M}
set_option maxRecDepth 100000 in
theorem cy_186_187 {P : am_Q} {X : am_X} {a : Nat} (hX : am_K d false nm_X12_copyMatrix P X) (ha : a + 20 ≤ 20) (hP : P (.inl none) (cpM M 186 187 a 20)) : ∀ (m i : Nat), i + m = 20 → X 3 [some (aR 108), some (aR 186), some (aI 0), some (aR 187), some (aI (nI a)), some (aI (nI i))] [] (cpM M 186 187 a i) := by
  intro m
  induction m with
  | zero =>
    intro i hi
    obtain rfl : i = 20 := by omega
    refine am_run hX 3 _ _ _ _ ?_
    conv => whnf
    refine ⟨fun _ => ?_, fun z => absurd (by decide) z⟩
    refine am_run hX 1 _ _ _ _ ?_
    conv => whnf
    exact ⟨trivial, hP⟩
  | succ m ih =>
    intro i hi
    have e0 : (0 : Int32) + nI i = nI i := by rw [show (0 : Int32) = nI 0 from rfl, nI_add, Nat.zero_add]
    refine am_run hX 3 _ _ _ _ ?_
    conv => whnf
    refine ⟨fun z => absurd z (nI_ge (a := i) (b := 20) (by omega) (by decide)), fun _ => ?_⟩
    refine am_run hX 10 _ _ _ _ ?_
    conv => whnf
    rw [e0]
    refine ⟨vp_in_nI (by show i < 20; omega) (by decide), ?_⟩
    conv => whnf
    rw [nI_add]
    refine ⟨vp_in_nI (by show _ < 20; omega) (by decide), ?_⟩
    unfold cpM
    rw [nI_clamp (n := i) (by omega), nI_clamp (n := a + i) (by omega), mm_l2, mm_ll, mm_lne _ 187 186 _ (by decide)]
    have e : vp_updL (fun j => if a ≤ j ∧ j < a + i then M.2 186 (j - a) else M.2 187 j) (a + i) (M.2 186 i) = fun j => if a ≤ j ∧ j < a + (i + 1) then M.2 186 (j - a) else M.2 187 j := by
      funext j
      unfold vp_updL
      by_cases h : j = a + i
      · rw [if_pos h, if_pos (by omega), h, Nat.add_sub_cancel_left]
      · rw [if_neg h]
        dsimp only
        by_cases h2 : a ≤ j ∧ j < a + i
        · rw [if_pos h2, if_pos (by omega)]
        · rw [if_neg h2, if_neg (by omega)]
    rw [e]
    refine am_run hX 2 _ _ _ _ ?_
    conv => whnf
    rw [nI_1]
    exact ih (i + 1) (by omega)
set_option maxRecDepth 100000 in
theorem ct_cp186_187 {a K : Nat} {x y : R2} (ha : a + 20 ≤ 20) (h : mxE (M.2 186) 0 K x y) : am_M (d + 1) false nm_X12_copyMatrix [aR 108, aR 186, aI 0, aR 187, aI (nI a)] M (fun r N => r = .inl none ∧ k1F 187 M N ∧ mxE (N.2 187) a K x y ∧ ∀ j, (j < a ∨ a + 20 ≤ j) → N.2 187 j = M.2 187 j) := by
  refine ⟨rfl, rfl, rfl, fun X hX => am_run hX 2 _ _ _ _ ?_⟩
  conv => whnf
  have key := cy_186_187 (M := M) (a := a) hX ha ?_ 20 0 (by omega)
  · rw [cpM_0] at key
    exact key
  · refine ⟨rfl, ⟨rfl, fun k hk => mm_lne _ _ _ _ hk⟩, ?_, fun j hj => ?_⟩
    · refine mx_f (fun j hj => ?_) h
      unfold cpM
      rw [mm_l2, if_pos (by omega), Nat.add_sub_cancel_left, Nat.zero_add]
    · unfold cpM
      rw [mm_l2, if_neg (by omega)]
set_option maxRecDepth 100000 in
theorem cy_187_186 {P : am_Q} {X : am_X} {a : Nat} (hX : am_K d false nm_X12_copyMatrix P X) (ha : a + 20 ≤ 20) (hP : P (.inl none) (cpM M 187 186 a 20)) : ∀ (m i : Nat), i + m = 20 → X 3 [some (aR 108), some (aR 187), some (aI 0), some (aR 186), some (aI (nI a)), some (aI (nI i))] [] (cpM M 187 186 a i) := by
  intro m
  induction m with
  | zero =>
    intro i hi
    obtain rfl : i = 20 := by omega
    refine am_run hX 3 _ _ _ _ ?_
    conv => whnf
    refine ⟨fun _ => ?_, fun z => absurd (by decide) z⟩
    refine am_run hX 1 _ _ _ _ ?_
    conv => whnf
    exact ⟨trivial, hP⟩
  | succ m ih =>
    intro i hi
    have e0 : (0 : Int32) + nI i = nI i := by rw [show (0 : Int32) = nI 0 from rfl, nI_add, Nat.zero_add]
    refine am_run hX 3 _ _ _ _ ?_
    conv => whnf
    refine ⟨fun z => absurd z (nI_ge (a := i) (b := 20) (by omega) (by decide)), fun _ => ?_⟩
    refine am_run hX 10 _ _ _ _ ?_
    conv => whnf
    rw [e0]
    refine ⟨vp_in_nI (by show i < 20; omega) (by decide), ?_⟩
    conv => whnf
    rw [nI_add]
    refine ⟨vp_in_nI (by show _ < 20; omega) (by decide), ?_⟩
    unfold cpM
    rw [nI_clamp (n := i) (by omega), nI_clamp (n := a + i) (by omega), mm_l2, mm_ll, mm_lne _ 186 187 _ (by decide)]
    have e : vp_updL (fun j => if a ≤ j ∧ j < a + i then M.2 187 (j - a) else M.2 186 j) (a + i) (M.2 187 i) = fun j => if a ≤ j ∧ j < a + (i + 1) then M.2 187 (j - a) else M.2 186 j := by
      funext j
      unfold vp_updL
      by_cases h : j = a + i
      · rw [if_pos h, if_pos (by omega), h, Nat.add_sub_cancel_left]
      · rw [if_neg h]
        dsimp only
        by_cases h2 : a ≤ j ∧ j < a + i
        · rw [if_pos h2, if_pos (by omega)]
        · rw [if_neg h2, if_neg (by omega)]
    rw [e]
    refine am_run hX 2 _ _ _ _ ?_
    conv => whnf
    rw [nI_1]
    exact ih (i + 1) (by omega)
set_option maxRecDepth 100000 in
theorem ct_cp187_186 {a K : Nat} {x y : R2} (ha : a + 20 ≤ 20) (h : mxE (M.2 187) 0 K x y) : am_M (d + 1) false nm_X12_copyMatrix [aR 108, aR 187, aI 0, aR 186, aI (nI a)] M (fun r N => r = .inl none ∧ k1F 186 M N ∧ mxE (N.2 186) a K x y ∧ ∀ j, (j < a ∨ a + 20 ≤ j) → N.2 186 j = M.2 186 j) := by
  refine ⟨rfl, rfl, rfl, fun X hX => am_run hX 2 _ _ _ _ ?_⟩
  conv => whnf
  have key := cy_187_186 (M := M) (a := a) hX ha ?_ 20 0 (by omega)
  · rw [cpM_0] at key
    exact key
  · refine ⟨rfl, ⟨rfl, fun k hk => mm_lne _ _ _ _ hk⟩, ?_, fun j hj => ?_⟩
    · refine mx_f (fun j hj => ?_) h
      unfold cpM
      rw [mm_l2, if_pos (by omega), Nat.add_sub_cancel_left, Nat.zero_add]
    · unfold cpM
      rw [mm_l2, if_neg (by omega)]
set_option maxRecDepth 100000 in
theorem cy_187_190 {P : am_Q} {X : am_X} {a : Nat} (hX : am_K d false nm_X12_copyMatrix P X) (ha : a + 20 ≤ 480) (hP : P (.inl none) (cpM M 187 190 a 20)) : ∀ (m i : Nat), i + m = 20 → X 3 [some (aR 108), some (aR 187), some (aI 0), some (aR 190), some (aI (nI a)), some (aI (nI i))] [] (cpM M 187 190 a i) := by
  intro m
  induction m with
  | zero =>
    intro i hi
    obtain rfl : i = 20 := by omega
    refine am_run hX 3 _ _ _ _ ?_
    conv => whnf
    refine ⟨fun _ => ?_, fun z => absurd (by decide) z⟩
    refine am_run hX 1 _ _ _ _ ?_
    conv => whnf
    exact ⟨trivial, hP⟩
  | succ m ih =>
    intro i hi
    have e0 : (0 : Int32) + nI i = nI i := by rw [show (0 : Int32) = nI 0 from rfl, nI_add, Nat.zero_add]
    refine am_run hX 3 _ _ _ _ ?_
    conv => whnf
    refine ⟨fun z => absurd z (nI_ge (a := i) (b := 20) (by omega) (by decide)), fun _ => ?_⟩
    refine am_run hX 10 _ _ _ _ ?_
    conv => whnf
    rw [e0]
    refine ⟨vp_in_nI (by show i < 20; omega) (by decide), ?_⟩
    conv => whnf
    rw [nI_add]
    refine ⟨vp_in_nI (by show _ < 480; omega) (by decide), ?_⟩
    unfold cpM
    rw [nI_clamp (n := i) (by omega), nI_clamp (n := a + i) (by omega), mm_l2, mm_ll, mm_lne _ 190 187 _ (by decide)]
    have e : vp_updL (fun j => if a ≤ j ∧ j < a + i then M.2 187 (j - a) else M.2 190 j) (a + i) (M.2 187 i) = fun j => if a ≤ j ∧ j < a + (i + 1) then M.2 187 (j - a) else M.2 190 j := by
      funext j
      unfold vp_updL
      by_cases h : j = a + i
      · rw [if_pos h, if_pos (by omega), h, Nat.add_sub_cancel_left]
      · rw [if_neg h]
        dsimp only
        by_cases h2 : a ≤ j ∧ j < a + i
        · rw [if_pos h2, if_pos (by omega)]
        · rw [if_neg h2, if_neg (by omega)]
    rw [e]
    refine am_run hX 2 _ _ _ _ ?_
    conv => whnf
    rw [nI_1]
    exact ih (i + 1) (by omega)
set_option maxRecDepth 100000 in
theorem ct_cp187_190 {a K : Nat} {x y : R2} (ha : a + 20 ≤ 480) (h : mxE (M.2 187) 0 K x y) : am_M (d + 1) false nm_X12_copyMatrix [aR 108, aR 187, aI 0, aR 190, aI (nI a)] M (fun r N => r = .inl none ∧ k1F 190 M N ∧ mxE (N.2 190) a K x y ∧ ∀ j, (j < a ∨ a + 20 ≤ j) → N.2 190 j = M.2 190 j) := by
  refine ⟨rfl, rfl, rfl, fun X hX => am_run hX 2 _ _ _ _ ?_⟩
  conv => whnf
  have key := cy_187_190 (M := M) (a := a) hX ha ?_ 20 0 (by omega)
  · rw [cpM_0] at key
    exact key
  · refine ⟨rfl, ⟨rfl, fun k hk => mm_lne _ _ _ _ hk⟩, ?_, fun j hj => ?_⟩
    · refine mx_f (fun j hj => ?_) h
      unfold cpM
      rw [mm_l2, if_pos (by omega), Nat.add_sub_cancel_left, Nat.zero_add]
    · unfold cpM
      rw [mm_l2, if_neg (by omega)]
set_option maxRecDepth 100000 in
theorem un_186 {P : am_Q} {X : am_X} (hX : am_K d false nm_X12_unit P X) (hP : P (.inl none) (unM M 186 20)) : ∀ (m i : Nat), i + m = 20 → X 2 [some (aR 108), some (aR 186), some (aI 0), some (aI (nI i))] [] (unM M 186 i) := by
  intro m
  induction m with
  | zero =>
    intro i hi
    obtain rfl : i = 20 := by omega
    refine am_run hX 3 _ _ _ _ ?_
    conv => whnf
    refine ⟨fun _ => ?_, fun z => absurd (by decide) z⟩
    refine am_run hX 1 _ _ _ _ ?_
    conv => whnf
    exact ⟨trivial, hP⟩
  | succ m ih =>
    intro i hi
    have e0 : (0 : Int32) + nI i = nI i := by rw [show (0 : Int32) = nI 0 from rfl, nI_add, Nat.zero_add]
    have st : ∀ v, v = unV i → X 27 [some (aR 108), some (aR 186), some (aI 0), some (aI (nI i))] [aJ v, aI (nI i), aR 186] (unM M 186 i) := by
      intro v hv
      refine am_run hX 1 _ _ _ _ ?_
      conv => whnf
      refine ⟨vp_in_nI (by show _ < 20; omega) (by decide), ?_⟩
      unfold unM
      rw [nI_clamp (n := i) (by omega), mm_l2, mm_ll, hv]
      have e : vp_updL (fun j => if j < i then unV j else M.2 186 j) i (unV i) = fun j => if j < i + 1 then unV j else M.2 186 j := by
        funext j
        unfold vp_updL
        by_cases h : j = i
        · rw [if_pos h, if_pos (by omega), h]
        · rw [if_neg h]
          dsimp only
          by_cases h2 : j < i
          · rw [if_pos h2, if_pos (by omega)]
          · rw [if_neg h2, if_neg (by omega)]
      rw [e]
      refine am_run hX 2 _ _ _ _ ?_
      conv => whnf
      rw [nI_1]
      exact ih (i + 1) (by omega)
    refine am_run hX 3 _ _ _ _ ?_
    conv => whnf
    refine ⟨fun z => absurd z (nI_ge (a := i) (b := 20) (by omega) (by decide)), fun _ => ?_⟩
    refine am_run hX 6 _ _ _ _ ?_
    conv => whnf
    rw [e0, show (0 : Int32) = nI 0 from rfl, nI_eq (by omega) (by decide)]
    refine ⟨fun z => ?_, fun z => ?_⟩
    · refine am_run hX 2 _ _ _ _ ?_
      conv => whnf
      exact st _ (by unfold unV; rw [if_pos (Or.inl z)])
    · refine am_run hX 3 _ _ _ _ ?_
      conv => whnf
      rw [show (15 : Int32) = nI 15 from rfl, nI_eq (by omega) (by decide)]
      refine ⟨fun q => ?_, fun q => ?_⟩
      · refine am_run hX 1 _ _ _ _ ?_
        conv => whnf
        exact st _ (by unfold unV; rw [if_neg (fun w => w.elim (fun w => z w) (fun w => q w))])
      · refine am_run hX 2 _ _ _ _ ?_
        conv => whnf
        exact st _ (by unfold unV; rw [if_pos (Or.inr (Decidable.byContradiction q))])
set_option maxRecDepth 100000 in
theorem ct_un186 : am_M (d + 1) false nm_X12_unit [aR 108, aR 186, aI 0] M (fun r N => r = .inl none ∧ k1F 186 M N ∧ mxE (N.2 186) 0 (wk []) (rw0 []) (rw1 []) ∧ ∀ j, 20 ≤ j → N.2 186 j = M.2 186 j) := by
  refine ⟨rfl, rfl, rfl, fun X hX => am_run hX 2 _ _ _ _ ?_⟩
  conv => whnf
  have key := un_186 (M := M) hX ?_ 20 0 (by omega)
  · rw [unM_0] at key
    exact key
  · refine ⟨rfl, ⟨rfl, fun k hk => mm_lne _ _ _ _ hk⟩, ?_, fun j hj => ?_⟩
    · unfold unM
      rw [mm_l2]
      exact ⟨⟨rfl, rfl, rfl, rfl, rfl⟩, ⟨rfl, rfl, rfl, rfl, rfl⟩, ⟨rfl, rfl, rfl, rfl, rfl⟩, rfl, rfl, rfl, rfl, rfl⟩
    · unfold unM
      rw [mm_l2, if_neg (by omega)]
set_option maxRecDepth 100000 in
theorem un_187 {P : am_Q} {X : am_X} (hX : am_K d false nm_X12_unit P X) (hP : P (.inl none) (unM M 187 20)) : ∀ (m i : Nat), i + m = 20 → X 2 [some (aR 108), some (aR 187), some (aI 0), some (aI (nI i))] [] (unM M 187 i) := by
  intro m
  induction m with
  | zero =>
    intro i hi
    obtain rfl : i = 20 := by omega
    refine am_run hX 3 _ _ _ _ ?_
    conv => whnf
    refine ⟨fun _ => ?_, fun z => absurd (by decide) z⟩
    refine am_run hX 1 _ _ _ _ ?_
    conv => whnf
    exact ⟨trivial, hP⟩
  | succ m ih =>
    intro i hi
    have e0 : (0 : Int32) + nI i = nI i := by rw [show (0 : Int32) = nI 0 from rfl, nI_add, Nat.zero_add]
    have st : ∀ v, v = unV i → X 27 [some (aR 108), some (aR 187), some (aI 0), some (aI (nI i))] [aJ v, aI (nI i), aR 187] (unM M 187 i) := by
      intro v hv
      refine am_run hX 1 _ _ _ _ ?_
      conv => whnf
      refine ⟨vp_in_nI (by show _ < 20; omega) (by decide), ?_⟩
      unfold unM
      rw [nI_clamp (n := i) (by omega), mm_l2, mm_ll, hv]
      have e : vp_updL (fun j => if j < i then unV j else M.2 187 j) i (unV i) = fun j => if j < i + 1 then unV j else M.2 187 j := by
        funext j
        unfold vp_updL
        by_cases h : j = i
        · rw [if_pos h, if_pos (by omega), h]
        · rw [if_neg h]
          dsimp only
          by_cases h2 : j < i
          · rw [if_pos h2, if_pos (by omega)]
          · rw [if_neg h2, if_neg (by omega)]
      rw [e]
      refine am_run hX 2 _ _ _ _ ?_
      conv => whnf
      rw [nI_1]
      exact ih (i + 1) (by omega)
    refine am_run hX 3 _ _ _ _ ?_
    conv => whnf
    refine ⟨fun z => absurd z (nI_ge (a := i) (b := 20) (by omega) (by decide)), fun _ => ?_⟩
    refine am_run hX 6 _ _ _ _ ?_
    conv => whnf
    rw [e0, show (0 : Int32) = nI 0 from rfl, nI_eq (by omega) (by decide)]
    refine ⟨fun z => ?_, fun z => ?_⟩
    · refine am_run hX 2 _ _ _ _ ?_
      conv => whnf
      exact st _ (by unfold unV; rw [if_pos (Or.inl z)])
    · refine am_run hX 3 _ _ _ _ ?_
      conv => whnf
      rw [show (15 : Int32) = nI 15 from rfl, nI_eq (by omega) (by decide)]
      refine ⟨fun q => ?_, fun q => ?_⟩
      · refine am_run hX 1 _ _ _ _ ?_
        conv => whnf
        exact st _ (by unfold unV; rw [if_neg (fun w => w.elim (fun w => z w) (fun w => q w))])
      · refine am_run hX 2 _ _ _ _ ?_
        conv => whnf
        exact st _ (by unfold unV; rw [if_pos (Or.inr (Decidable.byContradiction q))])
set_option maxRecDepth 100000 in
theorem ct_un187 : am_M (d + 1) false nm_X12_unit [aR 108, aR 187, aI 0] M (fun r N => r = .inl none ∧ k1F 187 M N ∧ mxE (N.2 187) 0 (wk []) (rw0 []) (rw1 []) ∧ ∀ j, 20 ≤ j → N.2 187 j = M.2 187 j) := by
  refine ⟨rfl, rfl, rfl, fun X hX => am_run hX 2 _ _ _ _ ?_⟩
  conv => whnf
  have key := un_187 (M := M) hX ?_ 20 0 (by omega)
  · rw [unM_0] at key
    exact key
  · refine ⟨rfl, ⟨rfl, fun k hk => mm_lne _ _ _ _ hk⟩, ?_, fun j hj => ?_⟩
    · unfold unM
      rw [mm_l2]
      exact ⟨⟨rfl, rfl, rfl, rfl, rfl⟩, ⟨rfl, rfl, rfl, rfl, rfl⟩, ⟨rfl, rfl, rfl, rfl, rfl⟩, rfl, rfl, rfl, rfl, rfl⟩
    · unfold unM
      rw [mm_l2, if_neg (by omega)]
set_option maxRecDepth 100000 in
theorem un_190 {P : am_Q} {X : am_X} (hX : am_K d false nm_X12_unit P X) (hP : P (.inl none) (unM M 190 20)) : ∀ (m i : Nat), i + m = 20 → X 2 [some (aR 108), some (aR 190), some (aI 0), some (aI (nI i))] [] (unM M 190 i) := by
  intro m
  induction m with
  | zero =>
    intro i hi
    obtain rfl : i = 20 := by omega
    refine am_run hX 3 _ _ _ _ ?_
    conv => whnf
    refine ⟨fun _ => ?_, fun z => absurd (by decide) z⟩
    refine am_run hX 1 _ _ _ _ ?_
    conv => whnf
    exact ⟨trivial, hP⟩
  | succ m ih =>
    intro i hi
    have e0 : (0 : Int32) + nI i = nI i := by rw [show (0 : Int32) = nI 0 from rfl, nI_add, Nat.zero_add]
    have st : ∀ v, v = unV i → X 27 [some (aR 108), some (aR 190), some (aI 0), some (aI (nI i))] [aJ v, aI (nI i), aR 190] (unM M 190 i) := by
      intro v hv
      refine am_run hX 1 _ _ _ _ ?_
      conv => whnf
      refine ⟨vp_in_nI (by show _ < 480; omega) (by decide), ?_⟩
      unfold unM
      rw [nI_clamp (n := i) (by omega), mm_l2, mm_ll, hv]
      have e : vp_updL (fun j => if j < i then unV j else M.2 190 j) i (unV i) = fun j => if j < i + 1 then unV j else M.2 190 j := by
        funext j
        unfold vp_updL
        by_cases h : j = i
        · rw [if_pos h, if_pos (by omega), h]
        · rw [if_neg h]
          dsimp only
          by_cases h2 : j < i
          · rw [if_pos h2, if_pos (by omega)]
          · rw [if_neg h2, if_neg (by omega)]
      rw [e]
      refine am_run hX 2 _ _ _ _ ?_
      conv => whnf
      rw [nI_1]
      exact ih (i + 1) (by omega)
    refine am_run hX 3 _ _ _ _ ?_
    conv => whnf
    refine ⟨fun z => absurd z (nI_ge (a := i) (b := 20) (by omega) (by decide)), fun _ => ?_⟩
    refine am_run hX 6 _ _ _ _ ?_
    conv => whnf
    rw [e0, show (0 : Int32) = nI 0 from rfl, nI_eq (by omega) (by decide)]
    refine ⟨fun z => ?_, fun z => ?_⟩
    · refine am_run hX 2 _ _ _ _ ?_
      conv => whnf
      exact st _ (by unfold unV; rw [if_pos (Or.inl z)])
    · refine am_run hX 3 _ _ _ _ ?_
      conv => whnf
      rw [show (15 : Int32) = nI 15 from rfl, nI_eq (by omega) (by decide)]
      refine ⟨fun q => ?_, fun q => ?_⟩
      · refine am_run hX 1 _ _ _ _ ?_
        conv => whnf
        exact st _ (by unfold unV; rw [if_neg (fun w => w.elim (fun w => z w) (fun w => q w))])
      · refine am_run hX 2 _ _ _ _ ?_
        conv => whnf
        exact st _ (by unfold unV; rw [if_pos (Or.inr (Decidable.byContradiction q))])
set_option maxRecDepth 100000 in
theorem ct_un190 : am_M (d + 1) false nm_X12_unit [aR 108, aR 190, aI 0] M (fun r N => r = .inl none ∧ k1F 190 M N ∧ mxE (N.2 190) 0 (wk []) (rw0 []) (rw1 []) ∧ ∀ j, 20 ≤ j → N.2 190 j = M.2 190 j) := by
  refine ⟨rfl, rfl, rfl, fun X hX => am_run hX 2 _ _ _ _ ?_⟩
  conv => whnf
  have key := un_190 (M := M) hX ?_ 20 0 (by omega)
  · rw [unM_0] at key
    exact key
  · refine ⟨rfl, ⟨rfl, fun k hk => mm_lne _ _ _ _ hk⟩, ?_, fun j hj => ?_⟩
    · unfold unM
      rw [mm_l2]
      exact ⟨⟨rfl, rfl, rfl, rfl, rfl⟩, ⟨rfl, rfl, rfl, rfl, rfl⟩, ⟨rfl, rfl, rfl, rfl, rfl⟩, rfl, rfl, rfl, rfl, rfl⟩
    · unfold unM
      rw [mm_l2, if_neg (by omega)]
/-- entry i is alike, turned so often -/
def mLB (K : Nat) (x y : R2) (L : Nat) (x' y' : R2) (p i : Nat) : Bool := decide (red K (t8n p (en x y i)) = red L (en x' y' i))
/-- alike up to a phase -/
def lkB' (K : Nat) (x y : R2) (L : Nat) (x' y' : R2) (p : Nat) : Bool := allN (mLB K x y L x' y' p) 4
set_option maxRecDepth 100000 in
theorem lk_i186 {P : am_Q} {X : am_X} {a p K L : Nat} {x y x' y' : R2} (hX : am_K (d + 1) false nm_X12_isLikeMatrix P X) (ha : a + 20 ≤ 480) (hp : p < 8) (hK : K < 2 ^ 30) (hL : L < 2 ^ 30) (h : mxE (M.2 186) 0 K x y) (h' : mxE (M.2 190) a L x' y') (hb : ∀ i, i < 4 → bd (en x y i)) (hb' : ∀ i, i < 4 → bd (en x' y' i)) (hE : ∀ N k, opF 118 M N → X 64 [some (aR 108), some (aR 186), some (aI 0), some (aR 190), some (aI (nI a)), some (aI (nI p)), some (aI (b01 (lkB' K x y L x' y' p))), some (aI (nI k))] [] N) : ∀ (m k : Nat) (N : mm_M), k + m = 4 → opF 118 M N → X 16 [some (aR 108), some (aR 186), some (aI 0), some (aR 190), some (aI (nI a)), some (aI (nI p)), some (aI (b01 (allN (mLB K x y L x' y' p) k))), some (aI (nI k))] [] N := by
  intro m
  induction m with
  | zero =>
    intro k N hk hF
    obtain rfl : k = 4 := by omega
    refine am_run hX 3 _ _ _ _ ?_
    conv => whnf
    exact ⟨fun _ => hE N 4 hF, fun z => absurd (by decide) z⟩
  | succ m ih =>
    intro k N hk hF
    have k4 : k < 4 := by omega
    have ih := ih (k + 1)
    simp only [allN] at ih
    refine am_run hX 3 _ _ _ _ ?_
    conv => whnf
    refine ⟨fun z => absurd z (nI_ge (a := k) (b := 4) (by omega) (by decide)), fun _ => ?_⟩
    cases hc : allN (mLB K x y L x' y' p) k with
    | false =>
      refine am_run hX 2 _ _ _ _ ?_
      conv => whnf
      refine ⟨fun _ => ?_, fun z => absurd rfl z⟩
      have e : lkB' K x y L x' y' p = false := by
        unfold lkB'
        cases hq : allN (mLB K x y L x' y' p) 4 with
        | false => rfl
        | true =>
          have := (all_iff k).mpr (fun j hj => (all_iff 4).mp hq j (by omega))
          rw [hc] at this
          exact absurd this (by decide)
      have := hE N k hF
      rw [e] at this
      exact this
    | true =>
      refine am_run hX 2 _ _ _ _ ?_
      conv => whnf
      refine ⟨fun z => absurd z (by decide), fun _ => ?_⟩
      have e1 : (0 : Int32) + 5 * nI k = nI (0 + 5 * k) := by rw [show (5 : Int32) = nI 5 from rfl, show (0 : Int32) = nI 0 from rfl, nI_mul, nI_add]
      have e2 : nI a + 5 * nI k = nI (a + 5 * k) := by rw [show (5 : Int32) = nI 5 from rfl, nI_mul, nI_add]
      refine am_run hX 8 _ _ _ _ ?_
      conv => whnf
      rw [e1]
      refine am_cq (f_ld186 (d := d) (M := N) (by omega) (by rw [hF.2 186 (by decide) (by decide) (by decide)]; exact mx_en.mp h k k4)) ?_
      rintro r1 N1 ⟨rfl, f1, o1⟩
      refine ⟨none, rfl, ?_⟩
      refine am_run hX 3 _ _ _ _ ?_
      conv => whnf
      refine am_cq (f_turn (d := d) (n := p) hp (m7_lt hp) o1) ?_
      rintro r2 N2 ⟨rfl, f2, o2⟩
      refine ⟨none, rfl, ?_⟩
      have F2 : opF 118 M N2 := opF_t hF (opF_t f1 f2)
      refine am_run hX 8 _ _ _ _ ?_
      conv => whnf
      rw [e2]
      have hk1 := red_k K (t8n p (en x y k))
      have hk2 := red_k L (en x' y' k)
      have key := ct_isOneC (d := d) (M := N2) (f := N2.2 118) (a := a + 5 * k) (x := (red K (t8n p (en x y k))).1) (k := (red K (t8n p (en x y k))).2) (y := (red L (en x' y' k)).1) (l := (red L (en x' y' k)).2) (by omega) (a5_bd (K := K) (t8_bd (hb k k4) p)) (a5_bd (K := L) (hb' k k4)) (by omega) (by omega) (by rw [F2.2 190 (by decide) (by decide) (by decide)]; exact mx_en.mp h' k k4)
      rw [on_e o2] at key
      refine am_c1 key ?_
      have em : decide ((red K (t8n p (en x y k))).1 = (red L (en x' y' k)).1 ∧ (red K (t8n p (en x y k))).2 = (red L (en x' y' k)).2) = mLB K x y L x' y' p k := by
        unfold mLB
        by_cases q : red K (t8n p (en x y k)) = red L (en x' y' k)
        · rw [decide_eq_true q, q]
          exact decide_eq_true ⟨rfl, rfl⟩
        · rw [decide_eq_false q]
          exact decide_eq_false (fun w => q (Prod.ext w.1 w.2))
      rw [em]
      refine am_run hX 3 _ _ _ _ ?_
      conv => whnf
      rw [nI_1]
      have ih := ih N2 (by omega) F2
      rw [hc, Bool.true_and] at ih
      exact ih
set_option maxRecDepth 100000 in
theorem lk_p186 {P : am_Q} {X : am_X} {a K L : Nat} {x y x' y' : R2} (hX : am_K (d + 1) false nm_X12_isLikeMatrix P X) (ha : a + 20 ≤ 480) (hK : K < 2 ^ 30) (hL : L < 2 ^ 30) (h : mxE (M.2 186) 0 K x y) (h' : mxE (M.2 190) a L x' y') (hb : ∀ i, i < 4 → bd (en x y i)) (hb' : ∀ i, i < 4 → bd (en x' y' i)) (h1 : ∀ N p, opF 118 M N → p < 8 → lkB' K x y L x' y' p = true → P (.inl (some (aI 1))) N) (h0 : ∀ N, opF 118 M N → (∀ p, p < 8 → lkB' K x y L x' y' p = false) → P (.inl (some (aI 0))) N) : ∀ (m p : Nat) (N : mm_M) (v6 v7 : Option am_V), p + m = 8 → opF 118 M N → (∀ p', p' < p → lkB' K x y L x' y' p' = false) → X 3 [some (aR 108), some (aR 186), some (aI 0), some (aR 190), some (aI (nI a)), some (aI (nI p)), v6, v7] [] N := by
  intro m
  induction m with
  | zero =>
    intro p N v6 v7 hp hF hA
    obtain rfl : p = 8 := by omega
    refine am_run hX 3 _ _ _ _ ?_
    conv => whnf
    refine ⟨fun _ => ?_, fun z => absurd (by decide) z⟩
    refine am_run hX 2 _ _ _ _ ?_
    conv => whnf
    exact ⟨rfl, h0 N hF hA⟩
  | succ m ih =>
    intro p N v6 v7 hp hF hA
    refine am_run hX 3 _ _ _ _ ?_
    conv => whnf
    refine ⟨fun z => absurd z (nI_ge (a := p) (b := 8) (by omega) (by decide)), fun _ => ?_⟩
    refine am_run hX 4 _ _ _ _ ?_
    conv => whnf
    refine lk_i186 (d := d) (M := M) hX ha (by omega) hK hL h h' hb hb' (fun N1 k f1 => ?_) 4 0 N (by omega) hF
    refine am_run hX 2 _ _ _ _ ?_
    conv => whnf
    cases hc : lkB' K x y L x' y' p with
    | true =>
      refine ⟨fun z => absurd z (by decide), fun _ => ?_⟩
      refine am_run hX 2 _ _ _ _ ?_
      conv => whnf
      exact ⟨rfl, h1 N1 p f1 (by omega) hc⟩
    | false =>
      refine ⟨fun _ => ?_, fun z => absurd rfl z⟩
      refine am_run hX 2 _ _ _ _ ?_
      conv => whnf
      rw [nI_1]
      refine ih (p + 1) N1 _ _ (by omega) f1 (fun p' hp' => ?_)
      by_cases e : p' = p
      · rw [e]
        exact hc
      · exact hA p' (by omega)
set_option maxRecDepth 100000 in
theorem ct_lk186 {a K L : Nat} {x y x' y' : R2} (ha : a + 20 ≤ 480) (hK : K < 2 ^ 30) (hL : L < 2 ^ 30) (h : mxE (M.2 186) 0 K x y) (h' : mxE (M.2 190) a L x' y') (hb : ∀ i, i < 4 → bd (en x y i)) (hb' : ∀ i, i < 4 → bd (en x' y' i)) : am_M (d + 2) false nm_X12_isLikeMatrix [aR 108, aR 186, aI 0, aR 190, aI (nI a)] M (fun r N => opF 118 M N ∧ ((r = .inl (some (aI 1)) ∧ ∃ p, p < 8 ∧ lkB' K x y L x' y' p = true) ∨ (r = .inl (some (aI 0)) ∧ ∀ p, p < 8 → lkB' K x y L x' y' p = false))) := by
  refine ⟨rfl, rfl, rfl, fun X hX => am_run hX 2 _ _ _ _ ?_⟩
  conv => whnf
  exact lk_p186 (d := d) (M := M) hX ha hK hL h h' hb hb' (fun N p f hp q => ⟨f, Or.inl ⟨rfl, p, hp, q⟩⟩) (fun N f q => ⟨f, Or.inr ⟨rfl, q⟩⟩) 8 0 M none none (by omega) (opF_r 118 M) (fun p hp => absurd hp (Nat.not_lt_zero _))
set_option maxRecDepth 100000 in
theorem lk_i187 {P : am_Q} {X : am_X} {a p K L : Nat} {x y x' y' : R2} (hX : am_K (d + 1) false nm_X12_isLikeMatrix P X) (ha : a + 20 ≤ 480) (hp : p < 8) (hK : K < 2 ^ 30) (hL : L < 2 ^ 30) (h : mxE (M.2 187) 0 K x y) (h' : mxE (M.2 190) a L x' y') (hb : ∀ i, i < 4 → bd (en x y i)) (hb' : ∀ i, i < 4 → bd (en x' y' i)) (hE : ∀ N k, opF 118 M N → X 64 [some (aR 108), some (aR 187), some (aI 0), some (aR 190), some (aI (nI a)), some (aI (nI p)), some (aI (b01 (lkB' K x y L x' y' p))), some (aI (nI k))] [] N) : ∀ (m k : Nat) (N : mm_M), k + m = 4 → opF 118 M N → X 16 [some (aR 108), some (aR 187), some (aI 0), some (aR 190), some (aI (nI a)), some (aI (nI p)), some (aI (b01 (allN (mLB K x y L x' y' p) k))), some (aI (nI k))] [] N := by
  intro m
  induction m with
  | zero =>
    intro k N hk hF
    obtain rfl : k = 4 := by omega
    refine am_run hX 3 _ _ _ _ ?_
    conv => whnf
    exact ⟨fun _ => hE N 4 hF, fun z => absurd (by decide) z⟩
  | succ m ih =>
    intro k N hk hF
    have k4 : k < 4 := by omega
    have ih := ih (k + 1)
    simp only [allN] at ih
    refine am_run hX 3 _ _ _ _ ?_
    conv => whnf
    refine ⟨fun z => absurd z (nI_ge (a := k) (b := 4) (by omega) (by decide)), fun _ => ?_⟩
    cases hc : allN (mLB K x y L x' y' p) k with
    | false =>
      refine am_run hX 2 _ _ _ _ ?_
      conv => whnf
      refine ⟨fun _ => ?_, fun z => absurd rfl z⟩
      have e : lkB' K x y L x' y' p = false := by
        unfold lkB'
        cases hq : allN (mLB K x y L x' y' p) 4 with
        | false => rfl
        | true =>
          have := (all_iff k).mpr (fun j hj => (all_iff 4).mp hq j (by omega))
          rw [hc] at this
          exact absurd this (by decide)
      have := hE N k hF
      rw [e] at this
      exact this
    | true =>
      refine am_run hX 2 _ _ _ _ ?_
      conv => whnf
      refine ⟨fun z => absurd z (by decide), fun _ => ?_⟩
      have e1 : (0 : Int32) + 5 * nI k = nI (0 + 5 * k) := by rw [show (5 : Int32) = nI 5 from rfl, show (0 : Int32) = nI 0 from rfl, nI_mul, nI_add]
      have e2 : nI a + 5 * nI k = nI (a + 5 * k) := by rw [show (5 : Int32) = nI 5 from rfl, nI_mul, nI_add]
      refine am_run hX 8 _ _ _ _ ?_
      conv => whnf
      rw [e1]
      refine am_cq (f_ld187 (d := d) (M := N) (by omega) (by rw [hF.2 187 (by decide) (by decide) (by decide)]; exact mx_en.mp h k k4)) ?_
      rintro r1 N1 ⟨rfl, f1, o1⟩
      refine ⟨none, rfl, ?_⟩
      refine am_run hX 3 _ _ _ _ ?_
      conv => whnf
      refine am_cq (f_turn (d := d) (n := p) hp (m7_lt hp) o1) ?_
      rintro r2 N2 ⟨rfl, f2, o2⟩
      refine ⟨none, rfl, ?_⟩
      have F2 : opF 118 M N2 := opF_t hF (opF_t f1 f2)
      refine am_run hX 8 _ _ _ _ ?_
      conv => whnf
      rw [e2]
      have hk1 := red_k K (t8n p (en x y k))
      have hk2 := red_k L (en x' y' k)
      have key := ct_isOneC (d := d) (M := N2) (f := N2.2 118) (a := a + 5 * k) (x := (red K (t8n p (en x y k))).1) (k := (red K (t8n p (en x y k))).2) (y := (red L (en x' y' k)).1) (l := (red L (en x' y' k)).2) (by omega) (a5_bd (K := K) (t8_bd (hb k k4) p)) (a5_bd (K := L) (hb' k k4)) (by omega) (by omega) (by rw [F2.2 190 (by decide) (by decide) (by decide)]; exact mx_en.mp h' k k4)
      rw [on_e o2] at key
      refine am_c1 key ?_
      have em : decide ((red K (t8n p (en x y k))).1 = (red L (en x' y' k)).1 ∧ (red K (t8n p (en x y k))).2 = (red L (en x' y' k)).2) = mLB K x y L x' y' p k := by
        unfold mLB
        by_cases q : red K (t8n p (en x y k)) = red L (en x' y' k)
        · rw [decide_eq_true q, q]
          exact decide_eq_true ⟨rfl, rfl⟩
        · rw [decide_eq_false q]
          exact decide_eq_false (fun w => q (Prod.ext w.1 w.2))
      rw [em]
      refine am_run hX 3 _ _ _ _ ?_
      conv => whnf
      rw [nI_1]
      have ih := ih N2 (by omega) F2
      rw [hc, Bool.true_and] at ih
      exact ih
set_option maxRecDepth 100000 in
theorem lk_p187 {P : am_Q} {X : am_X} {a K L : Nat} {x y x' y' : R2} (hX : am_K (d + 1) false nm_X12_isLikeMatrix P X) (ha : a + 20 ≤ 480) (hK : K < 2 ^ 30) (hL : L < 2 ^ 30) (h : mxE (M.2 187) 0 K x y) (h' : mxE (M.2 190) a L x' y') (hb : ∀ i, i < 4 → bd (en x y i)) (hb' : ∀ i, i < 4 → bd (en x' y' i)) (h1 : ∀ N p, opF 118 M N → p < 8 → lkB' K x y L x' y' p = true → P (.inl (some (aI 1))) N) (h0 : ∀ N, opF 118 M N → (∀ p, p < 8 → lkB' K x y L x' y' p = false) → P (.inl (some (aI 0))) N) : ∀ (m p : Nat) (N : mm_M) (v6 v7 : Option am_V), p + m = 8 → opF 118 M N → (∀ p', p' < p → lkB' K x y L x' y' p' = false) → X 3 [some (aR 108), some (aR 187), some (aI 0), some (aR 190), some (aI (nI a)), some (aI (nI p)), v6, v7] [] N := by
  intro m
  induction m with
  | zero =>
    intro p N v6 v7 hp hF hA
    obtain rfl : p = 8 := by omega
    refine am_run hX 3 _ _ _ _ ?_
    conv => whnf
    refine ⟨fun _ => ?_, fun z => absurd (by decide) z⟩
    refine am_run hX 2 _ _ _ _ ?_
    conv => whnf
    exact ⟨rfl, h0 N hF hA⟩
  | succ m ih =>
    intro p N v6 v7 hp hF hA
    refine am_run hX 3 _ _ _ _ ?_
    conv => whnf
    refine ⟨fun z => absurd z (nI_ge (a := p) (b := 8) (by omega) (by decide)), fun _ => ?_⟩
    refine am_run hX 4 _ _ _ _ ?_
    conv => whnf
    refine lk_i187 (d := d) (M := M) hX ha (by omega) hK hL h h' hb hb' (fun N1 k f1 => ?_) 4 0 N (by omega) hF
    refine am_run hX 2 _ _ _ _ ?_
    conv => whnf
    cases hc : lkB' K x y L x' y' p with
    | true =>
      refine ⟨fun z => absurd z (by decide), fun _ => ?_⟩
      refine am_run hX 2 _ _ _ _ ?_
      conv => whnf
      exact ⟨rfl, h1 N1 p f1 (by omega) hc⟩
    | false =>
      refine ⟨fun _ => ?_, fun z => absurd rfl z⟩
      refine am_run hX 2 _ _ _ _ ?_
      conv => whnf
      rw [nI_1]
      refine ih (p + 1) N1 _ _ (by omega) f1 (fun p' hp' => ?_)
      by_cases e : p' = p
      · rw [e]
        exact hc
      · exact hA p' (by omega)
set_option maxRecDepth 100000 in
theorem ct_lk187 {a K L : Nat} {x y x' y' : R2} (ha : a + 20 ≤ 480) (hK : K < 2 ^ 30) (hL : L < 2 ^ 30) (h : mxE (M.2 187) 0 K x y) (h' : mxE (M.2 190) a L x' y') (hb : ∀ i, i < 4 → bd (en x y i)) (hb' : ∀ i, i < 4 → bd (en x' y' i)) : am_M (d + 2) false nm_X12_isLikeMatrix [aR 108, aR 187, aI 0, aR 190, aI (nI a)] M (fun r N => opF 118 M N ∧ ((r = .inl (some (aI 1)) ∧ ∃ p, p < 8 ∧ lkB' K x y L x' y' p = true) ∨ (r = .inl (some (aI 0)) ∧ ∀ p, p < 8 → lkB' K x y L x' y' p = false))) := by
  refine ⟨rfl, rfl, rfl, fun X hX => am_run hX 2 _ _ _ _ ?_⟩
  conv => whnf
  exact lk_p187 (d := d) (M := M) hX ha hK hL h h' hb hb' (fun N p f hp q => ⟨f, Or.inl ⟨rfl, p, hp, q⟩⟩) (fun N f q => ⟨f, Or.inr ⟨rfl, q⟩⟩) 8 0 M none none (by omega) (opF_r 118 M) (fun p hp => absurd hp (Nat.not_lt_zero _))
end FMJ
