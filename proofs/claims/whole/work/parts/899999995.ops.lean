/-! THE REFERENCE'S MACHINE FOR ONE ROOT: load, store, add, multiply -/
theorem mm_lc (M : mm_M) (j k : Nat) (f g : Nat → Int64) (h : j ≠ k) : mm_l (mm_l M j f) k g = mm_l (mm_l M k g) j f := by
  unfold mm_l
  refine Prod.ext rfl (funext fun q => ?_)
  dsimp only
  by_cases h1 : q = k
  · subst h1
    rw [if_pos rfl, if_neg (fun e => h e.symm), if_pos rfl]
  · rw [if_neg h1, if_neg h1]
/-- a ROOT laid at a place of a row -/
def sv (g : Nat → Int64) (a : Nat) (f : Nat → Int64) : Nat → Int64 := fun j => if a ≤ j ∧ j < a + 5 then f (j - a) else g j
theorem sv_0 (g f : Nat → Int64) (x : R4) (k : Nat) : sv g 0 (ov f x k) = ov g x k := by
  funext j
  unfold sv ov
  by_cases h : j < 5
  · rw [if_pos ⟨Nat.zero_le _, by omega⟩, Nat.sub_zero]
    rcases (by omega : j = 0 ∨ j = 1 ∨ j = 2 ∨ j = 3 ∨ j = 4) with rfl | rfl | rfl | rfl | rfl <;> rfl
  · rw [if_neg (by omega), if_neg (by omega), if_neg (by omega), if_neg (by omega), if_neg (by omega), if_neg (by omega)]
/-- what a row tells at a place -/
def at5 (f : Nat → Int64) (a : Nat) (x : R4) (k : Nat) : Prop := f a = lI x.1 ∧ f (a + 1) = lI x.2.1 ∧ f (a + 2) = lI x.2.2.1 ∧ f (a + 3) = lI x.2.2.2 ∧ f (a + 4) = lI k
theorem at_ov (g : Nat → Int64) (x : R4) (k : Nat) : at5 (ov g x k) 0 x k := ⟨rfl, rfl, rfl, rfl, rfl⟩
theorem at_sv (g f : Nat → Int64) (a : Nat) (x : R4) (k : Nat) : at5 (sv g a (ov f x k)) a x k := by
  unfold at5 sv
  refine ⟨?_, ?_, ?_, ?_, ?_⟩
  · rw [if_pos ⟨by omega, by omega⟩, Nat.sub_self]
    rfl
  · rw [if_pos ⟨by omega, by omega⟩, Nat.add_sub_cancel_left]
    rfl
  · rw [if_pos ⟨by omega, by omega⟩, Nat.add_sub_cancel_left]
    rfl
  · rw [if_pos ⟨by omega, by omega⟩, Nat.add_sub_cancel_left]
    rfl
  · rw [if_pos ⟨by omega, by omega⟩, Nat.add_sub_cancel_left]
    rfl
theorem at_ne {g f : Nat → Int64} {a b : Nat} {x : R4} {k : Nat} (h : at5 g b x k) (hn : b + 5 ≤ a ∨ a + 5 ≤ b) : at5 (sv g a f) b x k := by
  unfold at5 sv at *
  rw [if_neg (by omega), if_neg (by omega), if_neg (by omega), if_neg (by omega), if_neg (by omega)]
  exact h
theorem at_rf {M : mm_M} {c i : Nat} {y : R4 × Nat} (hy : y.2 < 2 ^ 31) : rf_at M c i y ↔ at5 (M.2 c) (5 * i) y.1 y.2 := by
  unfold rf_at at5
  rw [lI_nI hy]
theorem i5_11 : vp_in (0 + 1 + 1) 5 := show vp_in (nI 2) 5 from vp_in_nI (by decide) (by decide)
theorem i5_111 : vp_in (0 + 1 + 1 + 1) 5 := show vp_in (nI 3) 5 from vp_in_nI (by decide) (by decide)
theorem k0_11 : Int32.toNatClampNeg (0 + 1 + 1) = 2 := by decide
theorem k0_111 : Int32.toNatClampNeg (0 + 1 + 1 + 1) = 3 := by decide
theorem s_p : Int32.toInt64 1 = lI 1 := by decide
theorem s_m : Int32.toInt64 (-1) = lI (-1) := by decide
/-- the negative -/
def ng (x : R4) : R4 := (-x.1, -x.2.1, -x.2.2.1, -x.2.2.2)
theorem ng_rn (x : R4) : ∀ n, rn n (ng x) = ng (rn n x)
  | 0 => rfl
  | n + 1 => by
    show rr (rn n (ng x)) = ng (rr (rn n x))
    rw [ng_rn x n]
    simp only [rr, ng, Prod.mk.injEq]
    omega
theorem z5 (g : Nat → Int64) : vp_updL (vp_updL (vp_updL (vp_updL (vp_updL g 0 0) 1 0) 2 0) 3 0) 4 0 = ov g (0, 0, 0, 0) 0 := by
  funext j
  unfold vp_updL ov
  rcases Nat.lt_or_ge j 5 with h | h
  · rcases (by omega : j = 0 ∨ j = 1 ∨ j = 2 ∨ j = 3 ∨ j = 4) with rfl | rfl | rfl | rfl | rfl <;> rfl
  · rw [if_neg (by omega), if_neg (by omega), if_neg (by omega), if_neg (by omega), if_neg (by omega), if_neg (by omega), if_neg (by omega), if_neg (by omega), if_neg (by omega), if_neg (by omega)]
section OPS
variable {d : Nat} {M : mm_M} {g : Nat → Int64}
set_option maxRecDepth 100000 in
theorem ld_l152 {P : am_Q} {X : am_X} {a : Nat} (hX : am_K d false nm_X12_load P X) (ha : a + 5 ≤ 10) (hP : P (.inl none) (mm_l M 118 (fun j => if j < 5 then M.2 152 (a + j) else M.2 118 j))) : ∀ (m i : Nat), i + m = 5 → X 2 [some (aR 108), some (aR 152), some (aI (nI a)), some (aI (nI i))] [] (mm_l M 118 (fun j => if j < i then M.2 152 (a + j) else M.2 118 j)) := by
  intro m
  induction m with
  | zero =>
    intro i hi
    have hi : i = 5 := by omega
    subst hi
    refine am_run hX 4 _ _ _ _ ?_
    conv => whnf
    refine ⟨fun _ => ?_, fun c => absurd (by decide) c⟩
    conv => whnf
    exact ⟨trivial, hP⟩
  | succ m ih =>
    intro i hi
    refine am_run hX 3 _ _ _ _ ?_
    conv => whnf
    refine ⟨fun c => absurd c (nI_ge (a := i) (b := 5) (by omega) (by decide)), fun _ => ?_⟩
    refine am_run hX 11 _ _ _ _ ?_
    conv => whnf
    rw [nI_add]
    refine ⟨vp_in_nI (by show _ < 10; omega) (by decide), ?_⟩
    conv => whnf
    refine ⟨vp_in_nI (by show _ < 5; omega) (by decide), ?_⟩
    conv => whnf
    rw [nI_clamp (n := i) (by omega), nI_clamp (n := a + i) (by omega), nI_1, mm_l2, mm_ll, mm_lne _ 118 152 _ (by decide)]
    have e : vp_updL (fun j => if j < i then M.2 152 (a + j) else M.2 118 j) i (M.2 152 (a + i)) = fun j => if j < i + 1 then M.2 152 (a + j) else M.2 118 j := by
      funext j
      unfold vp_updL
      by_cases h : j = i
      · rw [if_pos h, if_pos (by omega), h]
      · rw [if_neg h]
        dsimp only
        by_cases h2 : j < i
        · rw [if_pos h2, if_pos (by omega)]
        · rw [if_neg h2, if_neg (by omega)]
    rw [e]
    exact ih (i + 1) (by omega)
set_option maxRecDepth 100000 in
theorem ct_load152 {a : Nat} (ha : a + 5 ≤ 10) : am_M (d + 1) false nm_X12_load [aR 108, aR 152, aI (nI a)] M (am_q0 (mm_l M 118 (fun j => if j < 5 then M.2 152 (a + j) else M.2 118 j))) := by
  refine ⟨rfl, rfl, rfl, fun X hX => am_run hX 2 _ _ _ _ ?_⟩
  conv => whnf
  have key := ld_l152 (M := M) (a := a) hX ha ⟨rfl, rfl⟩ 5 0 (by omega)
  have e : (fun j => if j < 0 then M.2 152 (a + j) else M.2 118 j) = M.2 118 := by
    funext j
    rw [if_neg (by omega)]
  rw [e, mm_lz] at key
  exact key
set_option maxRecDepth 100000 in
theorem ld_l153 {P : am_Q} {X : am_X} {a : Nat} (hX : am_K d false nm_X12_load P X) (ha : a + 5 ≤ 5) (hP : P (.inl none) (mm_l M 118 (fun j => if j < 5 then M.2 153 (a + j) else M.2 118 j))) : ∀ (m i : Nat), i + m = 5 → X 2 [some (aR 108), some (aR 153), some (aI (nI a)), some (aI (nI i))] [] (mm_l M 118 (fun j => if j < i then M.2 153 (a + j) else M.2 118 j)) := by
  intro m
  induction m with
  | zero =>
    intro i hi
    have hi : i = 5 := by omega
    subst hi
    refine am_run hX 4 _ _ _ _ ?_
    conv => whnf
    refine ⟨fun _ => ?_, fun c => absurd (by decide) c⟩
    conv => whnf
    exact ⟨trivial, hP⟩
  | succ m ih =>
    intro i hi
    refine am_run hX 3 _ _ _ _ ?_
    conv => whnf
    refine ⟨fun c => absurd c (nI_ge (a := i) (b := 5) (by omega) (by decide)), fun _ => ?_⟩
    refine am_run hX 11 _ _ _ _ ?_
    conv => whnf
    rw [nI_add]
    refine ⟨vp_in_nI (by show _ < 5; omega) (by decide), ?_⟩
    conv => whnf
    refine ⟨vp_in_nI (by show _ < 5; omega) (by decide), ?_⟩
    conv => whnf
    rw [nI_clamp (n := i) (by omega), nI_clamp (n := a + i) (by omega), nI_1, mm_l2, mm_ll, mm_lne _ 118 153 _ (by decide)]
    have e : vp_updL (fun j => if j < i then M.2 153 (a + j) else M.2 118 j) i (M.2 153 (a + i)) = fun j => if j < i + 1 then M.2 153 (a + j) else M.2 118 j := by
      funext j
      unfold vp_updL
      by_cases h : j = i
      · rw [if_pos h, if_pos (by omega), h]
      · rw [if_neg h]
        dsimp only
        by_cases h2 : j < i
        · rw [if_pos h2, if_pos (by omega)]
        · rw [if_neg h2, if_neg (by omega)]
    rw [e]
    exact ih (i + 1) (by omega)
set_option maxRecDepth 100000 in
theorem ct_load153 {a : Nat} (ha : a + 5 ≤ 5) : am_M (d + 1) false nm_X12_load [aR 108, aR 153, aI (nI a)] M (am_q0 (mm_l M 118 (fun j => if j < 5 then M.2 153 (a + j) else M.2 118 j))) := by
  refine ⟨rfl, rfl, rfl, fun X hX => am_run hX 2 _ _ _ _ ?_⟩
  conv => whnf
  have key := ld_l153 (M := M) (a := a) hX ha ⟨rfl, rfl⟩ 5 0 (by omega)
  have e : (fun j => if j < 0 then M.2 153 (a + j) else M.2 118 j) = M.2 118 := by
    funext j
    rw [if_neg (by omega)]
  rw [e, mm_lz] at key
  exact key
theorem ct_ld150 {a k : Nat} {x : R4} (ha : a + 5 ≤ 1280) (h : at5 (M.2 150) a x k) : am_M (d + 1) false nm_X12_load [aR 108, aR 150, aI (nI a)] M (am_q0 (mm_l M 118 (ov (M.2 118) x k))) := by
  obtain ⟨h0, h1, h2, h3, h4⟩ := h
  rw [← ov_of (g := M.2 118) h0 h1 h2 h3 h4]
  exact ct_load150 ha
set_option maxRecDepth 100000 in
theorem st_l150 {P : am_Q} {X : am_X} {a : Nat} (hX : am_K d false nm_X12_store P X) (ha : a + 5 ≤ 1280) (hP : P (.inl none) (mm_l M 150 (sv (M.2 150) a (M.2 118)))) : ∀ (m i : Nat), i + m = 5 → X 2 [some (aR 108), some (aR 150), some (aI (nI a)), some (aI (nI i))] [] (mm_l M 150 (fun j => if a ≤ j ∧ j < a + i then M.2 118 (j - a) else M.2 150 j)) := by
  intro m
  induction m with
  | zero =>
    intro i hi
    have hi : i = 5 := by omega
    subst hi
    refine am_run hX 4 _ _ _ _ ?_
    conv => whnf
    refine ⟨fun _ => ?_, fun c => absurd (by decide) c⟩
    conv => whnf
    exact ⟨trivial, hP⟩
  | succ m ih =>
    intro i hi
    refine am_run hX 3 _ _ _ _ ?_
    conv => whnf
    refine ⟨fun c => absurd c (nI_ge (a := i) (b := 5) (by omega) (by decide)), fun _ => ?_⟩
    refine am_run hX 11 _ _ _ _ ?_
    conv => whnf
    refine ⟨vp_in_nI (by show _ < 5; omega) (by decide), ?_⟩
    conv => whnf
    rw [nI_add]
    refine ⟨vp_in_nI (by show _ < 1280; omega) (by decide), ?_⟩
    conv => whnf
    rw [nI_clamp (n := i) (by omega), nI_clamp (n := a + i) (by omega), nI_1, mm_l2, mm_ll, mm_lne _ 150 118 _ (by decide)]
    have e : vp_updL (fun j => if a ≤ j ∧ j < a + i then M.2 118 (j - a) else M.2 150 j) (a + i) (M.2 118 i) = fun j => if a ≤ j ∧ j < a + (i + 1) then M.2 118 (j - a) else M.2 150 j := by
      funext j
      unfold vp_updL
      by_cases h : j = a + i
      · rw [if_pos h, if_pos (by omega), h, Nat.add_sub_cancel_left]
      · rw [if_neg h]
        dsimp only
        by_cases h2 : a ≤ j ∧ j < a + i
        · rw [if_pos h2, if_pos (by omega)]
        · rw [if_neg h2, if_neg (by omega)]
    rw [e]
    exact ih (i + 1) (by omega)
set_option maxRecDepth 100000 in
theorem ct_store150 {a : Nat} (ha : a + 5 ≤ 1280) : am_M (d + 1) false nm_X12_store [aR 108, aR 150, aI (nI a)] M (am_q0 (mm_l M 150 (sv (M.2 150) a (M.2 118)))) := by
  refine ⟨rfl, rfl, rfl, fun X hX => am_run hX 2 _ _ _ _ ?_⟩
  conv => whnf
  have key := st_l150 (M := M) (a := a) hX ha ⟨rfl, rfl⟩ 5 0 (by omega)
  have e : (fun j => if a ≤ j ∧ j < a + 0 then M.2 118 (j - a) else M.2 150 j) = M.2 150 := by
    funext j
    rw [if_neg (by omega)]
  rw [e, mm_lz] at key
  exact key
theorem ct_ld152 {a k : Nat} {x : R4} (ha : a + 5 ≤ 10) (h : at5 (M.2 152) a x k) : am_M (d + 1) false nm_X12_load [aR 108, aR 152, aI (nI a)] M (am_q0 (mm_l M 118 (ov (M.2 118) x k))) := by
  obtain ⟨h0, h1, h2, h3, h4⟩ := h
  rw [← ov_of (g := M.2 118) h0 h1 h2 h3 h4]
  exact ct_load152 ha
set_option maxRecDepth 100000 in
theorem st_l152 {P : am_Q} {X : am_X} {a : Nat} (hX : am_K d false nm_X12_store P X) (ha : a + 5 ≤ 10) (hP : P (.inl none) (mm_l M 152 (sv (M.2 152) a (M.2 118)))) : ∀ (m i : Nat), i + m = 5 → X 2 [some (aR 108), some (aR 152), some (aI (nI a)), some (aI (nI i))] [] (mm_l M 152 (fun j => if a ≤ j ∧ j < a + i then M.2 118 (j - a) else M.2 152 j)) := by
  intro m
  induction m with
  | zero =>
    intro i hi
    have hi : i = 5 := by omega
    subst hi
    refine am_run hX 4 _ _ _ _ ?_
    conv => whnf
    refine ⟨fun _ => ?_, fun c => absurd (by decide) c⟩
    conv => whnf
    exact ⟨trivial, hP⟩
  | succ m ih =>
    intro i hi
    refine am_run hX 3 _ _ _ _ ?_
    conv => whnf
    refine ⟨fun c => absurd c (nI_ge (a := i) (b := 5) (by omega) (by decide)), fun _ => ?_⟩
    refine am_run hX 11 _ _ _ _ ?_
    conv => whnf
    refine ⟨vp_in_nI (by show _ < 5; omega) (by decide), ?_⟩
    conv => whnf
    rw [nI_add]
    refine ⟨vp_in_nI (by show _ < 10; omega) (by decide), ?_⟩
    conv => whnf
    rw [nI_clamp (n := i) (by omega), nI_clamp (n := a + i) (by omega), nI_1, mm_l2, mm_ll, mm_lne _ 152 118 _ (by decide)]
    have e : vp_updL (fun j => if a ≤ j ∧ j < a + i then M.2 118 (j - a) else M.2 152 j) (a + i) (M.2 118 i) = fun j => if a ≤ j ∧ j < a + (i + 1) then M.2 118 (j - a) else M.2 152 j := by
      funext j
      unfold vp_updL
      by_cases h : j = a + i
      · rw [if_pos h, if_pos (by omega), h, Nat.add_sub_cancel_left]
      · rw [if_neg h]
        dsimp only
        by_cases h2 : a ≤ j ∧ j < a + i
        · rw [if_pos h2, if_pos (by omega)]
        · rw [if_neg h2, if_neg (by omega)]
    rw [e]
    exact ih (i + 1) (by omega)
set_option maxRecDepth 100000 in
theorem ct_store152 {a : Nat} (ha : a + 5 ≤ 10) : am_M (d + 1) false nm_X12_store [aR 108, aR 152, aI (nI a)] M (am_q0 (mm_l M 152 (sv (M.2 152) a (M.2 118)))) := by
  refine ⟨rfl, rfl, rfl, fun X hX => am_run hX 2 _ _ _ _ ?_⟩
  conv => whnf
  have key := st_l152 (M := M) (a := a) hX ha ⟨rfl, rfl⟩ 5 0 (by omega)
  have e : (fun j => if a ≤ j ∧ j < a + 0 then M.2 118 (j - a) else M.2 152 j) = M.2 152 := by
    funext j
    rw [if_neg (by omega)]
  rw [e, mm_lz] at key
  exact key
theorem ct_ld153 {a k : Nat} {x : R4} (ha : a + 5 ≤ 5) (h : at5 (M.2 153) a x k) : am_M (d + 1) false nm_X12_load [aR 108, aR 153, aI (nI a)] M (am_q0 (mm_l M 118 (ov (M.2 118) x k))) := by
  obtain ⟨h0, h1, h2, h3, h4⟩ := h
  rw [← ov_of (g := M.2 118) h0 h1 h2 h3 h4]
  exact ct_load153 ha
set_option maxRecDepth 100000 in
theorem st_l153 {P : am_Q} {X : am_X} {a : Nat} (hX : am_K d false nm_X12_store P X) (ha : a + 5 ≤ 5) (hP : P (.inl none) (mm_l M 153 (sv (M.2 153) a (M.2 118)))) : ∀ (m i : Nat), i + m = 5 → X 2 [some (aR 108), some (aR 153), some (aI (nI a)), some (aI (nI i))] [] (mm_l M 153 (fun j => if a ≤ j ∧ j < a + i then M.2 118 (j - a) else M.2 153 j)) := by
  intro m
  induction m with
  | zero =>
    intro i hi
    have hi : i = 5 := by omega
    subst hi
    refine am_run hX 4 _ _ _ _ ?_
    conv => whnf
    refine ⟨fun _ => ?_, fun c => absurd (by decide) c⟩
    conv => whnf
    exact ⟨trivial, hP⟩
  | succ m ih =>
    intro i hi
    refine am_run hX 3 _ _ _ _ ?_
    conv => whnf
    refine ⟨fun c => absurd c (nI_ge (a := i) (b := 5) (by omega) (by decide)), fun _ => ?_⟩
    refine am_run hX 11 _ _ _ _ ?_
    conv => whnf
    refine ⟨vp_in_nI (by show _ < 5; omega) (by decide), ?_⟩
    conv => whnf
    rw [nI_add]
    refine ⟨vp_in_nI (by show _ < 5; omega) (by decide), ?_⟩
    conv => whnf
    rw [nI_clamp (n := i) (by omega), nI_clamp (n := a + i) (by omega), nI_1, mm_l2, mm_ll, mm_lne _ 153 118 _ (by decide)]
    have e : vp_updL (fun j => if a ≤ j ∧ j < a + i then M.2 118 (j - a) else M.2 153 j) (a + i) (M.2 118 i) = fun j => if a ≤ j ∧ j < a + (i + 1) then M.2 118 (j - a) else M.2 153 j := by
      funext j
      unfold vp_updL
      by_cases h : j = a + i
      · rw [if_pos h, if_pos (by omega), h, Nat.add_sub_cancel_left]
      · rw [if_neg h]
        dsimp only
        by_cases h2 : a ≤ j ∧ j < a + i
        · rw [if_pos h2, if_pos (by omega)]
        · rw [if_neg h2, if_neg (by omega)]
    rw [e]
    exact ih (i + 1) (by omega)
set_option maxRecDepth 100000 in
theorem ct_store153 {a : Nat} (ha : a + 5 ≤ 5) : am_M (d + 1) false nm_X12_store [aR 108, aR 153, aI (nI a)] M (am_q0 (mm_l M 153 (sv (M.2 153) a (M.2 118)))) := by
  refine ⟨rfl, rfl, rfl, fun X hX => am_run hX 2 _ _ _ _ ?_⟩
  conv => whnf
  have key := st_l153 (M := M) (a := a) hX ha ⟨rfl, rfl⟩ 5 0 (by omega)
  have e : (fun j => if a ≤ j ∧ j < a + 0 then M.2 118 (j - a) else M.2 153 j) = M.2 153 := by
    funext j
    rw [if_neg (by omega)]
  rw [e, mm_lz] at key
  exact key
set_option maxRecDepth 100000 in
theorem ct_mul150 {a k l : Nat} {x y : R4} (ha : a + 5 ≤ 1280) (hk : k < 2 ^ 30) (hl : l < 2 ^ 30) (h : at5 (M.2 150) a y l) (hb : bd (mu x y)) : am_M (d + 2) false nm_X12_multiply [aR 108, aR 150, aI (nI a)] (mm_l M 118 (ov g x k)) (am_q0 (mm_l M 118 (ov g (red (k + l) (mu x y)).1 (red (k + l) (mu x y)).2))) := by
  obtain ⟨h0, h1, h2, h3, h4⟩ := h
  have e1 : nI a + 1 = nI (a + 1) := nI_1 a
  have e2 : nI a + 2 = nI (a + 2) := by rw [show (2 : Int32) = nI 2 from rfl, nI_add]
  have e3 : nI a + 3 = nI (a + 3) := by rw [show (3 : Int32) = nI 3 from rfl, nI_add]
  have e4 : nI a + 4 = nI (a + 4) := by rw [show (4 : Int32) = nI 4 from rfl, nI_add]
  refine ⟨rfl, rfl, rfl, fun X hX => am_run hX 200 _ _ _ _ ?_⟩
  conv => whnf
  refine ⟨by first | exact i5_0 | exact i5_1 | exact i5_2 | exact i5_3 | exact i5_4 | exact i5_01 | exact i5_02 | exact i5_03 | exact i5_04 | exact i4_0 | exact i4_1 | exact i4_2 | exact i4_3 | exact i5_11 | exact i5_111 | decide, ?_⟩
  conv => whnf
  refine ⟨by first | exact i5_0 | exact i5_1 | exact i5_2 | exact i5_3 | exact i5_4 | exact i5_01 | exact i5_02 | exact i5_03 | exact i5_04 | exact i4_0 | exact i4_1 | exact i4_2 | exact i4_3 | exact i5_11 | exact i5_111 | decide, ?_⟩
  conv => whnf
  refine ⟨by first | exact i5_0 | exact i5_1 | exact i5_2 | exact i5_3 | exact i5_4 | exact i5_01 | exact i5_02 | exact i5_03 | exact i5_04 | exact i4_0 | exact i4_1 | exact i4_2 | exact i4_3 | exact i5_11 | exact i5_111 | decide, ?_⟩
  conv => whnf
  refine ⟨by first | exact i5_0 | exact i5_1 | exact i5_2 | exact i5_3 | exact i5_4 | exact i5_01 | exact i5_02 | exact i5_03 | exact i5_04 | exact i4_0 | exact i4_1 | exact i4_2 | exact i4_3 | exact i5_11 | exact i5_111 | decide, ?_⟩
  conv => whnf
  refine ⟨vp_in_nI (by show _ < 1280; omega) (by decide), ?_⟩
  conv => whnf
  rw [e1]
  refine ⟨vp_in_nI (by show _ < 1280; omega) (by decide), ?_⟩
  conv => whnf
  rw [e2]
  refine ⟨vp_in_nI (by show _ < 1280; omega) (by decide), ?_⟩
  conv => whnf
  rw [e3]
  refine ⟨vp_in_nI (by show _ < 1280; omega) (by decide), ?_⟩
  conv => whnf
  rw [nI_clamp (n := a) (by omega), nI_clamp (n := a + 1) (by omega), nI_clamp (n := a + 2) (by omega), nI_clamp (n := a + 3) (by omega)]
  simp only [mm_l2, k_0, k_1, k_2, k_3, k_4, k0_1, k0_2, k0_3, k0_4, ov_0, ov_1, ov_2, ov_3, ov_4, mm_lne _ 118 150 _ (by decide), h0, h1, h2, h3, lI_mul, lI_add, lI_sub]
  refine ⟨by first | exact i5_0 | exact i5_1 | exact i5_2 | exact i5_3 | exact i5_4 | exact i5_01 | exact i5_02 | exact i5_03 | exact i5_04 | exact i4_0 | exact i4_1 | exact i4_2 | exact i4_3 | exact i5_11 | exact i5_111 | decide, ?_⟩
  conv => whnf
  refine ⟨by first | exact i5_0 | exact i5_1 | exact i5_2 | exact i5_3 | exact i5_4 | exact i5_01 | exact i5_02 | exact i5_03 | exact i5_04 | exact i4_0 | exact i4_1 | exact i4_2 | exact i4_3 | exact i5_11 | exact i5_111 | decide, ?_⟩
  conv => whnf
  refine ⟨by first | exact i5_0 | exact i5_1 | exact i5_2 | exact i5_3 | exact i5_4 | exact i5_01 | exact i5_02 | exact i5_03 | exact i5_04 | exact i4_0 | exact i4_1 | exact i4_2 | exact i4_3 | exact i5_11 | exact i5_111 | decide, ?_⟩
  conv => whnf
  refine ⟨by first | exact i5_0 | exact i5_1 | exact i5_2 | exact i5_3 | exact i5_4 | exact i5_01 | exact i5_02 | exact i5_03 | exact i5_04 | exact i4_0 | exact i4_1 | exact i4_2 | exact i4_3 | exact i5_11 | exact i5_111 | decide, ?_⟩
  conv => whnf
  refine ⟨by first | exact i5_0 | exact i5_1 | exact i5_2 | exact i5_3 | exact i5_4 | exact i5_01 | exact i5_02 | exact i5_03 | exact i5_04 | exact i4_0 | exact i4_1 | exact i4_2 | exact i4_3 | exact i5_11 | exact i5_111 | decide, ?_⟩
  conv => whnf
  rw [e4]
  refine ⟨vp_in_nI (by show _ < 1280; omega) (by decide), ?_⟩
  conv => whnf
  refine ⟨by first | exact i5_0 | exact i5_1 | exact i5_2 | exact i5_3 | exact i5_4 | exact i5_01 | exact i5_02 | exact i5_03 | exact i5_04 | exact i4_0 | exact i4_1 | exact i4_2 | exact i4_3 | exact i5_11 | exact i5_111 | decide, ?_⟩
  conv => whnf
  rw [nI_clamp (n := a + 4) (by omega)]
  simp only [mm_l2, mm_ll, k_0, k_1, k_2, k_3, k_4, k0_1, k0_2, k0_3, k0_4, ov_0, ov_1, ov_2, ov_3, ov_4, mm_lne _ 118 150 _ (by decide), h4, lI_mul, lI_sub, lI_add, ov_u0, ov_u1, ov_u2, ov_u3]
  rw [show ((k : Nat) : Int) + ((l : Nat) : Int) = ((k + l : Nat) : Int) by omega, ov_u4]
  refine am_c0 (ct_red (d := d) (x := mu x y) (by omega) hb) ?_
  conv => whnf
  exact ⟨trivial, rfl, rfl⟩
set_option maxRecDepth 100000 in
theorem ct_mul152 {a k l : Nat} {x y : R4} (ha : a + 5 ≤ 10) (hk : k < 2 ^ 30) (hl : l < 2 ^ 30) (h : at5 (M.2 152) a y l) (hb : bd (mu x y)) : am_M (d + 2) false nm_X12_multiply [aR 108, aR 152, aI (nI a)] (mm_l M 118 (ov g x k)) (am_q0 (mm_l M 118 (ov g (red (k + l) (mu x y)).1 (red (k + l) (mu x y)).2))) := by
  obtain ⟨h0, h1, h2, h3, h4⟩ := h
  have e1 : nI a + 1 = nI (a + 1) := nI_1 a
  have e2 : nI a + 2 = nI (a + 2) := by rw [show (2 : Int32) = nI 2 from rfl, nI_add]
  have e3 : nI a + 3 = nI (a + 3) := by rw [show (3 : Int32) = nI 3 from rfl, nI_add]
  have e4 : nI a + 4 = nI (a + 4) := by rw [show (4 : Int32) = nI 4 from rfl, nI_add]
  refine ⟨rfl, rfl, rfl, fun X hX => am_run hX 200 _ _ _ _ ?_⟩
  conv => whnf
  refine ⟨by first | exact i5_0 | exact i5_1 | exact i5_2 | exact i5_3 | exact i5_4 | exact i5_01 | exact i5_02 | exact i5_03 | exact i5_04 | exact i4_0 | exact i4_1 | exact i4_2 | exact i4_3 | exact i5_11 | exact i5_111 | decide, ?_⟩
  conv => whnf
  refine ⟨by first | exact i5_0 | exact i5_1 | exact i5_2 | exact i5_3 | exact i5_4 | exact i5_01 | exact i5_02 | exact i5_03 | exact i5_04 | exact i4_0 | exact i4_1 | exact i4_2 | exact i4_3 | exact i5_11 | exact i5_111 | decide, ?_⟩
  conv => whnf
  refine ⟨by first | exact i5_0 | exact i5_1 | exact i5_2 | exact i5_3 | exact i5_4 | exact i5_01 | exact i5_02 | exact i5_03 | exact i5_04 | exact i4_0 | exact i4_1 | exact i4_2 | exact i4_3 | exact i5_11 | exact i5_111 | decide, ?_⟩
  conv => whnf
  refine ⟨by first | exact i5_0 | exact i5_1 | exact i5_2 | exact i5_3 | exact i5_4 | exact i5_01 | exact i5_02 | exact i5_03 | exact i5_04 | exact i4_0 | exact i4_1 | exact i4_2 | exact i4_3 | exact i5_11 | exact i5_111 | decide, ?_⟩
  conv => whnf
  refine ⟨vp_in_nI (by show _ < 10; omega) (by decide), ?_⟩
  conv => whnf
  rw [e1]
  refine ⟨vp_in_nI (by show _ < 10; omega) (by decide), ?_⟩
  conv => whnf
  rw [e2]
  refine ⟨vp_in_nI (by show _ < 10; omega) (by decide), ?_⟩
  conv => whnf
  rw [e3]
  refine ⟨vp_in_nI (by show _ < 10; omega) (by decide), ?_⟩
  conv => whnf
  rw [nI_clamp (n := a) (by omega), nI_clamp (n := a + 1) (by omega), nI_clamp (n := a + 2) (by omega), nI_clamp (n := a + 3) (by omega)]
  simp only [mm_l2, k_0, k_1, k_2, k_3, k_4, k0_1, k0_2, k0_3, k0_4, ov_0, ov_1, ov_2, ov_3, ov_4, mm_lne _ 118 152 _ (by decide), h0, h1, h2, h3, lI_mul, lI_add, lI_sub]
  refine ⟨by first | exact i5_0 | exact i5_1 | exact i5_2 | exact i5_3 | exact i5_4 | exact i5_01 | exact i5_02 | exact i5_03 | exact i5_04 | exact i4_0 | exact i4_1 | exact i4_2 | exact i4_3 | exact i5_11 | exact i5_111 | decide, ?_⟩
  conv => whnf
  refine ⟨by first | exact i5_0 | exact i5_1 | exact i5_2 | exact i5_3 | exact i5_4 | exact i5_01 | exact i5_02 | exact i5_03 | exact i5_04 | exact i4_0 | exact i4_1 | exact i4_2 | exact i4_3 | exact i5_11 | exact i5_111 | decide, ?_⟩
  conv => whnf
  refine ⟨by first | exact i5_0 | exact i5_1 | exact i5_2 | exact i5_3 | exact i5_4 | exact i5_01 | exact i5_02 | exact i5_03 | exact i5_04 | exact i4_0 | exact i4_1 | exact i4_2 | exact i4_3 | exact i5_11 | exact i5_111 | decide, ?_⟩
  conv => whnf
  refine ⟨by first | exact i5_0 | exact i5_1 | exact i5_2 | exact i5_3 | exact i5_4 | exact i5_01 | exact i5_02 | exact i5_03 | exact i5_04 | exact i4_0 | exact i4_1 | exact i4_2 | exact i4_3 | exact i5_11 | exact i5_111 | decide, ?_⟩
  conv => whnf
  refine ⟨by first | exact i5_0 | exact i5_1 | exact i5_2 | exact i5_3 | exact i5_4 | exact i5_01 | exact i5_02 | exact i5_03 | exact i5_04 | exact i4_0 | exact i4_1 | exact i4_2 | exact i4_3 | exact i5_11 | exact i5_111 | decide, ?_⟩
  conv => whnf
  rw [e4]
  refine ⟨vp_in_nI (by show _ < 10; omega) (by decide), ?_⟩
  conv => whnf
  refine ⟨by first | exact i5_0 | exact i5_1 | exact i5_2 | exact i5_3 | exact i5_4 | exact i5_01 | exact i5_02 | exact i5_03 | exact i5_04 | exact i4_0 | exact i4_1 | exact i4_2 | exact i4_3 | exact i5_11 | exact i5_111 | decide, ?_⟩
  conv => whnf
  rw [nI_clamp (n := a + 4) (by omega)]
  simp only [mm_l2, mm_ll, k_0, k_1, k_2, k_3, k_4, k0_1, k0_2, k0_3, k0_4, ov_0, ov_1, ov_2, ov_3, ov_4, mm_lne _ 118 152 _ (by decide), h4, lI_mul, lI_sub, lI_add, ov_u0, ov_u1, ov_u2, ov_u3]
  rw [show ((k : Nat) : Int) + ((l : Nat) : Int) = ((k + l : Nat) : Int) by omega, ov_u4]
  refine am_c0 (ct_red (d := d) (x := mu x y) (by omega) hb) ?_
  conv => whnf
  exact ⟨trivial, rfl, rfl⟩
set_option maxRecDepth 100000 in
theorem ad_l150 {P : am_Q} {X : am_X} {a : Nat} {s : Int32} (hX : am_K d false nm_X12_add P X) (ha : a + 5 ≤ 1280) (hP : X 28 [some (aR 108), some (aR 150), some (aI (nI a)), some (aI s), some (aI (nI 5))] [] (mm_l M 119 (fun j => if j < 5 then M.2 150 (a + j) else M.2 119 j))) : ∀ (m i : Nat), i + m = 5 → X 3 [some (aR 108), some (aR 150), some (aI (nI a)), some (aI s), some (aI (nI i))] [] (mm_l M 119 (fun j => if j < i then M.2 150 (a + j) else M.2 119 j)) := by
  intro m
  induction m with
  | zero =>
    intro i hi
    have hi : i = 5 := by omega
    subst hi
    refine am_run hX 3 _ _ _ _ ?_
    conv => whnf
    refine ⟨fun _ => ?_, fun c => absurd (by decide) c⟩
    exact hP
  | succ m ih =>
    intro i hi
    refine am_run hX 3 _ _ _ _ ?_
    conv => whnf
    refine ⟨fun c => absurd c (nI_ge (a := i) (b := 5) (by omega) (by decide)), fun _ => ?_⟩
    refine am_run hX 11 _ _ _ _ ?_
    conv => whnf
    rw [nI_add]
    refine ⟨vp_in_nI (by show _ < 1280; omega) (by decide), ?_⟩
    conv => whnf
    refine ⟨vp_in_nI (by show _ < 5; omega) (by decide), ?_⟩
    conv => whnf
    rw [nI_clamp (n := i) (by omega), nI_clamp (n := a + i) (by omega), nI_1, mm_l2, mm_ll, mm_lne _ 119 150 _ (by decide)]
    have e : vp_updL (fun j => if j < i then M.2 150 (a + j) else M.2 119 j) i (M.2 150 (a + i)) = fun j => if j < i + 1 then M.2 150 (a + j) else M.2 119 j := by
      funext j
      unfold vp_updL
      by_cases h : j = i
      · rw [if_pos h, if_pos (by omega), h]
      · rw [if_neg h]
        dsimp only
        by_cases h2 : j < i
        · rw [if_pos h2, if_pos (by omega)]
        · rw [if_neg h2, if_neg (by omega)]
    rw [e]
    exact ih (i + 1) (by omega)
set_option maxRecDepth 100000 in
theorem ct_add150p {a k l : Nat} {x y : R4} (ha : a + 5 ≤ 1280) (hk : k < 2 ^ 30) (hl : l < 2 ^ 30) (h : at5 (M.2 150) a y l) (hb : bd (rsum k x l (y))) : am_M (d + 2) false nm_X12_add [aR 108, aR 150, aI (nI a), aI 1] (mm_l M 118 (ov g x k)) (am_q0 (mm_l (mm_l M 119 (ov (M.2 119) (rn (max k l - l) y) (max k l))) 118 (ov g (red (max k l) (rsum k x l (y))).1 (red (max k l) (rsum k x l (y))).2))) := by
  obtain ⟨h0, h1, h2, h3, h4⟩ := h
  have em : max l k = max k l := Nat.max_comm l k
  have em2 : max k (max l k) = max k l := by omega
  refine ⟨rfl, rfl, rfl, fun X hX => am_run hX 2 _ _ _ _ ?_⟩
  conv => whnf
  have key := ad_l150 (M := mm_l M 118 (ov g x k)) (a := a) (s := 1) hX ha ?_ 5 0 (by omega)
  · have e : (fun j => if j < 0 then (mm_l M 118 (ov g x k)).2 150 (a + j) else (mm_l M 118 (ov g x k)).2 119 j) = (mm_l M 118 (ov g x k)).2 119 := by
      funext j
      rw [if_neg (by omega)]
    rw [e, mm_lz] at key
    exact key
  · rw [mm_lne _ 118 150 _ (by decide), mm_lne _ 118 119 _ (by decide), ov_of (g := M.2 119) h0 h1 h2 h3 h4]
    refine am_run hX 200 _ _ _ _ ?_
    conv => whnf
    refine ⟨by first | exact i5_0 | exact i5_1 | exact i5_2 | exact i5_3 | exact i5_4 | exact i5_01 | exact i5_02 | exact i5_03 | exact i5_04 | exact i4_0 | exact i4_1 | exact i4_2 | exact i4_3 | exact i5_11 | exact i5_111 | decide, ?_⟩
    conv => whnf
    simp only [k_4, mm_lne _ 119 118 _ (by decide), mm_l2, ov_4]
    refine am_c0 (ct_raise119 (d := d) (p := k) (by omega) (by omega)) ?_
    try simp only [List.drop_succ_cons, List.drop_zero, List.append_eq, List.nil_append, List.append_nil]
    conv => whnf
    refine ⟨by first | exact i5_0 | exact i5_1 | exact i5_2 | exact i5_3 | exact i5_4 | exact i5_01 | exact i5_02 | exact i5_03 | exact i5_04 | exact i4_0 | exact i4_1 | exact i4_2 | exact i4_3 | exact i5_11 | exact i5_111 | decide, ?_⟩
    conv => whnf
    simp only [k_4, mm_l2, ov_4]
    rw [mm_lc M 118 119 _ _ (by decide)]
    refine am_c0 (ct_raise118 (d := d) (p := max l k) (by omega) (by omega)) ?_
    try simp only [List.drop_succ_cons, List.drop_zero, List.append_eq, List.nil_append, List.append_nil]
    rw [em2, em]
    conv => whnf
    refine ⟨fun c => absurd c (by decide), fun _ => ?_⟩
    conv => whnf
    refine ⟨by first | exact i5_0 | exact i5_1 | exact i5_2 | exact i5_3 | exact i5_4 | exact i5_01 | exact i5_02 | exact i5_03 | exact i5_04 | exact i4_0 | exact i4_1 | exact i4_2 | exact i4_3 | exact i5_11 | exact i5_111 | decide, ?_⟩
    conv => whnf
    refine ⟨by first | exact i5_0 | exact i5_1 | exact i5_2 | exact i5_3 | exact i5_4 | exact i5_01 | exact i5_02 | exact i5_03 | exact i5_04 | exact i4_0 | exact i4_1 | exact i4_2 | exact i4_3 | exact i5_11 | exact i5_111 | decide, ?_⟩
    conv => whnf
    refine ⟨by first | exact i5_0 | exact i5_1 | exact i5_2 | exact i5_3 | exact i5_4 | exact i5_01 | exact i5_02 | exact i5_03 | exact i5_04 | exact i4_0 | exact i4_1 | exact i4_2 | exact i4_3 | exact i5_11 | exact i5_111 | decide, ?_⟩
    conv => whnf
    refine ⟨fun c => absurd c (by decide), fun _ => ?_⟩
    conv => whnf
    refine ⟨by first | exact i5_0 | exact i5_1 | exact i5_2 | exact i5_3 | exact i5_4 | exact i5_01 | exact i5_02 | exact i5_03 | exact i5_04 | exact i4_0 | exact i4_1 | exact i4_2 | exact i4_3 | exact i5_11 | exact i5_111 | decide, ?_⟩
    conv => whnf
    refine ⟨by first | exact i5_0 | exact i5_1 | exact i5_2 | exact i5_3 | exact i5_4 | exact i5_01 | exact i5_02 | exact i5_03 | exact i5_04 | exact i4_0 | exact i4_1 | exact i4_2 | exact i4_3 | exact i5_11 | exact i5_111 | decide, ?_⟩
    conv => whnf
    refine ⟨by first | exact i5_0 | exact i5_1 | exact i5_2 | exact i5_3 | exact i5_4 | exact i5_01 | exact i5_02 | exact i5_03 | exact i5_04 | exact i4_0 | exact i4_1 | exact i4_2 | exact i4_3 | exact i5_11 | exact i5_111 | decide, ?_⟩
    conv => whnf
    refine ⟨fun c => absurd c (by decide), fun _ => ?_⟩
    conv => whnf
    refine ⟨by first | exact i5_0 | exact i5_1 | exact i5_2 | exact i5_3 | exact i5_4 | exact i5_01 | exact i5_02 | exact i5_03 | exact i5_04 | exact i4_0 | exact i4_1 | exact i4_2 | exact i4_3 | exact i5_11 | exact i5_111 | decide, ?_⟩
    conv => whnf
    refine ⟨by first | exact i5_0 | exact i5_1 | exact i5_2 | exact i5_3 | exact i5_4 | exact i5_01 | exact i5_02 | exact i5_03 | exact i5_04 | exact i4_0 | exact i4_1 | exact i4_2 | exact i4_3 | exact i5_11 | exact i5_111 | decide, ?_⟩
    conv => whnf
    refine ⟨by first | exact i5_0 | exact i5_1 | exact i5_2 | exact i5_3 | exact i5_4 | exact i5_01 | exact i5_02 | exact i5_03 | exact i5_04 | exact i4_0 | exact i4_1 | exact i4_2 | exact i4_3 | exact i5_11 | exact i5_111 | decide, ?_⟩
    conv => whnf
    refine ⟨fun c => absurd c (by decide), fun _ => ?_⟩
    conv => whnf
    refine ⟨by first | exact i5_0 | exact i5_1 | exact i5_2 | exact i5_3 | exact i5_4 | exact i5_01 | exact i5_02 | exact i5_03 | exact i5_04 | exact i4_0 | exact i4_1 | exact i4_2 | exact i4_3 | exact i5_11 | exact i5_111 | decide, ?_⟩
    conv => whnf
    refine ⟨by first | exact i5_0 | exact i5_1 | exact i5_2 | exact i5_3 | exact i5_4 | exact i5_01 | exact i5_02 | exact i5_03 | exact i5_04 | exact i4_0 | exact i4_1 | exact i4_2 | exact i4_3 | exact i5_11 | exact i5_111 | decide, ?_⟩
    conv => whnf
    refine ⟨by first | exact i5_0 | exact i5_1 | exact i5_2 | exact i5_3 | exact i5_4 | exact i5_01 | exact i5_02 | exact i5_03 | exact i5_04 | exact i4_0 | exact i4_1 | exact i4_2 | exact i4_3 | exact i5_11 | exact i5_111 | decide, ?_⟩
    conv => whnf
    refine ⟨fun _ => ?_, fun c => absurd (by decide) c⟩
    conv => whnf
    simp only [mm_l2, mm_ll, mm_lne _ 118 119 _ (by decide), k_0, k_1, k_2, k_3, k_4, k0_1, k0_2, k0_3, k0_4, k0_11, k0_111, ov_0, ov_1, ov_2, ov_3, ov_4, s_p, s_m, lI_mul, Int.one_mul, lI_add, ov_u0, ov_u1, ov_u2, ov_u3]
    refine am_c0 (ct_red (d := d) (M := mm_l M 119 (ov (M.2 119) (rn (max k l - l) y) (max k l))) (g := g) (x := rsum k x l y) (k := max k l) (by omega) hb) ?_
    conv => whnf
    exact ⟨trivial, rfl, rfl⟩
set_option maxRecDepth 100000 in
theorem ct_add150m {a k l : Nat} {x y : R4} (ha : a + 5 ≤ 1280) (hk : k < 2 ^ 30) (hl : l < 2 ^ 30) (h : at5 (M.2 150) a y l) (hb : bd (rsum k x l (ng y))) : am_M (d + 2) false nm_X12_add [aR 108, aR 150, aI (nI a), aI (-1)] (mm_l M 118 (ov g x k)) (am_q0 (mm_l (mm_l M 119 (ov (M.2 119) (rn (max k l - l) y) (max k l))) 118 (ov g (red (max k l) (rsum k x l (ng y))).1 (red (max k l) (rsum k x l (ng y))).2))) := by
  unfold rsum at *
  rw [ng_rn] at *
  obtain ⟨h0, h1, h2, h3, h4⟩ := h
  have em : max l k = max k l := Nat.max_comm l k
  have em2 : max k (max l k) = max k l := by omega
  refine ⟨rfl, rfl, rfl, fun X hX => am_run hX 2 _ _ _ _ ?_⟩
  conv => whnf
  have key := ad_l150 (M := mm_l M 118 (ov g x k)) (a := a) (s := (-1)) hX ha ?_ 5 0 (by omega)
  · have e : (fun j => if j < 0 then (mm_l M 118 (ov g x k)).2 150 (a + j) else (mm_l M 118 (ov g x k)).2 119 j) = (mm_l M 118 (ov g x k)).2 119 := by
      funext j
      rw [if_neg (by omega)]
    rw [e, mm_lz] at key
    exact key
  · rw [mm_lne _ 118 150 _ (by decide), mm_lne _ 118 119 _ (by decide), ov_of (g := M.2 119) h0 h1 h2 h3 h4]
    refine am_run hX 200 _ _ _ _ ?_
    conv => whnf
    refine ⟨by first | exact i5_0 | exact i5_1 | exact i5_2 | exact i5_3 | exact i5_4 | exact i5_01 | exact i5_02 | exact i5_03 | exact i5_04 | exact i4_0 | exact i4_1 | exact i4_2 | exact i4_3 | exact i5_11 | exact i5_111 | decide, ?_⟩
    conv => whnf
    simp only [k_4, mm_lne _ 119 118 _ (by decide), mm_l2, ov_4]
    refine am_c0 (ct_raise119 (d := d) (p := k) (by omega) (by omega)) ?_
    try simp only [List.drop_succ_cons, List.drop_zero, List.append_eq, List.nil_append, List.append_nil]
    conv => whnf
    refine ⟨by first | exact i5_0 | exact i5_1 | exact i5_2 | exact i5_3 | exact i5_4 | exact i5_01 | exact i5_02 | exact i5_03 | exact i5_04 | exact i4_0 | exact i4_1 | exact i4_2 | exact i4_3 | exact i5_11 | exact i5_111 | decide, ?_⟩
    conv => whnf
    simp only [k_4, mm_l2, ov_4]
    rw [mm_lc M 118 119 _ _ (by decide)]
    refine am_c0 (ct_raise118 (d := d) (p := max l k) (by omega) (by omega)) ?_
    try simp only [List.drop_succ_cons, List.drop_zero, List.append_eq, List.nil_append, List.append_nil]
    rw [em2, em]
    conv => whnf
    refine ⟨fun c => absurd c (by decide), fun _ => ?_⟩
    conv => whnf
    refine ⟨by first | exact i5_0 | exact i5_1 | exact i5_2 | exact i5_3 | exact i5_4 | exact i5_01 | exact i5_02 | exact i5_03 | exact i5_04 | exact i4_0 | exact i4_1 | exact i4_2 | exact i4_3 | exact i5_11 | exact i5_111 | decide, ?_⟩
    conv => whnf
    refine ⟨by first | exact i5_0 | exact i5_1 | exact i5_2 | exact i5_3 | exact i5_4 | exact i5_01 | exact i5_02 | exact i5_03 | exact i5_04 | exact i4_0 | exact i4_1 | exact i4_2 | exact i4_3 | exact i5_11 | exact i5_111 | decide, ?_⟩
    conv => whnf
    refine ⟨by first | exact i5_0 | exact i5_1 | exact i5_2 | exact i5_3 | exact i5_4 | exact i5_01 | exact i5_02 | exact i5_03 | exact i5_04 | exact i4_0 | exact i4_1 | exact i4_2 | exact i4_3 | exact i5_11 | exact i5_111 | decide, ?_⟩
    conv => whnf
    refine ⟨fun c => absurd c (by decide), fun _ => ?_⟩
    conv => whnf
    refine ⟨by first | exact i5_0 | exact i5_1 | exact i5_2 | exact i5_3 | exact i5_4 | exact i5_01 | exact i5_02 | exact i5_03 | exact i5_04 | exact i4_0 | exact i4_1 | exact i4_2 | exact i4_3 | exact i5_11 | exact i5_111 | decide, ?_⟩
    conv => whnf
    refine ⟨by first | exact i5_0 | exact i5_1 | exact i5_2 | exact i5_3 | exact i5_4 | exact i5_01 | exact i5_02 | exact i5_03 | exact i5_04 | exact i4_0 | exact i4_1 | exact i4_2 | exact i4_3 | exact i5_11 | exact i5_111 | decide, ?_⟩
    conv => whnf
    refine ⟨by first | exact i5_0 | exact i5_1 | exact i5_2 | exact i5_3 | exact i5_4 | exact i5_01 | exact i5_02 | exact i5_03 | exact i5_04 | exact i4_0 | exact i4_1 | exact i4_2 | exact i4_3 | exact i5_11 | exact i5_111 | decide, ?_⟩
    conv => whnf
    refine ⟨fun c => absurd c (by decide), fun _ => ?_⟩
    conv => whnf
    refine ⟨by first | exact i5_0 | exact i5_1 | exact i5_2 | exact i5_3 | exact i5_4 | exact i5_01 | exact i5_02 | exact i5_03 | exact i5_04 | exact i4_0 | exact i4_1 | exact i4_2 | exact i4_3 | exact i5_11 | exact i5_111 | decide, ?_⟩
    conv => whnf
    refine ⟨by first | exact i5_0 | exact i5_1 | exact i5_2 | exact i5_3 | exact i5_4 | exact i5_01 | exact i5_02 | exact i5_03 | exact i5_04 | exact i4_0 | exact i4_1 | exact i4_2 | exact i4_3 | exact i5_11 | exact i5_111 | decide, ?_⟩
    conv => whnf
    refine ⟨by first | exact i5_0 | exact i5_1 | exact i5_2 | exact i5_3 | exact i5_4 | exact i5_01 | exact i5_02 | exact i5_03 | exact i5_04 | exact i4_0 | exact i4_1 | exact i4_2 | exact i4_3 | exact i5_11 | exact i5_111 | decide, ?_⟩
    conv => whnf
    refine ⟨fun c => absurd c (by decide), fun _ => ?_⟩
    conv => whnf
    refine ⟨by first | exact i5_0 | exact i5_1 | exact i5_2 | exact i5_3 | exact i5_4 | exact i5_01 | exact i5_02 | exact i5_03 | exact i5_04 | exact i4_0 | exact i4_1 | exact i4_2 | exact i4_3 | exact i5_11 | exact i5_111 | decide, ?_⟩
    conv => whnf
    refine ⟨by first | exact i5_0 | exact i5_1 | exact i5_2 | exact i5_3 | exact i5_4 | exact i5_01 | exact i5_02 | exact i5_03 | exact i5_04 | exact i4_0 | exact i4_1 | exact i4_2 | exact i4_3 | exact i5_11 | exact i5_111 | decide, ?_⟩
    conv => whnf
    refine ⟨by first | exact i5_0 | exact i5_1 | exact i5_2 | exact i5_3 | exact i5_4 | exact i5_01 | exact i5_02 | exact i5_03 | exact i5_04 | exact i4_0 | exact i4_1 | exact i4_2 | exact i4_3 | exact i5_11 | exact i5_111 | decide, ?_⟩
    conv => whnf
    refine ⟨fun _ => ?_, fun c => absurd (by decide) c⟩
    conv => whnf
    simp only [mm_l2, mm_ll, mm_lne _ 118 119 _ (by decide), k_0, k_1, k_2, k_3, k_4, k0_1, k0_2, k0_3, k0_4, k0_11, k0_111, ov_0, ov_1, ov_2, ov_3, ov_4, s_p, s_m, lI_mul, Int.neg_mul, Int.one_mul, lI_add, ov_u0, ov_u1, ov_u2, ov_u3]
    refine am_c0 (ct_red (d := d) (M := mm_l M 119 (ov (M.2 119) (rn (max k l - l) y) (max k l))) (g := g) (x := ra (rn (max k l - k) x) (ng (rn (max k l - l) y))) (k := max k l) (by omega) hb) ?_
    conv => whnf
    exact ⟨trivial, rfl, rfl⟩
set_option maxRecDepth 100000 in
theorem ad_l153 {P : am_Q} {X : am_X} {a : Nat} {s : Int32} (hX : am_K d false nm_X12_add P X) (ha : a + 5 ≤ 5) (hP : X 28 [some (aR 108), some (aR 153), some (aI (nI a)), some (aI s), some (aI (nI 5))] [] (mm_l M 119 (fun j => if j < 5 then M.2 153 (a + j) else M.2 119 j))) : ∀ (m i : Nat), i + m = 5 → X 3 [some (aR 108), some (aR 153), some (aI (nI a)), some (aI s), some (aI (nI i))] [] (mm_l M 119 (fun j => if j < i then M.2 153 (a + j) else M.2 119 j)) := by
  intro m
  induction m with
  | zero =>
    intro i hi
    have hi : i = 5 := by omega
    subst hi
    refine am_run hX 3 _ _ _ _ ?_
    conv => whnf
    refine ⟨fun _ => ?_, fun c => absurd (by decide) c⟩
    exact hP
  | succ m ih =>
    intro i hi
    refine am_run hX 3 _ _ _ _ ?_
    conv => whnf
    refine ⟨fun c => absurd c (nI_ge (a := i) (b := 5) (by omega) (by decide)), fun _ => ?_⟩
    refine am_run hX 11 _ _ _ _ ?_
    conv => whnf
    rw [nI_add]
    refine ⟨vp_in_nI (by show _ < 5; omega) (by decide), ?_⟩
    conv => whnf
    refine ⟨vp_in_nI (by show _ < 5; omega) (by decide), ?_⟩
    conv => whnf
    rw [nI_clamp (n := i) (by omega), nI_clamp (n := a + i) (by omega), nI_1, mm_l2, mm_ll, mm_lne _ 119 153 _ (by decide)]
    have e : vp_updL (fun j => if j < i then M.2 153 (a + j) else M.2 119 j) i (M.2 153 (a + i)) = fun j => if j < i + 1 then M.2 153 (a + j) else M.2 119 j := by
      funext j
      unfold vp_updL
      by_cases h : j = i
      · rw [if_pos h, if_pos (by omega), h]
      · rw [if_neg h]
        dsimp only
        by_cases h2 : j < i
        · rw [if_pos h2, if_pos (by omega)]
        · rw [if_neg h2, if_neg (by omega)]
    rw [e]
    exact ih (i + 1) (by omega)
set_option maxRecDepth 100000 in
theorem ct_add153p {a k l : Nat} {x y : R4} (ha : a + 5 ≤ 5) (hk : k < 2 ^ 30) (hl : l < 2 ^ 30) (h : at5 (M.2 153) a y l) (hb : bd (rsum k x l (y))) : am_M (d + 2) false nm_X12_add [aR 108, aR 153, aI (nI a), aI 1] (mm_l M 118 (ov g x k)) (am_q0 (mm_l (mm_l M 119 (ov (M.2 119) (rn (max k l - l) y) (max k l))) 118 (ov g (red (max k l) (rsum k x l (y))).1 (red (max k l) (rsum k x l (y))).2))) := by
  obtain ⟨h0, h1, h2, h3, h4⟩ := h
  have em : max l k = max k l := Nat.max_comm l k
  have em2 : max k (max l k) = max k l := by omega
  refine ⟨rfl, rfl, rfl, fun X hX => am_run hX 2 _ _ _ _ ?_⟩
  conv => whnf
  have key := ad_l153 (M := mm_l M 118 (ov g x k)) (a := a) (s := 1) hX ha ?_ 5 0 (by omega)
  · have e : (fun j => if j < 0 then (mm_l M 118 (ov g x k)).2 153 (a + j) else (mm_l M 118 (ov g x k)).2 119 j) = (mm_l M 118 (ov g x k)).2 119 := by
      funext j
      rw [if_neg (by omega)]
    rw [e, mm_lz] at key
    exact key
  · rw [mm_lne _ 118 153 _ (by decide), mm_lne _ 118 119 _ (by decide), ov_of (g := M.2 119) h0 h1 h2 h3 h4]
    refine am_run hX 200 _ _ _ _ ?_
    conv => whnf
    refine ⟨by first | exact i5_0 | exact i5_1 | exact i5_2 | exact i5_3 | exact i5_4 | exact i5_01 | exact i5_02 | exact i5_03 | exact i5_04 | exact i4_0 | exact i4_1 | exact i4_2 | exact i4_3 | exact i5_11 | exact i5_111 | decide, ?_⟩
    conv => whnf
    simp only [k_4, mm_lne _ 119 118 _ (by decide), mm_l2, ov_4]
    refine am_c0 (ct_raise119 (d := d) (p := k) (by omega) (by omega)) ?_
    try simp only [List.drop_succ_cons, List.drop_zero, List.append_eq, List.nil_append, List.append_nil]
    conv => whnf
    refine ⟨by first | exact i5_0 | exact i5_1 | exact i5_2 | exact i5_3 | exact i5_4 | exact i5_01 | exact i5_02 | exact i5_03 | exact i5_04 | exact i4_0 | exact i4_1 | exact i4_2 | exact i4_3 | exact i5_11 | exact i5_111 | decide, ?_⟩
    conv => whnf
    simp only [k_4, mm_l2, ov_4]
    rw [mm_lc M 118 119 _ _ (by decide)]
    refine am_c0 (ct_raise118 (d := d) (p := max l k) (by omega) (by omega)) ?_
    try simp only [List.drop_succ_cons, List.drop_zero, List.append_eq, List.nil_append, List.append_nil]
    rw [em2, em]
    conv => whnf
    refine ⟨fun c => absurd c (by decide), fun _ => ?_⟩
    conv => whnf
    refine ⟨by first | exact i5_0 | exact i5_1 | exact i5_2 | exact i5_3 | exact i5_4 | exact i5_01 | exact i5_02 | exact i5_03 | exact i5_04 | exact i4_0 | exact i4_1 | exact i4_2 | exact i4_3 | exact i5_11 | exact i5_111 | decide, ?_⟩
    conv => whnf
    refine ⟨by first | exact i5_0 | exact i5_1 | exact i5_2 | exact i5_3 | exact i5_4 | exact i5_01 | exact i5_02 | exact i5_03 | exact i5_04 | exact i4_0 | exact i4_1 | exact i4_2 | exact i4_3 | exact i5_11 | exact i5_111 | decide, ?_⟩
    conv => whnf
    refine ⟨by first | exact i5_0 | exact i5_1 | exact i5_2 | exact i5_3 | exact i5_4 | exact i5_01 | exact i5_02 | exact i5_03 | exact i5_04 | exact i4_0 | exact i4_1 | exact i4_2 | exact i4_3 | exact i5_11 | exact i5_111 | decide, ?_⟩
    conv => whnf
    refine ⟨fun c => absurd c (by decide), fun _ => ?_⟩
    conv => whnf
    refine ⟨by first | exact i5_0 | exact i5_1 | exact i5_2 | exact i5_3 | exact i5_4 | exact i5_01 | exact i5_02 | exact i5_03 | exact i5_04 | exact i4_0 | exact i4_1 | exact i4_2 | exact i4_3 | exact i5_11 | exact i5_111 | decide, ?_⟩
    conv => whnf
    refine ⟨by first | exact i5_0 | exact i5_1 | exact i5_2 | exact i5_3 | exact i5_4 | exact i5_01 | exact i5_02 | exact i5_03 | exact i5_04 | exact i4_0 | exact i4_1 | exact i4_2 | exact i4_3 | exact i5_11 | exact i5_111 | decide, ?_⟩
    conv => whnf
    refine ⟨by first | exact i5_0 | exact i5_1 | exact i5_2 | exact i5_3 | exact i5_4 | exact i5_01 | exact i5_02 | exact i5_03 | exact i5_04 | exact i4_0 | exact i4_1 | exact i4_2 | exact i4_3 | exact i5_11 | exact i5_111 | decide, ?_⟩
    conv => whnf
    refine ⟨fun c => absurd c (by decide), fun _ => ?_⟩
    conv => whnf
    refine ⟨by first | exact i5_0 | exact i5_1 | exact i5_2 | exact i5_3 | exact i5_4 | exact i5_01 | exact i5_02 | exact i5_03 | exact i5_04 | exact i4_0 | exact i4_1 | exact i4_2 | exact i4_3 | exact i5_11 | exact i5_111 | decide, ?_⟩
    conv => whnf
    refine ⟨by first | exact i5_0 | exact i5_1 | exact i5_2 | exact i5_3 | exact i5_4 | exact i5_01 | exact i5_02 | exact i5_03 | exact i5_04 | exact i4_0 | exact i4_1 | exact i4_2 | exact i4_3 | exact i5_11 | exact i5_111 | decide, ?_⟩
    conv => whnf
    refine ⟨by first | exact i5_0 | exact i5_1 | exact i5_2 | exact i5_3 | exact i5_4 | exact i5_01 | exact i5_02 | exact i5_03 | exact i5_04 | exact i4_0 | exact i4_1 | exact i4_2 | exact i4_3 | exact i5_11 | exact i5_111 | decide, ?_⟩
    conv => whnf
    refine ⟨fun c => absurd c (by decide), fun _ => ?_⟩
    conv => whnf
    refine ⟨by first | exact i5_0 | exact i5_1 | exact i5_2 | exact i5_3 | exact i5_4 | exact i5_01 | exact i5_02 | exact i5_03 | exact i5_04 | exact i4_0 | exact i4_1 | exact i4_2 | exact i4_3 | exact i5_11 | exact i5_111 | decide, ?_⟩
    conv => whnf
    refine ⟨by first | exact i5_0 | exact i5_1 | exact i5_2 | exact i5_3 | exact i5_4 | exact i5_01 | exact i5_02 | exact i5_03 | exact i5_04 | exact i4_0 | exact i4_1 | exact i4_2 | exact i4_3 | exact i5_11 | exact i5_111 | decide, ?_⟩
    conv => whnf
    refine ⟨by first | exact i5_0 | exact i5_1 | exact i5_2 | exact i5_3 | exact i5_4 | exact i5_01 | exact i5_02 | exact i5_03 | exact i5_04 | exact i4_0 | exact i4_1 | exact i4_2 | exact i4_3 | exact i5_11 | exact i5_111 | decide, ?_⟩
    conv => whnf
    refine ⟨fun _ => ?_, fun c => absurd (by decide) c⟩
    conv => whnf
    simp only [mm_l2, mm_ll, mm_lne _ 118 119 _ (by decide), k_0, k_1, k_2, k_3, k_4, k0_1, k0_2, k0_3, k0_4, k0_11, k0_111, ov_0, ov_1, ov_2, ov_3, ov_4, s_p, s_m, lI_mul, Int.one_mul, lI_add, ov_u0, ov_u1, ov_u2, ov_u3]
    refine am_c0 (ct_red (d := d) (M := mm_l M 119 (ov (M.2 119) (rn (max k l - l) y) (max k l))) (g := g) (x := rsum k x l y) (k := max k l) (by omega) hb) ?_
    conv => whnf
    exact ⟨trivial, rfl, rfl⟩
end OPS
