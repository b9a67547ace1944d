/-! mix, the reference: a gate on every column -/
section MXA
variable {d : Nat} {M : mm_M} {g : Nat → Int64}
set_option maxRecDepth 100000 in
theorem st_l162 {P : am_Q} {X : am_X} {a : Nat} (hX : am_K d false nm_X12_store P X) (ha : a + 5 ≤ 320) (hP : P (.inl none) (mm_l M 162 (sv (M.2 162) a (M.2 118)))) : ∀ (m i : Nat), i + m = 5 → X 2 [some (aR 108), some (aR 162), some (aI (nI a)), some (aI (nI i))] [] (mm_l M 162 (fun j => if a ≤ j ∧ j < a + i then M.2 118 (j - a) else M.2 162 j)) := by
  intro m
  induction m with
  | zero =>
    intro i hi
    have hi : i = 5 := by omega
    subst hi
    refine am_run hX 4 _ _ _ _ ?_
    conv => whnf
    refine ⟨fun _ => ?_, fun c => absurd (by decide) c⟩
    conv => whnf
    exact ⟨trivial, hP⟩
  | succ m ih =>
    intro i hi
    refine am_run hX 3 _ _ _ _ ?_
    conv => whnf
    refine ⟨fun c => absurd c (nI_ge (a := i) (b := 5) (by omega) (by decide)), fun _ => ?_⟩
    refine am_run hX 11 _ _ _ _ ?_
    conv => whnf
    refine ⟨vp_in_nI (by show _ < 5; omega) (by decide), ?_⟩
    conv => whnf
    rw [nI_add]
    refine ⟨vp_in_nI (by show _ < 320; omega) (by decide), ?_⟩
    conv => whnf
    rw [nI_clamp (n := i) (by omega), nI_clamp (n := a + i) (by omega), nI_1, mm_l2, mm_ll, mm_lne _ 162 118 _ (by decide)]
    have e : vp_updL (fun j => if a ≤ j ∧ j < a + i then M.2 118 (j - a) else M.2 162 j) (a + i) (M.2 118 i) = fun j => if a ≤ j ∧ j < a + (i + 1) then M.2 118 (j - a) else M.2 162 j := by
      funext j
      unfold vp_updL
      by_cases h : j = a + i
      · rw [if_pos h, if_pos (by omega), h, Nat.add_sub_cancel_left]
      · rw [if_neg h]
        dsimp only
        by_cases h2 : a ≤ j ∧ j < a + i
        · rw [if_pos h2, if_pos (by omega)]
        · rw [if_neg h2, if_neg (by omega)]
    rw [e]
    exact ih (i + 1) (by omega)
set_option maxRecDepth 100000 in
theorem ct_store162 {a : Nat} (ha : a + 5 ≤ 320) : am_M (d + 1) false nm_X12_store [aR 108, aR 162, aI (nI a)] M (am_q0 (mm_l M 162 (sv (M.2 162) a (M.2 118)))) := by
  refine ⟨rfl, rfl, rfl, fun X hX => am_run hX 2 _ _ _ _ ?_⟩
  conv => whnf
  have key := st_l162 (M := M) (a := a) hX ha ⟨rfl, rfl⟩ 5 0 (by omega)
  have e : (fun j => if a ≤ j ∧ j < a + 0 then M.2 118 (j - a) else M.2 162 j) = M.2 162 := by
    funext j
    rw [if_neg (by omega)]
  rw [e, mm_lz] at key
  exact key
/-- what may change -/
def mgF (M N : mm_M) : Prop := (∀ k, k ≠ 108 → N.1 k = M.1 k) ∧ (∀ j, j ≠ 74 → N.1 108 j = M.1 108 j) ∧ (∀ c, c ≠ 118 → c ≠ 119 → c ≠ 150 → c ≠ 152 → c ≠ 162 → c ≠ 163 → N.2 c = M.2 c) ∧ ∀ j, 40 ≤ j → N.2 150 j = M.2 150 j
theorem mgF_r (M : mm_M) : mgF M M := ⟨fun _ _ => rfl, fun _ _ => rfl, fun _ _ _ _ _ _ _ => rfl, fun _ _ => rfl⟩
theorem mgF_t {M N K : mm_M} (h : mgF M N) (h' : mgF N K) : mgF M K := ⟨fun k a => (h'.1 k a).trans (h.1 k a), fun j a => (h'.2.1 j a).trans (h.2.1 j a), fun c a b e f i j => (h'.2.2.1 c a b e f i j).trans (h.2.2.1 c a b e f i j), fun j a => (h'.2.2.2 j a).trans (h.2.2.2 j a)⟩
theorem mgF_l {N : mm_M} {c : Nat} {f : Nat → Int64} (h : c = 118 ∨ c = 119 ∨ c = 152 ∨ c = 162 ∨ c = 163) : mgF N (mm_l N c f) := by
  refine ⟨fun _ _ => rfl, fun _ _ => rfl, fun k a b e i j l => if_neg (by omega), fun j _ => ?_⟩
  show (if 150 = c then f else N.2 150) j = N.2 150 j
  rw [if_neg (by omega)]
theorem mgF_5 {N : mm_M} {f : Nat → Int64} {a : Nat} (ha : a + 5 ≤ 40) : mgF N (mm_l N 150 (sv (N.2 150) a f)) := by
  refine ⟨fun _ _ => rfl, fun _ _ => rfl, fun k _ _ e _ _ _ => if_neg e, fun j hj => ?_⟩
  rw [mm_l2]
  unfold sv
  rw [if_neg (by omega)]
set_option maxRecDepth 100000 in
theorem ac_1 {W j : Nat} {v1 : Int32} {ys : Nat → R4 × Nat} {Pp : am_Q} {X : am_X} (hX : am_K (d + 5) false nm_X12_applyColumns Pp X) (hW : W ≤ 3) (hj : j < 8) (e88 : M.1 108 88 = nI W) (hy : ∀ i, i < 2 ^ W → at5 (M.2 162) (5 * (8 * i + j)) (ys i).1 (ys i).2) (hE : ∀ N, mgF M N → N.2 162 = M.2 162 → (∀ i, i < 2 ^ W → at5 (N.2 150) (5 * i) (ys i).1 (ys i).2) → X 54 [some (aR 108), some (aI v1), some (aI (nI j)), some (aI (nI (2 ^ W)))] [] N) : ∀ m i N, i + m = 2 ^ W → mgF M N → N.2 162 = M.2 162 → (∀ i', i' < i → at5 (N.2 150) (5 * i') (ys i').1 (ys i').2) → X 14 [some (aR 108), some (aI v1), some (aI (nI j)), some (aI (nI i))] [] N := by
  have w8 : 2 ^ W ≤ 8 := (Nat.pow_le_pow_right (n := 2) (by decide) hW : 2 ^ W ≤ 2 ^ 3)
  intro m
  induction m with
  | zero =>
    intro i N hi hf h2 h5
    have hi : i = 2 ^ W := by omega
    subst hi
    refine am_run hX 6 _ _ _ _ ?_
    conv => whnf
    rw [hf.2.1 88 (by decide), e88, sh2 W (by omega)]
    exact ⟨fun _ => hE N hf h2 h5, fun c => absurd (nI_le (by omega) (by omega)) c⟩
  | succ m ih =>
    intro i N hi hf h2 h5
    refine am_run hX 6 _ _ _ _ ?_
    conv => whnf
    rw [hf.2.1 88 (by decide), e88, sh2 W (by omega)]
    refine ⟨fun c => absurd c (nI_ge (by omega) (by omega)), fun _ => ?_⟩
    have hx : at5 (N.2 162) (5 * (8 * i + j)) (ys i).1 (ys i).2 := by
      rw [h2]
      exact hy i (by omega)
    refine am_run hX 6 _ _ _ _ ?_
    conv => whnf
    refine am_c1 (ct_cell (d := d + 4) i j) ?_
    conv => whnf
    refine am_run hX 1 _ _ _ _ ?_
    conv => whnf
    refine am_c0 (ct_ld162 (d := d + 4) (by omega) hx) ?_
    conv => whnf
    refine am_run hX 7 _ _ _ _ ?_
    conv => whnf
    rw [show (5 : Int32) = nI 5 from rfl, nI_mul]
    refine am_c0 (ct_store150 (d := d + 4) (by omega)) ?_
    conv => whnf
    refine am_run hX 2 _ _ _ _ ?_
    conv => whnf
    rw [nI_1]
    refine ih (i + 1) _ (by omega) (mgF_t hf (mgF_t (mgF_l (Or.inl rfl)) (mgF_5 (by omega)))) h2 fun i' hi' => ?_
    rw [mm_l2, mm_l2]
    by_cases e : i' = i
    · rw [e]
      exact at_sv _ _ _ _ _
    · refine at5_e (fun q q1 q2 => ?_) (h5 i' (by omega))
      unfold sv
      rw [if_neg (by omega)]
      rfl
set_option maxRecDepth 100000 in
theorem ac_2 {W j : Nat} {v1 : Int32} {ys : Nat → R4 × Nat} {Pp : am_Q} {X : am_X} (hX : am_K (d + 5) false nm_X12_applyColumns Pp X) (hW : W ≤ 3) (hj : j < 2 ^ W) (e88 : M.1 108 88 = nI W) (hy : ∀ i, i < 2 ^ W → at5 (M.2 150) (5 * i) (ys i).1 (ys i).2) (hE : ∀ N, mgF M N → (∀ i, i < 2 ^ W → at5 (N.2 162) (5 * (8 * i + j)) (ys i).1 (ys i).2) → (∀ i b, i < 2 ^ W → b < 2 ^ W → b ≠ j → ∀ q, 5 * (8 * i + b) ≤ q → q < 5 * (8 * i + b) + 5 → N.2 162 q = M.2 162 q) → X 101 [some (aR 108), some (aI v1), some (aI (nI j)), some (aI (nI (2 ^ W)))] [] N) : ∀ m i N, i + m = 2 ^ W → mgF M N → N.2 150 = M.2 150 → (∀ i', i' < i → at5 (N.2 162) (5 * (8 * i' + j)) (ys i').1 (ys i').2) → (∀ i b, i < 2 ^ W → b < 2 ^ W → b ≠ j → ∀ q, 5 * (8 * i + b) ≤ q → q < 5 * (8 * i + b) + 5 → N.2 162 q = M.2 162 q) → X 61 [some (aR 108), some (aI v1), some (aI (nI j)), some (aI (nI i))] [] N := by
  have w8 : 2 ^ W ≤ 8 := (Nat.pow_le_pow_right (n := 2) (by decide) hW : 2 ^ W ≤ 2 ^ 3)
  intro m
  induction m with
  | zero =>
    intro i N hi hf h2 h5 h6
    have hi : i = 2 ^ W := by omega
    subst hi
    refine am_run hX 6 _ _ _ _ ?_
    conv => whnf
    rw [hf.2.1 88 (by decide), e88, sh2 W (by omega)]
    exact ⟨fun _ => hE N hf h5 h6, fun c => absurd (nI_le (by omega) (by omega)) c⟩
  | succ m ih =>
    intro i N hi hf h2 h5 h6
    refine am_run hX 6 _ _ _ _ ?_
    conv => whnf
    rw [hf.2.1 88 (by decide), e88, sh2 W (by omega)]
    refine ⟨fun c => absurd c (nI_ge (by omega) (by omega)), fun _ => ?_⟩
    have hx : at5 (N.2 150) (5 * i) (ys i).1 (ys i).2 := by
      rw [h2]
      exact hy i (by omega)
    refine am_run hX 7 _ _ _ _ ?_
    conv => whnf
    rw [show (5 : Int32) = nI 5 from rfl, nI_mul]
    refine am_c0 (ct_ld150 (d := d + 4) (by omega) hx) ?_
    conv => whnf
    refine am_run hX 6 _ _ _ _ ?_
    conv => whnf
    refine am_c1 (ct_cell (d := d + 4) i j) ?_
    conv => whnf
    refine am_run hX 1 _ _ _ _ ?_
    conv => whnf
    refine am_c0 (ct_store162 (d := d + 4) (by omega)) ?_
    conv => whnf
    refine am_run hX 2 _ _ _ _ ?_
    conv => whnf
    rw [nI_1]
    refine ih (i + 1) _ (by omega) (mgF_t hf (mgF_t (mgF_l (Or.inl rfl)) (mgF_l (by omega)))) h2 (fun i' hi' => ?_) (fun a b ha hb hbj q q1 q2 => ?_)
    · rw [mm_l2, mm_l2]
      by_cases e : i' = i
      · rw [e]
        exact at_sv _ _ _ _ _
      · refine at5_e (fun q q1 q2 => ?_) (h5 i' (by omega))
        unfold sv
        rw [if_neg (by omega)]
        rfl
    · rw [mm_l2]
      unfold sv
      rw [if_neg (by omega)]
      exact h6 a b ha hb hbj q q1 q2
end MXA
