/-! mix, the class: what is wiped -/
section MXW
variable {d : Nat} {M : mm_M} {g : Nat → Int64}
set_option maxRecDepth 100000 in
theorem wo_b_d {P : am_Q} {X : am_X} {N i p : Nat} {xs : Nat → R4} (hX : am_K d false nm_X6_wipeOne P X) (hN : N ≤ 64) (hi : i < N) (hp : p < 4) (hK : X 2 [some (aR 105), some (aI (nI i)), some (aI (nI (p + 1)))] [] (mm_l M 107 (cq g N (stpp xs i p 0)))) : X 2 [some (aR 105), some (aI (nI i)), some (aI (nI p))] [] (mm_l M 107 (cq g N xs)) := by
  refine am_run hX 3 _ _ _ _ ?_
  conv => whnf
  refine ⟨fun c => absurd c (nI_ge (a := p) (b := 4) hp (by decide)), fun _ => ?_⟩
  refine am_run hX 11 _ _ _ _ ?_
  conv => whnf
  rw [show (4 : Int32) * nI i + nI p = nI (4 * i + p) from by rw [show (4 : Int32) = nI 4 from rfl, nI_mul, nI_add]]
  refine ⟨vp_in_nI (by show _ < 256; omega) (by decide), ?_⟩
  conv => whnf
  rw [nI_clamp (n := 4 * i + p) (by omega), nI_1, mm_l2, mm_ll, show (0 : Int64) = lI 0 from by decide, cq_u 0 hi hp]
  exact hK
set_option maxRecDepth 100000 in
theorem ct_wipe1_d {N i : Nat} {xs : Nat → R4} (hN : N ≤ 64) (hi : i < N) : am_M (d + 1) false nm_X6_wipeOne [aR 105, aI (nI i)] (mm_l M 107 (cq g N xs)) (am_q0 (mm_l M 107 (cq g N (stx xs i (0, 0, 0, 0))))) := by
  refine ⟨rfl, rfl, rfl, fun X hX => am_run hX 2 _ _ _ _ ?_⟩
  conv => whnf
  refine wo_b_d (p := 0) hX hN hi (by decide) (wo_b_d (p := 1) hX hN hi (by decide) (wo_b_d (p := 2) hX hN hi (by decide) (wo_b_d (p := 3) hX hN hi (by decide) ?_)))
  rw [wo_4]
  refine am_run hX 10 _ _ _ _ ?_
  conv => whnf
  refine ⟨fun _ => ?_, fun c => absurd (by decide) c⟩
  conv => whnf
  exact ⟨trivial, rfl, rfl⟩
set_option maxRecDepth 100000 in
theorem wi_l_d {P : am_Q} {X : am_X} {N : Nat} {mk v : Int32} {xs : Nat → R4} (hX : am_K (d + 1) false nm_X6_wipe P X) (hN : N ≤ 64) (hs : M.1 105 2 = nI N) (hP : P (.inl none) (mm_l M 107 (cq g N (rotm (fun i => nI i &&& mk = v) (fun _ => (0, 0, 0, 0)) xs N)))) : ∀ (m i : Nat), i + m = N → X 2 [some (aR 105), some (aI mk), some (aI v), some (aI (nI i))] [] (mm_l M 107 (cq g N (rotm (fun i => nI i &&& mk = v) (fun _ => (0, 0, 0, 0)) xs i))) := by
  intro m
  induction m with
  | zero =>
    intro i hi
    have hi : i = N := by omega
    subst hi
    refine am_run hX 10 _ _ _ _ ?_
    conv => whnf
    rw [show (mm_l M 107 (cq g i (rotm (fun i => nI i &&& mk = v) (fun _ => (0, 0, 0, 0)) xs i))).1 105 2 = nI i from hs]
    refine ⟨fun _ => ?_, fun c => absurd (nI_le (by omega) (by omega)) c⟩
    conv => whnf
    exact ⟨trivial, hP⟩
  | succ m ih =>
    intro i hi
    have ih := ih (i + 1) (by omega)
    refine am_run hX 4 _ _ _ _ ?_
    conv => whnf
    rw [show (mm_l M 107 (cq g N (rotm (fun i => nI i &&& mk = v) (fun _ => (0, 0, 0, 0)) xs i))).1 105 2 = nI N from hs]
    refine ⟨fun c => absurd c (nI_ge (by omega) (by omega)), fun _ => ?_⟩
    refine am_run hX 5 _ _ _ _ ?_
    conv => whnf
    refine ⟨fun q => ?_, fun q => ?_⟩
    · refine am_run hX 2 _ _ _ _ ?_
      conv => whnf
      rw [nI_1]
      rw [← rot_n (S := fun i => nI i &&& mk = v) q] at ih
      exact ih
    · have q : nI i &&& mk = v := Decidable.byContradiction q
      refine am_run hX 5 _ _ _ _ ?_
      conv => whnf
      refine am_c0 (ct_wipe1_d (d := d) hN (by omega)) ?_
      rw [rot_s (S := fun i => nI i &&& mk = v) (F := fun _ => (0, 0, 0, 0)) q]
      conv => whnf
      rw [nI_1]
      exact ih
set_option maxRecDepth 100000 in
theorem ct_wipe_d {N : Nat} {mk v : Int32} {xs : Nat → R4} (hN : N ≤ 64) (hs : M.1 105 2 = nI N) : am_M (d + 2) false nm_X6_wipe [aR 105, aI mk, aI v] (mm_l M 107 (cq g N xs)) (am_q0 (mm_l M 107 (cq g N (rotm (fun i => nI i &&& mk = v) (fun _ => (0, 0, 0, 0)) xs N)))) := by
  refine ⟨rfl, rfl, rfl, fun X hX => am_run hX 2 _ _ _ _ ?_⟩
  conv => whnf
  have key := wi_l_d (d := d) (M := M) (g := g) (xs := xs) (mk := mk) (v := v) hX hN hs ⟨rfl, rfl⟩ N 0 (by omega)
  rw [rot_0] at key
  exact key
end MXW
