/-! mix, the reference: adjoint -/
theorem cj_0 (x : R4) : cj x = (0, 0, 0, 0) ↔ x = (0, 0, 0, 0) := by
  constructor
  · intro h
    rw [← cj_cj x, h]
    rfl
  · intro h
    rw [h]
    rfl
theorem cj_dv (x : R4) : dv (cj x) ↔ dv x := by
  obtain ⟨a, b, c, e⟩ := x
  simp only [dv, cj]
  omega
theorem cj_hv {x : R4} (h : dv x) : hv (cj x) = cj (hv x) := by
  obtain ⟨a, b, c, e⟩ := x
  simp only [dv] at h
  simp only [hv, cj]
  exact r4_e (by dsimp only; omega) (by dsimp only; omega) (by dsimp only; omega) (by dsimp only; omega)
theorem red_cj : ∀ (k : Nat) (x : R4), red k (cj x) = (cj (red k x).1, (red k x).2)
  | 0, x => rfl
  | k + 1, x => by
    simp only [red]
    by_cases h : x = (0, 0, 0, 0)
    · subst h
      rfl
    · rw [if_neg (fun q => h ((cj_0 x).mp q)), if_neg h]
      by_cases hd : dvB x = true
      · rw [if_pos hd, if_pos ((dvB_iff _).mpr ((cj_dv x).mpr ((dvB_iff x).mp hd))), cj_hv ((dvB_iff x).mp hd), red_cj k (hv x)]
      · rw [if_neg hd, if_neg (fun q => hd ((dvB_iff x).mpr ((cj_dv x).mp ((dvB_iff _).mp q))))]
def dnA (i j a b : Nat) : Prop := (a < i ∧ b < i) ∨ (a = i ∧ b < j) ∨ (b = i ∧ a < j)
section MXJ
variable {d : Nat} {M : mm_M}
set_option maxRecDepth 100000 in
theorem aj_1 {i j K : Nat} {y z : R4} {Pp : am_Q} {X : am_X} (hX : am_K (d + 1) false nm_X12_adjoin Pp X) (hi : i < 8) (hj : j < 8) (hy : at5 (M.2 162) (5 * (8 * i + j)) (red K y).1 (red K y).2) (hz : at5 (M.2 162) (5 * (8 * j + i)) (red K z).1 (red K z).2) (hij : i = j → y = z) (hE : ∀ N, mgF M N → N.2 150 = M.2 150 → at5 (N.2 162) (5 * (8 * i + j)) (red K (cj z)).1 (red K (cj z)).2 → at5 (N.2 162) (5 * (8 * j + i)) (red K (cj y)).1 (red K (cj y)).2 → (∀ q, (q < 5 * (8 * i + j) ∨ 5 * (8 * i + j) + 5 ≤ q) → (q < 5 * (8 * j + i) ∨ 5 * (8 * j + i) + 5 ≤ q) → N.2 162 q = M.2 162 q) → X 97 [some (aR 108), some (aI (nI i)), some (aI (nI j))] [] N) : X 19 [some (aR 108), some (aI (nI i)), some (aI (nI j))] [] M := by
  have e1 := red_cj K y
  have e2 := red_cj K z
  refine am_run hX 6 _ _ _ _ ?_
  conv => whnf
  refine am_c1 (ct_cell (d := d) i j) ?_
  conv => whnf
  refine am_run hX 1 _ _ _ _ ?_
  conv => whnf
  refine am_c0 (ct_ld162 (d := d) (by omega) hy) ?_
  conv => whnf
  refine am_run hX 2 _ _ _ _ ?_
  conv => whnf
  refine am_c0 (ct_conj (d := d)) ?_
  conv => whnf
  refine am_run hX 5 _ _ _ _ ?_
  conv => whnf
  refine am_c0 (ct_store163 (d := d) (a := 0) (by decide)) ?_
  conv => whnf
  refine am_run hX 6 _ _ _ _ ?_
  conv => whnf
  refine am_c1 (ct_cell (d := d) j i) ?_
  conv => whnf
  refine am_run hX 1 _ _ _ _ ?_
  conv => whnf
  have F1 : mgF M (mm_l (mm_l M 118 (ov (M.2 118) (cj (red K y).1) (red K y).2)) 163 (sv ((mm_l M 118 (ov (M.2 118) (cj (red K y).1) (red K y).2)).2 163) 0 ((mm_l M 118 (ov (M.2 118) (cj (red K y).1) (red K y).2)).2 118))) := mgF_t (mgF_l (Or.inl rfl)) (mgF_l (by omega))
  have G1 : at5 ((mm_l (mm_l M 118 (ov (M.2 118) (cj (red K y).1) (red K y).2)) 163 (sv ((mm_l M 118 (ov (M.2 118) (cj (red K y).1) (red K y).2)).2 163) 0 ((mm_l M 118 (ov (M.2 118) (cj (red K y).1) (red K y).2)).2 118))).2 163) 0 (cj (red K y).1) (red K y).2 := by
    rw [mm_l2, mm_l2]
    exact at_sv _ _ _ _ _
  have H1 : (mm_l (mm_l M 118 (ov (M.2 118) (cj (red K y).1) (red K y).2)) 163 (sv ((mm_l M 118 (ov (M.2 118) (cj (red K y).1) (red K y).2)).2 163) 0 ((mm_l M 118 (ov (M.2 118) (cj (red K y).1) (red K y).2)).2 118))).2 162 = M.2 162 := rfl
  have I1 : (mm_l (mm_l M 118 (ov (M.2 118) (cj (red K y).1) (red K y).2)) 163 (sv ((mm_l M 118 (ov (M.2 118) (cj (red K y).1) (red K y).2)).2 163) 0 ((mm_l M 118 (ov (M.2 118) (cj (red K y).1) (red K y).2)).2 118))).2 150 = M.2 150 := rfl
  generalize mm_l (mm_l M 118 (ov (M.2 118) (cj (red K y).1) (red K y).2)) 163 (sv ((mm_l M 118 (ov (M.2 118) (cj (red K y).1) (red K y).2)).2 163) 0 ((mm_l M 118 (ov (M.2 118) (cj (red K y).1) (red K y).2)).2 118)) = N1 at *
  refine am_c0 (ct_ld162 (d := d) (M := N1) (by omega) (by rw [H1]; exact hz)) ?_
  conv => whnf
  refine am_run hX 2 _ _ _ _ ?_
  conv => whnf
  refine am_c0 (ct_conj (d := d)) ?_
  conv => whnf
  refine am_run hX 6 _ _ _ _ ?_
  conv => whnf
  refine am_c1 (ct_cell (d := d) i j) ?_
  conv => whnf
  refine am_run hX 1 _ _ _ _ ?_
  conv => whnf
  refine am_c0 (ct_store162 (d := d) (by omega)) ?_
  conv => whnf
  have F2 : mgF N1 (mm_l (mm_l N1 118 (ov (N1.2 118) (cj (red K z).1) (red K z).2)) 162 (sv ((mm_l N1 118 (ov (N1.2 118) (cj (red K z).1) (red K z).2)).2 162) (5 * (8 * i + j)) ((mm_l N1 118 (ov (N1.2 118) (cj (red K z).1) (red K z).2)).2 118))) := mgF_t (mgF_l (Or.inl rfl)) (mgF_l (by omega))
  have G2 : at5 ((mm_l (mm_l N1 118 (ov (N1.2 118) (cj (red K z).1) (red K z).2)) 162 (sv ((mm_l N1 118 (ov (N1.2 118) (cj (red K z).1) (red K z).2)).2 162) (5 * (8 * i + j)) ((mm_l N1 118 (ov (N1.2 118) (cj (red K z).1) (red K z).2)).2 118))).2 162) (5 * (8 * i + j)) (cj (red K z).1) (red K z).2 := by
    rw [mm_l2, mm_l2]
    exact at_sv _ _ _ _ _
  have H2 : ∀ q, (q < 5 * (8 * i + j) ∨ 5 * (8 * i + j) + 5 ≤ q) → (mm_l (mm_l N1 118 (ov (N1.2 118) (cj (red K z).1) (red K z).2)) 162 (sv ((mm_l N1 118 (ov (N1.2 118) (cj (red K z).1) (red K z).2)).2 162) (5 * (8 * i + j)) ((mm_l N1 118 (ov (N1.2 118) (cj (red K z).1) (red K z).2)).2 118))).2 162 q = M.2 162 q := fun q hq => by
    rw [mm_l2]
    unfold sv
    rw [if_neg (by omega), ← H1]
    rfl
  have J2 : (mm_l (mm_l N1 118 (ov (N1.2 118) (cj (red K z).1) (red K z).2)) 162 (sv ((mm_l N1 118 (ov (N1.2 118) (cj (red K z).1) (red K z).2)).2 162) (5 * (8 * i + j)) ((mm_l N1 118 (ov (N1.2 118) (cj (red K z).1) (red K z).2)).2 118))).2 163 = N1.2 163 := rfl
  have I2 : (mm_l (mm_l N1 118 (ov (N1.2 118) (cj (red K z).1) (red K z).2)) 162 (sv ((mm_l N1 118 (ov (N1.2 118) (cj (red K z).1) (red K z).2)).2 162) (5 * (8 * i + j)) ((mm_l N1 118 (ov (N1.2 118) (cj (red K z).1) (red K z).2)).2 118))).2 150 = N1.2 150 := rfl
  generalize mm_l (mm_l N1 118 (ov (N1.2 118) (cj (red K z).1) (red K z).2)) 162 (sv ((mm_l N1 118 (ov (N1.2 118) (cj (red K z).1) (red K z).2)).2 162) (5 * (8 * i + j)) ((mm_l N1 118 (ov (N1.2 118) (cj (red K z).1) (red K z).2)).2 118)) = N2 at *
  refine am_run hX 5 _ _ _ _ ?_
  conv => whnf
  refine am_c0 (ct_ld163 (d := d) (M := N2) (a := 0) (by decide) (by rw [J2]; exact G1)) ?_
  conv => whnf
  refine am_run hX 6 _ _ _ _ ?_
  conv => whnf
  refine am_c1 (ct_cell (d := d) j i) ?_
  conv => whnf
  refine am_run hX 1 _ _ _ _ ?_
  conv => whnf
  refine am_c0 (ct_store162 (d := d) (by omega)) ?_
  conv => whnf
  refine hE _ (mgF_t F1 (mgF_t F2 (mgF_t (mgF_l (Or.inl rfl)) (mgF_l (by omega))))) (by rw [← I1, ← I2]; rfl) ?_ ?_ fun q q1 q2 => ?_
  · rw [mm_l2, mm_l2, e2]
    by_cases ij : i = j
    · subst ij
      rw [hij rfl]
      exact at_sv _ _ _ _ _
    · refine at5_e (fun q p1 p2 => ?_) G2
      unfold sv
      rw [if_neg (by omega)]
      rfl
  · rw [mm_l2, mm_l2, e1]
    exact at_sv _ _ _ _ _
  · rw [mm_l2]
    unfold sv
    rw [if_neg (by omega)]
    exact H2 q q1
end MXJ
