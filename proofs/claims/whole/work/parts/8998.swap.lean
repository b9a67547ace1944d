/-! ROWS of a TABLE change places -/
section RSW
variable {d : Nat} {M : mm_M}
set_option maxRecDepth 100000 in
theorem ct_swA {i j : Nat} {y z : RW} (hi : i < 20) (hj : j < 20) (h1 : rA M i y) (h2 : rA M j z) : am_M (d + 1) false nm_X8_swapRows [aR 25, aI (nI i), aI (nI j)] M (am_q0 (wA (wA M i z) j y)) := by
  have hin : vp_in (nI i) 20 := vp_in_nI hi (by decide)
  have hjn : vp_in (nI j) 20 := vp_in_nI hj (by decide)
  obtain ⟨a6, a7, a8⟩ := h1
  obtain ⟨b6, b7, b8⟩ := h2
  refine ⟨rfl, rfl, rfl, fun X hX => am_run hX 80 _ _ _ _ ?_⟩
  conv => whnf
  iterate 3
    refine ⟨hin, ?_⟩
    conv => whnf
  iterate 3
    refine ⟨hjn, ?_⟩
    conv => whnf
    refine ⟨hin, ?_⟩
    conv => whnf
  iterate 3
    refine ⟨hjn, ?_⟩
    conv => whnf
  refine ⟨trivial, rfl, ?_⟩
  rw [nI_clamp (n := i) (by omega), nI_clamp (n := j) (by omega)]
  simp only [mm_i1, mm_ne _ 26 27 _ (show (27 : Nat) ≠ 26 by decide), mm_ne _ 26 28 _ (show (28 : Nat) ≠ 26 by decide), mm_ne _ 27 26 _ (show (26 : Nat) ≠ 27 by decide), mm_ne _ 27 28 _ (show (28 : Nat) ≠ 27 by decide), mm_ne _ 28 26 _ (show (26 : Nat) ≠ 28 by decide), mm_ne _ 28 27 _ (show (27 : Nat) ≠ 28 by decide)]
  rw [a6, a7, a8, b6, b7, b8]
  exact wA_of rfl (by simp [wA, mm_i]) (by simp [wA, mm_i]) (by simp [wA, mm_i]) (fun k k6 k7 k8 => by simp [wA, mm_i, k6, k7, k8])
set_option maxRecDepth 100000 in
theorem ct_swB {i j : Nat} {y z : RW} (hi : i < 20) (hj : j < 20) (h1 : rB M i y) (h2 : rB M j z) : am_M (d + 1) false nm_X12_exchangeRows [aR 108, aI (nI i), aI (nI j)] M (am_q0 (wB (wB M i z) j y)) := by
  have hin : vp_in (nI i) 20 := vp_in_nI hi (by decide)
  have hjn : vp_in (nI j) 20 := vp_in_nI hj (by decide)
  obtain ⟨a6, a7, a8⟩ := h1
  obtain ⟨b6, b7, b8⟩ := h2
  refine ⟨rfl, rfl, rfl, fun X hX => am_run hX 80 _ _ _ _ ?_⟩
  conv => whnf
  iterate 3
    refine ⟨hin, ?_⟩
    conv => whnf
  iterate 3
    refine ⟨hjn, ?_⟩
    conv => whnf
    refine ⟨hin, ?_⟩
    conv => whnf
  iterate 3
    refine ⟨hjn, ?_⟩
    conv => whnf
  refine ⟨trivial, rfl, ?_⟩
  rw [nI_clamp (n := i) (by omega), nI_clamp (n := j) (by omega)]
  simp only [mm_i1, mm_ne _ 157 158 _ (show (158 : Nat) ≠ 157 by decide), mm_ne _ 157 159 _ (show (159 : Nat) ≠ 157 by decide), mm_ne _ 158 157 _ (show (157 : Nat) ≠ 158 by decide), mm_ne _ 158 159 _ (show (159 : Nat) ≠ 158 by decide), mm_ne _ 159 157 _ (show (157 : Nat) ≠ 159 by decide), mm_ne _ 159 158 _ (show (158 : Nat) ≠ 159 by decide)]
  rw [a6, a7, a8, b6, b7, b8]
  exact wB_of rfl (by simp [wB, mm_i]) (by simp [wB, mm_i]) (by simp [wB, mm_i]) (fun k k6 k7 k8 => by simp [wB, mm_i, k6, k7, k8])
end RSW
