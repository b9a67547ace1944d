/-! the class multiplies a ROW by a ROW -/
def mulA (y z : RW) : RW := (y.1 ^^^ z.1, y.2.1 ^^^ z.2.1, y.2.2 ^^^ (z.2.2 ^^^ qp y z / 2))
theorem ok_mulA {y z : RW} (hy : rw_ok y) (hz : rw_ok z) : rw_ok (mulA y z) := by
  have q4 : qp y z < 4 := Nat.mod_lt _ (by decide)
  exact ⟨Nat.xor_lt_two_pow hy.1 hz.1, Nat.xor_lt_two_pow hy.2.1 hz.2.1, Nat.xor_lt_two_pow (n := 1) hy.2.2 (Nat.xor_lt_two_pow (n := 1) hz.2.2 (by omega))⟩
section MUL
variable {d : Nat} {M : mm_M}
set_option maxRecDepth 100000 in
theorem ct_mulA {i j : Nat} {y z : RW} (hi : i < 20) (hj : j < 20) (hij : i ≠ j) (h1 : rA M i y) (h2 : rA M j z) (hy : rw_ok y) (hz : rw_ok z) : am_M (d + 3) false nm_X8_multiply [aR 25, aI (nI i), aI (nI j)] M (am_q0 (wA M i (mulA y z))) := by
  have hin : vp_in (nI i) 20 := vp_in_nI hi (by decide)
  have hjn : vp_in (nI j) 20 := vp_in_nI hj (by decide)
  have q4 : qp y z < 4 := Nat.mod_lt _ (by decide)
  obtain ⟨a6, a7, a8⟩ := h1
  obtain ⟨b6, b7, b8⟩ := h2
  refine ⟨rfl, rfl, rfl, fun X hX => am_run hX 80 _ _ _ _ ?_⟩
  conv => whnf
  iterate 2
    refine ⟨hin, ?_⟩
    conv => whnf
  iterate 2
    refine ⟨hjn, ?_⟩
    conv => whnf
  rw [nI_clamp (n := i) (by omega), nI_clamp (n := j) (by omega), a6, a7, b6, b7]
  refine am_c1 (ct_quart (d := d) hy hz) ?_
  conv => whnf
  iterate 3
    refine ⟨hin, ?_⟩
    conv => whnf
    refine ⟨hjn, ?_⟩
    conv => whnf
    refine ⟨hin, ?_⟩
    conv => whnf
  refine ⟨trivial, rfl, ?_⟩
  rw [nI_clamp (n := i) (by omega), nI_clamp (n := j) (by omega)]
  simp only [mm_ne _ 28 26 _ (show (26 : Nat) ≠ 28 by decide), mm_ne _ 28 27 _ (show (27 : Nat) ≠ 28 by decide), mm_ne _ 26 27 _ (show (27 : Nat) ≠ 26 by decide)]
  rw [a6, a7, a8, b6, b7, b8, show nI (qp y z) >>> ((1 : Int32) &&& 31) = nI (qp y z / 2 ^ 1) from nI_sh (by omega) 1 (by decide)]
  simp only [nI_xor]
  exact wA_of rfl (by simp [mulA, mm_i]) (by simp [mulA, mm_i]) (by simp [mulA, mm_i]) (fun k k6 k7 k8 => by simp [mm_i, k6, k7, k8])
end MUL
