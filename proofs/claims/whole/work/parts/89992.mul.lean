/-! the reference multiplies a ROW by a ROW -/
def acN (y z : RW) : Nat → Nat
  | 0 => 2 * (y.2.2 + z.2.2)
  | t + 1 => acN y z t + phN (bt z.1 t) (bt z.2.1 t) (bt y.1 t) (bt y.2.1 t)
def mulB (n : Nat) (y z : RW) : RW := (y.1 ^^^ z.1, y.2.1 ^^^ z.2.1, if acN y z n % 4 = 2 then 1 else 0)
section MLB
variable {d : Nat} {M : mm_M}
set_option maxRecDepth 100000 in
theorem mb_l {P : am_Q} {X : am_X} {i j n : Nat} {y z : RW} (hX : am_K (d + 1) false nm_X12_multiplyRow P X) (hi : i < 20) (hj : j < 20) (n20 : n ≤ 20) (hn : M.1 108 81 = nI n) (h1 : rB M i y) (h2 : rB M j z) (hy : rw_ok y) (hz : rw_ok z) (hK : ∀ l4, X 84 [some (aR 108), some (aI (nI i)), some (aI (nI j)), some (aI (nI (acN y z n))), l4] [] M) : ∀ (m t : Nat), t + m = n → X 19 [some (aR 108), some (aI (nI i)), some (aI (nI j)), some (aI (nI (acN y z t))), some (aI (nI t))] [] M := by
  have hin : vp_in (nI i) 20 := vp_in_nI hi (by decide)
  have hjn : vp_in (nI j) 20 := vp_in_nI hj (by decide)
  intro m
  induction m with
  | zero =>
    intro t ht
    have ht : t = n := by omega
    subst ht
    refine am_run hX 4 _ _ _ _ ?_
    conv => whnf
    rw [hn]
    exact ⟨fun _ => hK _, fun c => absurd (nI_le (by omega) (by omega)) c⟩
  | succ m ih =>
    intro t ht
    refine am_run hX 4 _ _ _ _ ?_
    conv => whnf
    rw [hn]
    refine ⟨fun c => absurd c (nI_ge (by omega) (by omega)), fun _ => ?_⟩
    refine am_run hX 38 _ _ _ _ ?_
    conv => whnf
    iterate 2
      refine ⟨hjn, ?_⟩
      conv => whnf
    iterate 2
      refine ⟨hin, ?_⟩
      conv => whnf
    rw [nI_clamp (n := i) (by omega), nI_clamp (n := j) (by omega), h1.1, h1.2.1, h2.1, h2.2.1, nI_bt hy.1 (by omega), nI_bt hy.2.1 (by omega), nI_bt hz.1 (by omega), nI_bt hz.2.1 (by omega)]
    refine am_c1 (ct_phase (d := d) (bt_lt z.1 t) (bt_lt z.2.1 t) (bt_lt y.1 t) (bt_lt y.2.1 t)) ?_
    conv => whnf
    rw [nI_1, nI_add]
    exact ih (t + 1) (by omega)
set_option maxRecDepth 100000 in
theorem ct_mulB {i j n : Nat} {y z : RW} (hi : i < 20) (hj : j < 20) (n20 : n ≤ 20) (hn : M.1 108 81 = nI n) (h1 : rB M i y) (h2 : rB M j z) (hy : rw_ok y) (hz : rw_ok z) : am_M (d + 2) false nm_X12_multiplyRow [aR 108, aI (nI i), aI (nI j)] M (am_q0 (wB M i (mulB n y z))) := by
  have hin : vp_in (nI i) 20 := vp_in_nI hi (by decide)
  have hjn : vp_in (nI j) 20 := vp_in_nI hj (by decide)
  refine ⟨rfl, rfl, rfl, fun X hX => am_run hX 14 _ _ _ _ ?_⟩
  conv => whnf
  refine ⟨hin, ?_⟩
  conv => whnf
  refine ⟨hjn, ?_⟩
  conv => whnf
  rw [nI_clamp (n := i) (by omega), nI_clamp (n := j) (by omega), h1.2.2, h2.2.2, nI_add, show (2 : Int32) = nI 2 from rfl, nI_mul]
  refine mb_l hX hi hj n20 hn h1 h2 hy hz (fun l4 => ?_) n 0 (by omega)
  obtain ⟨a6, a7, a8⟩ := h1
  obtain ⟨b6, b7, b8⟩ := h2
  refine am_run hX 60 _ _ _ _ ?_
  conv => whnf
  rw [nI_m3, show (2 : Int32) = nI 2 from rfl]
  refine ⟨fun c => ?_, fun c => ?_⟩
  · have hc : ¬ acN y z n % 4 = 2 := fun e => c (by rw [e])
    conv => whnf
    refine ⟨hin, ?_⟩
    conv => whnf
    iterate 2
      refine ⟨hin, ?_⟩
      conv => whnf
      refine ⟨hjn, ?_⟩
      conv => whnf
      refine ⟨hin, ?_⟩
      conv => whnf
    refine ⟨trivial, rfl, ?_⟩
    rw [nI_clamp (n := i) (by omega), nI_clamp (n := j) (by omega)]
    simp only [mm_ne _ 159 157 _ (show (157 : Nat) ≠ 159 by decide), mm_ne _ 159 158 _ (show (158 : Nat) ≠ 159 by decide), mm_ne _ 157 158 _ (show (158 : Nat) ≠ 157 by decide)]
    rw [a6, a7, b6, b7]
    simp only [nI_xor]
    exact wB_of rfl (by simp [mulB, mm_i]) (by simp [mulB, mm_i]) (by simp [mulB, mm_i, hc]; rfl) (fun k k6 k7 k8 => by simp [mm_i, k6, k7, k8])
  · have hc : acN y z n % 4 = 2 := (nI_eq (by omega) (by decide)).mp (Decidable.byContradiction c)
    conv => whnf
    refine ⟨hin, ?_⟩
    conv => whnf
    iterate 2
      refine ⟨hin, ?_⟩
      conv => whnf
      refine ⟨hjn, ?_⟩
      conv => whnf
      refine ⟨hin, ?_⟩
      conv => whnf
    refine ⟨trivial, rfl, ?_⟩
    rw [nI_clamp (n := i) (by omega), nI_clamp (n := j) (by omega)]
    simp only [mm_ne _ 159 157 _ (show (157 : Nat) ≠ 159 by decide), mm_ne _ 159 158 _ (show (158 : Nat) ≠ 159 by decide), mm_ne _ 157 158 _ (show (158 : Nat) ≠ 157 by decide)]
    rw [a6, a7, b6, b7]
    simp only [nI_xor]
    exact wB_of rfl (by simp [mulB, mm_i]) (by simp [mulB, mm_i]) (by simp [mulB, mm_i, hc]; rfl) (fun k k6 k7 k8 => by simp [mm_i, k6, k7, k8])
end MLB
