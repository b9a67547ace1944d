/-! SHORTEST: the class begins with no gate, and reads its key -/
def sr4 (M : mm_M) (r : Nat) (a b n : Int32) : mm_M := mm_i (mm_i (mm_i (mm_i M 59 (upd (M.1 59) r a)) 60 (upd (M.1 60) r b)) 61 (upd (M.1 61) r 0)) 58 (upd (upd (M.1 58) 3 n) 4 0)
theorem sr4_F (M : mm_M) (r : Nat) (a b n : Int32) : f4F M (sr4 M r a b n) := ⟨fun k h => by
  unfold sr4
  rw [mm_ne _ _ _ _ (by omega), mm_ne _ _ _ _ (by omega), mm_ne _ _ _ _ (by omega), mm_ne _ _ _ _ (by omega)], rfl⟩
theorem sr4_3 (M : mm_M) (r : Nat) (a b n : Int32) : (sr4 M r a b n).1 58 3 = n := by
  unfold sr4
  rw [mm_i1, up_ne (by decide)]
  exact up_at
theorem sr4_r (M : mm_M) {r x z : Nat} {n : Int32} : r4f (sr4 M r (nI x) (nI z) n) r (x, z, 0) := by
  unfold sr4
  refine ⟨?_, ?_, ?_⟩
  · rw [mm_ne _ _ _ _ (by decide), mm_ne _ _ _ _ (by decide), mm_ne _ _ _ _ (by decide), mm_i1]
    exact up_at
  · rw [mm_ne _ _ _ _ (by decide), mm_ne _ _ _ _ (by decide), mm_i1]
    exact up_at
  · rw [mm_ne _ _ _ _ (by decide), mm_i1]
    exact up_at
theorem sr4_o {M : mm_M} {r j : Nat} {a b n : Int32} {y : RW} (h : r4f M j y) (e : j ≠ r) : r4f (sr4 M r a b n) j y := by
  obtain ⟨h1, h2, h3⟩ := h
  unfold sr4
  refine ⟨?_, ?_, ?_⟩
  · rw [mm_ne _ _ _ _ (by decide), mm_ne _ _ _ _ (by decide), mm_ne _ _ _ _ (by decide), mm_i1, up_ne e]
    exact h1
  · rw [mm_ne _ _ _ _ (by decide), mm_ne _ _ _ _ (by decide), mm_i1, up_ne e]
    exact h2
  · rw [mm_ne _ _ _ _ (by decide), mm_i1, up_ne e]
    exact h3
section SHR
variable {d : Nat} {M : mm_M} {k : K4}
set_option maxRecDepth 100000 in
theorem ct_sr58 {r n : Nat} (a b : Int32) (hr : r < 4) (hn : M.1 58 3 = nI n) (hn2 : n ≤ 4) : am_M (d + 1) false nm_X8_setRow [aR 58, aI (nI r), aI a, aI b] M (am_q0 (sr4 M r a b (nI (max n (r + 1))))) := by
  refine ⟨rfl, rfl, rfl, fun X hX => am_run hX 40 _ _ _ _ ?_⟩
  conv => whnf
  refine ⟨vp_in_nI (by show r < 4; omega) (by decide), ?_⟩
  conv => whnf
  refine ⟨vp_in_nI (by show r < 4; omega) (by decide), ?_⟩
  conv => whnf
  refine ⟨vp_in_nI (by show r < 4; omega) (by decide), ?_⟩
  conv => whnf
  refine ⟨⟨rfl, rfl⟩, trivial, rfl, ?_⟩
  simp only [mm_i1, mm_ii, mm_ne _ 59 60 _ (show (60 : Nat) ≠ 59 by decide), mm_ne _ 59 61 _ (show (61 : Nat) ≠ 59 by decide), mm_ne _ 60 61 _ (show (61 : Nat) ≠ 60 by decide), mm_ne _ 59 58 _ (show (58 : Nat) ≠ 59 by decide), mm_ne _ 60 58 _ (show (58 : Nat) ≠ 60 by decide), mm_ne _ 61 58 _ (show (58 : Nat) ≠ 61 by decide)]
  rw [nI_clamp (n := r) (by omega), hn, nI_1, nI_max (by omega) (by omega)]
  rfl
set_option maxRecDepth 100000 in
theorem ct_sF {v : Nat} (hv : M.1 58 3 = nI v) (h4 : v ≤ 4) : am_M (d + 2) false nm_X2_startFour [aR 57] M (fun r N => r = .inl none ∧ f4F M N ∧ fr4 N k4e) := by
  refine ⟨rfl, rfl, rfl, fun X hX => am_run hX 6 _ _ _ _ ?_⟩
  conv => whnf
  refine am_c0 (ct_sr58 (d := d) (r := 0) (nI 1) (nI 0) (by decide) hv h4) ?_
  refine am_run hX 6 _ _ _ _ ?_
  conv => whnf
  refine am_c0 (ct_sr58 (d := d) (r := 1) (nI 0) (nI 1) (by decide) (sr4_3 _ _ _ _ _) (by omega)) ?_
  refine am_run hX 6 _ _ _ _ ?_
  conv => whnf
  refine am_c0 (ct_sr58 (d := d) (r := 2) (nI 2) (nI 0) (by decide) (sr4_3 _ _ _ _ _) (by omega)) ?_
  refine am_run hX 6 _ _ _ _ ?_
  conv => whnf
  refine am_c0 (ct_sr58 (d := d) (r := 3) (nI 0) (nI 2) (by decide) (sr4_3 _ _ _ _ _) (by omega)) ?_
  refine am_run hX 1 _ _ _ _ ?_
  conv => whnf
  refine ⟨trivial, rfl, f4F_t (f4F_t (f4F_t (sr4_F _ _ _ _ _) (sr4_F _ _ _ _ _)) (sr4_F _ _ _ _ _)) (sr4_F _ _ _ _ _), ?_, ?_⟩
  · rw [sr4_3]
    congr 1
    omega
  · intro i hi
    rcases (by omega : i = 0 ∨ i = 1 ∨ i = 2 ∨ i = 3) with rfl | rfl | rfl | rfl
    · exact sr4_o (sr4_o (sr4_o (sr4_r _) (by decide)) (by decide)) (by decide)
    · exact sr4_o (sr4_o (sr4_r _) (by decide)) (by decide)
    · exact sr4_o (sr4_r _) (by decide)
    · exact sr4_r _
set_option maxRecDepth 100000 in
theorem kf_l {P : am_Q} {X : am_X} (hX : am_K d false nm_X2_keyOfFour P X) (hk : k4 k) (h4 : fr4 M k) (hP : P (.inl (some (aI (nI (kK k))))) M) : ∀ (m i : Nat), i + m = 4 → X 4 [some (aR 57), some (aI (nI (kV (rwK k) i))), some (aI (nI i))] [] M := by
  intro m
  induction m with
  | zero =>
    intro i hi
    obtain rfl : i = 4 := by omega
    refine am_run hX 3 _ _ _ _ ?_
    conv => whnf
    refine ⟨fun _ => ?_, fun z => absurd (by decide) z⟩
    refine am_run hX 2 _ _ _ _ ?_
    conv => whnf
    exact ⟨trivial, hP⟩
  | succ m ih =>
    intro i hi
    have i4 : i < 4 := by omega
    have hr := rwK_l hk i
    have hin : vp_in (nI i) 4 := vp_in_nI i4 (by decide)
    obtain ⟨a, b, c⟩ := h4.2 i i4
    have e5 : (5 : Int32) * nI i = nI (5 * i) := by rw [show (5 : Int32) = nI 5 from rfl, nI_mul]
    have hl := kV_l (rwK_l hk) i
    have p20 : rwK k i * 2 ^ (5 * i) < 2 ^ 32 := by
      have a1 : 2 ^ (5 * i) ≤ 2 ^ 15 := Nat.pow_le_pow_right (by decide) (by omega)
      have a2 : rwK k i * 2 ^ (5 * i) ≤ 31 * 2 ^ 15 := Nat.mul_le_mul (by omega) a1
      omega
    refine am_run hX 3 _ _ _ _ ?_
    conv => whnf
    refine ⟨fun z => absurd z (nI_ge (a := i) (b := 4) i4 (by decide)), fun _ => ?_⟩
    refine am_run hX 30 _ _ _ _ ?_
    conv => whnf
    refine ⟨hin, ?_⟩
    conv => whnf
    refine ⟨hin, ?_⟩
    conv => whnf
    refine ⟨hin, ?_⟩
    conv => whnf
    rw [nI_clamp (n := i) (by omega), a, b, c, e5, show nI (dcR (rwK k i)).1 ||| nI (dcR (rwK k i)).2.1 <<< ((2 : Int32) &&& 31) ||| nI (dcR (rwK k i)).2.2 <<< ((4 : Int32) &&& 31) = nI (rwK k i) from r5_p _ hr, nI_ors (by omega) hl p20, nI_1]
    exact ih (i + 1) (by omega)
set_option maxRecDepth 100000 in
theorem ct_kF (hk : k4 k) (h4 : fr4 M k) : am_M (d + 1) false nm_X2_keyOfFour [aR 57] M (am_q1 (aI (nI (kK k))) M) := by
  refine ⟨rfl, rfl, rfl, fun X hX => am_run hX 4 _ _ _ _ ?_⟩
  conv => whnf
  exact kf_l (M := M) hX hk h4 ⟨rfl, rfl⟩ 4 0 (by omega)
end SHR
