/-! mix, the class: one OP -/
theorem apo_b : ∀ W, W < 4 → ∀ c, c < 2 ^ W → ∀ t, t < W → (c * 2 ^ W).testBit (t + W) = c.testBit t := by decide +kernel
theorem apo_0 {W : Nat} {x : bk_X} (hW : W ≤ 3) (h : ogd W x) : apo x.1 (x.2.1 + 0) (x.2.2.1 + 0) (x.2.2.2.1 * 2 ^ 0) (2 * W) := by
  obtain ⟨⟨k1, k2, k3, k4, _⟩, h2, h3⟩ := h
  rw [Nat.pow_zero, Nat.mul_one, Nat.add_zero, Nat.add_zero]
  have p : 2 ^ W ≤ 2 ^ (2 * W) := Nat.pow_le_pow_right (by decide) (by omega)
  exact ⟨by omega, by omega, h2, fun z => ⟨by have := (h3 z).1; omega, (h3 z).2.1, (h3 z).2.2⟩⟩
theorem apo_W {W : Nat} {x : bk_X} (hW : W ≤ 3) (h : ogd W x) : apo x.1 (x.2.1 + W) (x.2.2.1 + W) (x.2.2.2.1 * 2 ^ W) (2 * W) := by
  obtain ⟨⟨k1, k2, k3, k4, _⟩, h2, h3⟩ := h
  refine ⟨by omega, ?_, ?_, fun z => ⟨by have := (h3 z).1; omega, by have := (h3 z).2.1; omega, ?_⟩⟩
  · rw [n22]
    exact Nat.mul_lt_mul_of_pos_right k4 (Nat.pow_pos (by decide))
  · rw [apo_b W (by omega) _ k4 _ k2]
    exact h2
  · rw [apo_b W (by omega) _ k4 _ (h3 z).1]
    exact (h3 z).2.2
/-- the numbers behind an OP, as the class finds them -/
def mxG (W : Nat) (x : bk_X) (xs : Nat → R4) : Nat → R4 := gx x.1 (x.2.1 + W) (x.2.2.1 + W) (x.2.2.2.1 * 2 ^ W) true (2 ^ (2 * W)) (gx x.1 x.2.1 x.2.2.1 x.2.2.2.1 false (2 ^ (2 * W)) xs)
def wpN (W r : Nat) (xs : Nat → R4) (c : Nat) : R4 := if c &&& boW W r = 2 ^ r ∨ c &&& boW W r = 2 ^ r * 2 ^ W then (0, 0, 0, 0) else xs c
def mxN (W : Nat) (x : bk_X) (xs : Nat → R4) : Nat → R4 := if x.1 < 9 then mxG W x xs else if x.1 = 10 then pdN W x.2.1 (wpN W x.2.1 xs) else wpN W x.2.1 xs
def mxK (x : bk_X) (K : Nat) : Nat := if x.1 = 3 then K + 2 else K
def mxA (x : bk_X) (a : Nat) : Nat := if x.1 = 3 then a + 1 else a
def mxM (M : mm_M) (N a K : Nat) (ys : Nat → R4) : mm_M := mm_l (mm_i (mm_i M 104 (upd (M.1 104) 2 (nI a))) 105 (upd (M.1 105) 3 (nI K))) 107 (cq (M.2 107) N ys)
section MXC
variable {d W K a : Nat} {M : mm_M} {xs : Nat → R4} {x : bk_X}
theorem wp_2 {g : Nat → Int64} {r : Nat} (hW : W ≤ 3) (hr : r < W) : cq g (2 ^ (2 * W)) (rotm (fun i => nI i &&& nI (boW W r) = nI (2 ^ r * 2 ^ W)) (fun _ => (0, 0, 0, 0)) (rotm (fun i => nI i &&& nI (boW W r) = nI (2 ^ r)) (fun _ => (0, 0, 0, 0)) xs (2 ^ (2 * W))) (2 ^ (2 * W))) = cq g (2 ^ (2 * W)) (wpN W r xs) := cq_e fun c hc => by
  have h64 := w64 hW
  have al : c &&& boW W r < 64 := Nat.lt_of_le_of_lt Nat.and_le_left (by omega)
  have pr : 2 ^ r ≤ 2 ^ 2 := Nat.pow_le_pow_right (by decide) (by omega)
  have pW : 2 ^ W ≤ 2 ^ 3 := Nat.pow_le_pow_right (by decide) hW
  have pp : 2 ^ r * 2 ^ W ≤ 2 ^ 2 * 2 ^ 3 := Nat.mul_le_mul pr pW
  have e1 : (nI c &&& nI (boW W r) = nI (2 ^ r)) ↔ c &&& boW W r = 2 ^ r := by
    rw [nI_and]
    exact nI_eq (by omega) (by omega)
  have e2 : (nI c &&& nI (boW W r) = nI (2 ^ r * 2 ^ W)) ↔ c &&& boW W r = 2 ^ r * 2 ^ W := by
    rw [nI_and]
    exact nI_eq (by omega) (by omega)
  unfold rotm wpN
  by_cases a : c &&& boW W r = 2 ^ r * 2 ^ W
  · rw [if_pos ⟨e2.mpr a, hc⟩, if_pos (Or.inr a)]
  · rw [if_neg (fun z => a (e2.mp z.1))]
    by_cases b : c &&& boW W r = 2 ^ r
    · rw [if_pos ⟨e1.mpr b, hc⟩, if_pos (Or.inl b)]
    · rw [if_neg (fun z => b (e1.mp z.1)), if_neg (fun z => z.elim b a)]
theorem bo_s : ∀ W, W < 4 → ∀ r, r < W → nI (2 ^ r) <<< (nI W &&& 31) = nI (2 ^ r * 2 ^ W) := by decide +kernel
set_option maxRecDepth 100000 in
theorem ct_perf (h : de_d M W K xs) (hg : ogd W x) (ha : M.1 104 2 = nI a) (a24 : a ≤ 24) (ok : x.1 = 3 → a < 24) : am_M (d + 5) false nm_X1_perform [aR 104, aI (nI (bk_p x))] M (am_q1 (aI 1) (mxM M (2 ^ (2 * W)) (mxA x a) (mxK x K) (mxN W x xs))) := by
  obtain ⟨h1, hW, k120, e4, e5, e6, e7, e8, e9, e10, e11, e12⟩ := h
  have h64 := w64 hW
  have ow := hg.1
  have x10 := ow.1
  have tW := ow.2.1
  have w6 : 2 * W ≤ 6 := by omega
  refine ⟨rfl, rfl, rfl, fun X hX => am_run hX 2 _ _ _ _ ?_⟩
  conv => whnf
  refine am_c1 (ct_kind (d := d + 3)) ?_
  rw [bk_k (by omega) ow]
  conv => whnf
  have A := apo_0 hW hg
  have B := apo_W hW hg
  have k40 : X 40 [some (aR 104), some (aI (nI (bk_p x))), some (aI (nI x.1)), none, none] [] (mm_i M 104 (upd (M.1 104) 2 (nI (mxA x a)))) := by
    have ec := cq_of (M := M) (c := 107) e10
    have em : mm_i M 104 (upd (M.1 104) 2 (nI (mxA x a))) = mm_l (mm_i M 104 (upd (M.1 104) 2 (nI (mxA x a)))) 107 (cq (M.2 107) (2 ^ (2 * W)) xs) := by
      rw [← ec]
      exact (mm_lz (mm_i M 104 (upd (M.1 104) 2 (nI (mxA x a)))) 107).symm
    have e2' : (mm_i M 104 (upd (M.1 104) 2 (nI (mxA x a)))).1 105 2 = nI (2 ^ (2 * W)) := e6
    have e3' : (mm_i M 104 (upd (M.1 104) 2 (nI (mxA x a)))).1 105 3 = nI K := e7
    have e1' : (mm_i M 104 (upd (M.1 104) 2 (nI (mxA x a)))).1 104 1 = nI W := e4
    have fin : ∀ ys K', K' = mxK x K → ys = mxN W x xs → mm_l (mm_i (mm_i M 104 (upd (M.1 104) 2 (nI (mxA x a)))) 105 (upd ((mm_i M 104 (upd (M.1 104) 2 (nI (mxA x a)))).1 105) 3 (nI K'))) 107 (cq (M.2 107) (2 ^ (2 * W)) ys) = mxM M (2 ^ (2 * W)) (mxA x a) (mxK x K) (mxN W x xs) := fun ys K' hK hy => by
      rw [hK, hy]
      rfl
    have same : ∀ L : mm_M, L.1 105 3 = nI K → mm_i L 105 (upd (L.1 105) 3 (nI K)) = L := fun L hL => by
      rw [← hL, upd_self, mm_iz]
    rw [em]
    generalize mm_i M 104 (upd (M.1 104) 2 (nI (mxA x a))) = N at *
    refine am_run hX 3 _ _ _ _ ?_
    conv => whnf
    by_cases k9 : x.1 < 9
    · refine ⟨fun c => absurd c (nI_ge (b := 9) k9 (by decide)), fun _ => ?_⟩
      have eN : mxN W x xs = mxG W x xs := if_pos k9
      by_cases k3 : x.1 = 3
      · have a1 := ct_apH107 (d := d + 1) (M := N) (g := M.2 107) (W := 2 * W) (U := W) (sh := 0) (x := x) (mi := false) (xs := xs) w6 (by omega) ow e2' A k3 (by decide)
        rw [Nat.pow_zero, Nat.mul_one, Nat.add_zero, Nat.add_zero, e3', nI_1] at a1
        have a2 := ct_apH107 (d := d + 1) (M := mm_i N 105 (upd (N.1 105) 3 (nI (K + 1)))) (g := M.2 107) (W := 2 * W) (U := W) (sh := W) (x := x) (mi := true) (xs := gx x.1 x.2.1 x.2.2.1 x.2.2.2.1 false (2 ^ (2 * W)) xs) w6 (by omega) ow e2' B k3 (by omega)
        rw [show (mm_i N 105 (upd (N.1 105) 3 (nI (K + 1)))).1 105 = upd (N.1 105) 3 (nI (K + 1)) from rfl, mi_two, upd_two, show upd (N.1 105) 3 (nI (K + 1)) 3 = nI (K + 1) from rfl, nI_1] at a2
        refine am_run hX 6 _ _ _ _ ?_
        conv => whnf
        refine am_c0 a1 ?_
        conv => whnf
        refine am_run hX 7 _ _ _ _ ?_
        conv => whnf
        rw [show ∀ f ys, (mm_l (mm_i N 105 f) 107 ys).1 104 1 = nI W from fun f ys => e1']
        refine am_c0 a2 ?_
        conv => whnf
        refine am_run hX 2 _ _ _ _ ?_
        conv => whnf
        refine ⟨rfl, rfl, ?_⟩
        exact fin _ (K + 2) (if_pos k3).symm eN.symm
      · have a1 := ct_apN107 (d := d) (M := N) (g := M.2 107) (W := 2 * W) (U := W) (sh := 0) (x := x) (mi := false) (xs := xs) w6 (by omega) ow e2' A (by omega) k3 (by decide)
        rw [Nat.pow_zero, Nat.mul_one, Nat.add_zero, Nat.add_zero] at a1
        have a2 := ct_apN107 (d := d) (M := N) (g := M.2 107) (W := 2 * W) (U := W) (sh := W) (x := x) (mi := true) (xs := gx x.1 x.2.1 x.2.2.1 x.2.2.2.1 false (2 ^ (2 * W)) xs) w6 (by omega) ow e2' B (by omega) k3 (by omega)
        refine am_run hX 6 _ _ _ _ ?_
        conv => whnf
        refine am_c0 a1 ?_
        conv => whnf
        refine am_run hX 7 _ _ _ _ ?_
        conv => whnf
        rw [show ∀ ys, (mm_l N 107 ys).1 104 1 = nI W from fun ys => e1']
        refine am_c0 a2 ?_
        conv => whnf
        refine am_run hX 2 _ _ _ _ ?_
        conv => whnf
        refine ⟨rfl, rfl, ?_⟩
        rw [← fin _ K (if_neg k3).symm eN.symm, same N e3']
        rfl
    · have k3 : ¬ x.1 = 3 := by omega
      refine ⟨fun _ => ?_, fun c => absurd (nI_le (a := 9) (by omega) (by omega)) c⟩
      refine am_run hX 3 _ _ _ _ ?_
      conv => whnf
      refine am_c1 (ct_wireOf (d := d + 3)) ?_
      rw [bk_wi (by omega) ow]
      conv => whnf
      refine am_run hX 7 _ _ _ _ ?_
      conv => whnf
      rw [sh2 x.2.1 (by omega), show ∀ ys, (mm_l N 107 ys).1 104 1 = nI W from fun ys => e1', bo_s W (by omega) _ tW]
      refine am_run hX 7 _ _ _ _ ?_
      conv => whnf
      rw [nI_or, show 2 ^ x.2.1 ||| 2 ^ x.2.1 * 2 ^ W = boW W x.2.1 from rfl]
      refine am_c0 (ct_wipe_d (d := d + 2) (M := N) h64 e2') ?_
      conv => whnf
      refine am_run hX 7 _ _ _ _ ?_
      conv => whnf
      rw [nI_or, show 2 ^ x.2.1 ||| 2 ^ x.2.1 * 2 ^ W = boW W x.2.1 from rfl]
      refine am_c0 (ct_wipe_d (d := d + 2) (M := N) h64 e2') ?_
      rw [wp_2 hW tW]
      conv => whnf
      refine am_run hX 3 _ _ _ _ ?_
      conv => whnf
      by_cases k10 : x.1 = 10
      · refine ⟨fun c => absurd (by rw [k10]; rfl) c, fun _ => ?_⟩
        have eN : mxN W x xs = pdN W x.2.1 (wpN W x.2.1 xs) := by
          unfold mxN
          rw [if_neg k9, if_pos k10]
        refine am_run hX 5 _ _ _ _ ?_
        conv => whnf
        rw [nI_or, show 2 ^ x.2.1 ||| 2 ^ x.2.1 * 2 ^ W = boW W x.2.1 from rfl]
        refine am_c0 (ct_pour (d := d + 2) (M := N) hW tW e2') ?_
        conv => whnf
        refine am_run hX 2 _ _ _ _ ?_
        conv => whnf
        refine ⟨rfl, rfl, ?_⟩
        rw [← fin _ K (if_neg k3).symm eN.symm, same N e3']
      · refine ⟨fun _ => ?_, fun c => absurd (fun z => k10 ((nI_eq (b := 10) (by omega) (by decide)).mp z)) c⟩
        have eN : mxN W x xs = wpN W x.2.1 xs := by
          unfold mxN
          rw [if_neg k9, if_neg k10]
        refine am_run hX 2 _ _ _ _ ?_
        conv => whnf
        refine ⟨rfl, rfl, ?_⟩
        rw [← fin _ K (if_neg k3).symm eN.symm, same N e3']
  have k21 : X 21 [some (aR 104), some (aI (nI (bk_p x))), some (aI (nI x.1)), none, none] [] M := by
    refine am_run hX 6 _ _ _ _ ?_
    conv => whnf
    rw [ha]
    by_cases k3 : x.1 = 3
    · rw [show mxA x a = a + 1 from if_pos k3] at k40
      refine ⟨fun c => absurd (by rw [k3]; rfl) c, fun _ => ?_⟩
      refine am_run hX 4 _ _ _ _ ?_
      conv => whnf
      rw [nI_1]
      exact k40
    · rw [show mxA x a = a from if_neg k3] at k40
      refine ⟨fun _ => ?_, fun c => absurd (fun z => k3 ((nI_eq (b := 3) (by omega) (by decide)).mp z)) c⟩
      refine am_run hX 3 _ _ _ _ ?_
      conv => whnf
      rw [show nI a + 0 = nI a from Int32.add_zero _]
      exact k40
  refine am_run hX 4 _ _ _ _ ?_
  conv => whnf
  by_cases k3 : x.1 = 3
  · refine ⟨fun c => absurd (by rw [k3]; rfl) c, fun _ => ?_⟩
    refine am_run hX 4 _ _ _ _ ?_
    conv => whnf
    rw [ha]
    exact ⟨fun _ => k21, fun c => absurd (nI_lt (b := 24) (ok k3) (by decide)) c⟩
  · exact ⟨fun _ => k21, fun c => absurd (fun z => k3 ((nI_eq (b := 3) (by omega) (by decide)).mp z)) c⟩
set_option maxRecDepth 100000 in
theorem ct_perf0 (hg : ogd W x) (hW : W ≤ 3) (ha : M.1 104 2 = nI 24) (k3 : x.1 = 3) : am_M (d + 5) false nm_X1_perform [aR 104, aI (nI (bk_p x))] M (am_q1 (aI 0) M) := by
  refine ⟨rfl, rfl, rfl, fun X hX => am_run hX 2 _ _ _ _ ?_⟩
  conv => whnf
  refine am_c1 (ct_kind (d := d + 3)) ?_
  rw [bk_k (by omega) hg.1]
  conv => whnf
  refine am_run hX 4 _ _ _ _ ?_
  conv => whnf
  refine ⟨fun c => absurd (by rw [k3]; rfl) c, fun _ => ?_⟩
  refine am_run hX 4 _ _ _ _ ?_
  conv => whnf
  rw [ha]
  refine ⟨fun c => absurd c (by decide), fun _ => ?_⟩
  refine am_run hX 2 _ _ _ _ ?_
  conv => whnf
  exact ⟨rfl, rfl, rfl⟩
end MXC
