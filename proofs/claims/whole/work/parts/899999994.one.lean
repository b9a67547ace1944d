/-! THE REFERENCE'S MACHINE FOR ONE ROOT: `one` (cell 118), `other` (119), `kept` (152), `sum` (153) -/
def ov (g : Nat → Int64) (x : R4) (k : Nat) : Nat → Int64 := fun j => if j = 0 then lI x.1 else if j = 1 then lI x.2.1 else if j = 2 then lI x.2.2.1 else if j = 3 then lI x.2.2.2 else if j = 4 then lI k else g j
theorem ov_0 (g : Nat → Int64) (x : R4) (k : Nat) : ov g x k 0 = lI x.1 := rfl
theorem ov_1 (g : Nat → Int64) (x : R4) (k : Nat) : ov g x k 1 = lI x.2.1 := rfl
theorem ov_2 (g : Nat → Int64) (x : R4) (k : Nat) : ov g x k 2 = lI x.2.2.1 := rfl
theorem ov_3 (g : Nat → Int64) (x : R4) (k : Nat) : ov g x k 3 = lI x.2.2.2 := rfl
theorem ov_4 (g : Nat → Int64) (x : R4) (k : Nat) : ov g x k 4 = lI k := rfl
theorem ov_ov (g : Nat → Int64) (x y : R4) (k l : Nat) : ov (ov g x k) y l = ov g y l := by
  funext j
  unfold ov
  by_cases h0 : j = 0
  · simp only [if_pos h0]
  · by_cases h1 : j = 1
    · simp only [if_neg h0, if_pos h1]
    · by_cases h2 : j = 2
      · simp only [if_neg h0, if_neg h1, if_pos h2]
      · by_cases h3 : j = 3
        · simp only [if_neg h0, if_neg h1, if_neg h2, if_pos h3]
        · by_cases h4 : j = 4
          · simp only [if_neg h0, if_neg h1, if_neg h2, if_neg h3, if_pos h4]
          · simp only [if_neg h0, if_neg h1, if_neg h2, if_neg h3, if_neg h4]
theorem ov_u0 (g : Nat → Int64) (x : R4) (k : Nat) (a : Int) : vp_updL (ov g x k) 0 (lI a) = ov g (a, x.2.1, x.2.2.1, x.2.2.2) k := by
  funext j
  unfold vp_updL ov
  by_cases h : j = 0
  · subst h
    rfl
  · rw [if_neg h]
    simp only [h, if_false]
theorem ov_u1 (g : Nat → Int64) (x : R4) (k : Nat) (a : Int) : vp_updL (ov g x k) 1 (lI a) = ov g (x.1, a, x.2.2.1, x.2.2.2) k := by
  funext j
  unfold vp_updL ov
  by_cases h : j = 1
  · subst h
    rfl
  · rw [if_neg h]
    simp only [h, if_false]
theorem ov_u2 (g : Nat → Int64) (x : R4) (k : Nat) (a : Int) : vp_updL (ov g x k) 2 (lI a) = ov g (x.1, x.2.1, a, x.2.2.2) k := by
  funext j
  unfold vp_updL ov
  by_cases h : j = 2
  · subst h
    rfl
  · rw [if_neg h]
    simp only [h, if_false]
theorem ov_u3 (g : Nat → Int64) (x : R4) (k : Nat) (a : Int) : vp_updL (ov g x k) 3 (lI a) = ov g (x.1, x.2.1, x.2.2.1, a) k := by
  funext j
  unfold vp_updL ov
  by_cases h : j = 3
  · subst h
    rfl
  · rw [if_neg h]
    simp only [h, if_false]
theorem ov_u4 (g : Nat → Int64) (x : R4) (k l : Nat) : vp_updL (ov g x k) 4 (lI l) = ov g x l := by
  funext j
  unfold vp_updL ov
  by_cases h : j = 4
  · subst h
    rfl
  · rw [if_neg h]
    simp only [h, if_false]
/-- five places that tell it -/
theorem ov_of {f g : Nat → Int64} {a : Nat} {x : R4} {k : Nat} (h0 : f a = lI x.1) (h1 : f (a + 1) = lI x.2.1) (h2 : f (a + 2) = lI x.2.2.1) (h3 : f (a + 3) = lI x.2.2.2) (h4 : f (a + 4) = lI k) : (fun j => if j < 5 then f (a + j) else g j) = ov g x k := by
  funext j
  unfold ov
  by_cases hj : j < 5
  · rw [if_pos hj]
    rcases (by omega : j = 0 ∨ j = 1 ∨ j = 2 ∨ j = 3 ∨ j = 4) with rfl | rfl | rfl | rfl | rfl
    · exact h0
    · exact h1
    · exact h2
    · exact h3
    · exact h4
  · rw [if_neg hj, if_neg (by omega), if_neg (by omega), if_neg (by omega), if_neg (by omega), if_neg (by omega)]
theorem lI_nI {k : Nat} (h : k < 2 ^ 31) : (nI k).toInt64 = lI k := by
  apply Int64.toInt_inj.mp
  rw [Int32.toInt_toInt64, lI_t (by omega) (by omega)]
  exact Int32.toInt_ofNat_of_lt h
theorem lg_le (a b : Int64) : lg_cmp a b ≤ 0 ↔ ¬ b < a := by
  unfold lg_cmp
  by_cases h : a > b
  · rw [if_pos h]
    exact ⟨fun c => absurd c (by decide), fun c => absurd h c⟩
  · rw [if_neg h]
    by_cases e : a = b
    · rw [if_pos e]
      exact ⟨fun _ => h, fun _ => by decide⟩
    · rw [if_neg e]
      exact ⟨fun _ => h, fun _ => by decide⟩
theorem lg_ge (a b : Int64) : 0 ≤ lg_cmp a b ↔ ¬ a < b := by
  unfold lg_cmp
  by_cases h : a > b
  · rw [if_pos h]
    exact ⟨fun _ c => Int64.lt_irrefl (Int64.lt_trans h c), fun _ => by decide⟩
  · rw [if_neg h]
    by_cases e : a = b
    · rw [if_pos e]
      exact ⟨fun _ c => Int64.lt_irrefl (e ▸ c), fun _ => by decide⟩
    · rw [if_neg e]
      refine ⟨fun c => absurd c (by decide), fun c => absurd ?_ c⟩
      exact Int64.lt_iff_toInt_lt.mpr (by
        have h : ¬ b.toInt < a.toInt := fun q => h (Int64.lt_iff_toInt_lt.mpr q)
        have e : ¬ a.toInt = b.toInt := fun q => e (Int64.toInt_inj.mp q)
        omega)
theorem lI_lt {a b : Int} (a1 : -2 ^ 63 ≤ a) (a2 : a < 2 ^ 63) (b1 : -2 ^ 63 ≤ b) (b2 : b < 2 ^ 63) : lI a < lI b ↔ a < b := by
  rw [Int64.lt_iff_toInt_lt, lI_t a1 a2, lI_t b1 b2]
theorem lI_d2 {z : Int} (h1 : -2 ^ 63 ≤ z) (h2 : z < 2 ^ 63) : lI z / 2 = lI (z.tdiv 2) := by
  rw [show (2 : Int64) = lI 2 from by decide]
  exact (Int64.ofInt_tdiv (by show (-9223372036854775808 : Int) ≤ z; omega) (by show z ≤ 9223372036854775807; omega) (by decide) (by decide)).symm
theorem td2 (z : Int) (h : z % 2 = 0) : z.tdiv 2 = z / 2 := Int.tdiv_eq_ediv_of_dvd (Int.dvd_of_emod_eq_zero h)
theorem lI_h {z : Int} (h1 : -2 ^ 63 ≤ z) (h2 : z < 2 ^ 63) (h : z % 2 = 0) : lI z / 2 = lI (z / 2) := by
  rw [lI_d2 h1 h2, td2 z h]
theorem lI_r2 {z : Int} (h1 : -2 ^ 63 ≤ z) (h2 : z < 2 ^ 63) : lI z - lI z / 2 * 2 = lI (z.tmod 2) := by
  rw [lI_d2 h1 h2, show (2 : Int64) = lI 2 from by decide, lI_mul, lI_sub]
  congr 1
  have := Int.mul_tdiv_add_tmod z 2
  omega
theorem tm2 (z : Int) : z.tmod 2 = 0 ↔ z % 2 = 0 := by
  constructor
  · intro h
    exact Int.emod_eq_zero_of_dvd (Int.dvd_of_tmod_eq_zero h)
  · intro h
    exact Int.tmod_eq_zero_of_dvd (Int.dvd_of_emod_eq_zero h)
theorem lI_e2 {z : Int} (h1 : -2 ^ 63 ≤ z) (h2 : z < 2 ^ 63) : lI z - lI z / 2 * 2 = 0 ↔ z % 2 = 0 := by
  have h3 := Int.tmod_lt_of_pos z (b := 2) (by decide)
  have h4 := Int.lt_tmod_of_pos z (b := 2) (by decide)
  rw [lI_r2 h1 h2, lI_0 (by omega) (by omega), tm2]
theorem k_0 : Int32.toNatClampNeg 0 = 0 := by decide
theorem k_1 : Int32.toNatClampNeg 1 = 1 := by decide
theorem k0_1 : Int32.toNatClampNeg (0 + 1) = 1 := by decide
theorem k_2 : Int32.toNatClampNeg 2 = 2 := by decide
theorem k0_2 : Int32.toNatClampNeg (0 + 2) = 2 := by decide
theorem k_3 : Int32.toNatClampNeg 3 = 3 := by decide
theorem k0_3 : Int32.toNatClampNeg (0 + 3) = 3 := by decide
theorem k_4 : Int32.toNatClampNeg 4 = 4 := by decide
theorem k0_4 : Int32.toNatClampNeg (0 + 4) = 4 := by decide
theorem i5_0 : vp_in 0 5 := show vp_in (nI 0) 5 from vp_in_nI (by decide) (by decide)
theorem i5_00 : vp_in (0 + 0) 5 := show vp_in (nI 0) 5 from vp_in_nI (by decide) (by decide)
theorem i4_0 : vp_in 0 4 := show vp_in (nI 0) 4 from vp_in_nI (by decide) (by decide)
theorem i5_1 : vp_in 1 5 := show vp_in (nI 1) 5 from vp_in_nI (by decide) (by decide)
theorem i5_01 : vp_in (0 + 1) 5 := show vp_in (nI 1) 5 from vp_in_nI (by decide) (by decide)
theorem i4_1 : vp_in 1 4 := show vp_in (nI 1) 4 from vp_in_nI (by decide) (by decide)
theorem i5_2 : vp_in 2 5 := show vp_in (nI 2) 5 from vp_in_nI (by decide) (by decide)
theorem i5_02 : vp_in (0 + 2) 5 := show vp_in (nI 2) 5 from vp_in_nI (by decide) (by decide)
theorem i4_2 : vp_in 2 4 := show vp_in (nI 2) 4 from vp_in_nI (by decide) (by decide)
theorem i5_3 : vp_in 3 5 := show vp_in (nI 3) 5 from vp_in_nI (by decide) (by decide)
theorem i5_03 : vp_in (0 + 3) 5 := show vp_in (nI 3) 5 from vp_in_nI (by decide) (by decide)
theorem i4_3 : vp_in 3 4 := show vp_in (nI 3) 4 from vp_in_nI (by decide) (by decide)
theorem i5_4 : vp_in 4 5 := show vp_in (nI 4) 5 from vp_in_nI (by decide) (by decide)
theorem i5_04 : vp_in (0 + 4) 5 := show vp_in (nI 4) 5 from vp_in_nI (by decide) (by decide)
section ONE
variable {d : Nat} {M : mm_M} {g : Nat → Int64}
set_option maxRecDepth 100000 in
theorem rd_l {P : am_Q} {X : am_X} {F : R4 × Nat} {v : Int32} (hX : am_K d false nm_X12_reduceAt P X) (hP : P (.inl none) (mm_l M 118 (ov g F.1 F.2))) : ∀ (k : Nat) (x : R4), k < 2 ^ 31 → bd x → (x = (0, 0, 0, 0) → k = 0) → red k x = F → ∀ l4 l5 l6 l7 l8 l9 l10 l11, X 54 [some (aR 108), some (aR 118), some (aI 0), some (aI v), l4, l5, l6, l7, l8, l9, l10, l11] [] (mm_l M 118 (ov g x k)) := by
  intro k
  induction k with
  | zero =>
    intro x hk hb h0 hF l4 l5 l6 l7 l8 l9 l10 l11
    refine am_run hX 20 _ _ _ _ ?_
    conv => whnf
    refine ⟨by first | exact i5_0 | exact i5_1 | exact i5_2 | exact i5_3 | exact i5_4 | exact i5_01 | exact i5_02 | exact i5_03 | exact i5_04 | exact i4_0 | exact i4_1 | exact i4_2 | exact i4_3 | decide, ?_⟩
    conv => whnf
    simp only [mm_l2, mm_ll, k_0, k_1, k_2, k_3, k_4, k0_1, k0_2, k0_3, k0_4, ov_0, ov_1, ov_2, ov_3, ov_4, lI_add, lI_sub]
    rw [lg_le]
    refine ⟨fun _ => ?_, fun c => absurd (by decide) c⟩
    conv => whnf
    subst hF
    exact ⟨trivial, hP⟩
  | succ k ih =>
    intro x hk hb h0 hF l4 l5 l6 l7 l8 l9 l10 l11
    have hx : ¬ x = (0, 0, 0, 0) := fun e => by have := h0 e; omega
    have hbb := hb
    simp only [bd] at hbb
    simp only [red] at hF
    rw [if_neg hx] at hF
    have hend : F = (x, k + 1) → P (.inl none) (mm_l M 118 (ov g x (k + 1))) := fun e => by
      subst e
      exact hP
    refine am_run hX 8 _ _ _ _ ?_
    conv => whnf
    refine ⟨by first | exact i5_0 | exact i5_1 | exact i5_2 | exact i5_3 | exact i5_4 | exact i5_01 | exact i5_02 | exact i5_03 | exact i5_04 | exact i4_0 | exact i4_1 | exact i4_2 | exact i4_3 | decide, ?_⟩
    conv => whnf
    simp only [mm_l2, mm_ll, k_0, k_1, k_2, k_3, k_4, k0_1, k0_2, k0_3, k0_4, ov_0, ov_1, ov_2, ov_3, ov_4, lI_add, lI_sub]
    rw [lg_le]
    refine ⟨fun c => absurd (by rw [show (0 : Int64) = lI 0 from by decide, lI_lt (by decide) (by decide) (by omega) (by omega)]; omega) c, fun _ => ?_⟩
    refine am_run hX 14 _ _ _ _ ?_
    conv => whnf
    refine ⟨by first | exact i5_0 | exact i5_1 | exact i5_2 | exact i5_3 | exact i5_4 | exact i5_01 | exact i5_02 | exact i5_03 | exact i5_04 | exact i4_0 | exact i4_1 | exact i4_2 | exact i4_3 | decide, ?_⟩
    conv => whnf
    refine ⟨by first | exact i5_0 | exact i5_1 | exact i5_2 | exact i5_3 | exact i5_4 | exact i5_01 | exact i5_02 | exact i5_03 | exact i5_04 | exact i4_0 | exact i4_1 | exact i4_2 | exact i4_3 | decide, ?_⟩
    conv => whnf
    refine ⟨by first | exact i5_0 | exact i5_1 | exact i5_2 | exact i5_3 | exact i5_4 | exact i5_01 | exact i5_02 | exact i5_03 | exact i5_04 | exact i4_0 | exact i4_1 | exact i4_2 | exact i4_3 | decide, ?_⟩
    conv => whnf
    simp only [mm_l2, mm_ll, k_0, k_1, k_2, k_3, k_4, k0_1, k0_2, k0_3, k0_4, ov_0, ov_1, ov_2, ov_3, ov_4, lI_add, lI_sub]
    rw [lg_0, lI_e2 (by omega) (by omega)]
    refine ⟨fun c1 => ?_, fun c1 => ?_⟩
    · refine am_run hX 2 _ _ _ _ ?_
      conv => whnf
      refine ⟨trivial, hend ?_⟩
      rw [← hF, if_neg (fun q => c1 (by have := ((dvB_iff x).mp q).1; omega))]
    · have c1 : (x.1 + x.2.2.1) % 2 = 0 := Decidable.byContradiction c1
      refine am_run hX 16 _ _ _ _ ?_
      conv => whnf
      refine ⟨by first | exact i5_0 | exact i5_1 | exact i5_2 | exact i5_3 | exact i5_4 | exact i5_01 | exact i5_02 | exact i5_03 | exact i5_04 | exact i4_0 | exact i4_1 | exact i4_2 | exact i4_3 | decide, ?_⟩
      conv => whnf
      refine ⟨by first | exact i5_0 | exact i5_1 | exact i5_2 | exact i5_3 | exact i5_4 | exact i5_01 | exact i5_02 | exact i5_03 | exact i5_04 | exact i4_0 | exact i4_1 | exact i4_2 | exact i4_3 | decide, ?_⟩
      conv => whnf
      refine ⟨by first | exact i5_0 | exact i5_1 | exact i5_2 | exact i5_3 | exact i5_4 | exact i5_01 | exact i5_02 | exact i5_03 | exact i5_04 | exact i4_0 | exact i4_1 | exact i4_2 | exact i4_3 | decide, ?_⟩
      conv => whnf
      simp only [mm_l2, mm_ll, k_0, k_1, k_2, k_3, k_4, k0_1, k0_2, k0_3, k0_4, ov_0, ov_1, ov_2, ov_3, ov_4, lI_add, lI_sub]
      rw [lg_0, lI_e2 (by omega) (by omega)]
      refine ⟨fun c2 => ?_, fun c2 => ?_⟩
      · refine am_run hX 2 _ _ _ _ ?_
        conv => whnf
        refine ⟨trivial, hend ?_⟩
        rw [← hF, if_neg (fun q => c2 (by have := ((dvB_iff x).mp q).2; omega))]
      · have c2 : (x.2.1 + x.2.2.2) % 2 = 0 := Decidable.byContradiction c2
        have hd : dv x := ⟨by omega, by omega⟩
        rw [if_pos ((dvB_iff x).mpr hd)] at hF
        refine am_run hX 70 _ _ _ _ ?_
        conv => whnf
        refine ⟨by first | exact i5_0 | exact i5_1 | exact i5_2 | exact i5_3 | exact i5_4 | exact i5_01 | exact i5_02 | exact i5_03 | exact i5_04 | exact i4_0 | exact i4_1 | exact i4_2 | exact i4_3 | decide, ?_⟩
        conv => whnf
        refine ⟨by first | exact i5_0 | exact i5_1 | exact i5_2 | exact i5_3 | exact i5_4 | exact i5_01 | exact i5_02 | exact i5_03 | exact i5_04 | exact i4_0 | exact i4_1 | exact i4_2 | exact i4_3 | decide, ?_⟩
        conv => whnf
        refine ⟨by first | exact i5_0 | exact i5_1 | exact i5_2 | exact i5_3 | exact i5_4 | exact i5_01 | exact i5_02 | exact i5_03 | exact i5_04 | exact i4_0 | exact i4_1 | exact i4_2 | exact i4_3 | decide, ?_⟩
        conv => whnf
        refine ⟨by first | exact i5_0 | exact i5_1 | exact i5_2 | exact i5_3 | exact i5_4 | exact i5_01 | exact i5_02 | exact i5_03 | exact i5_04 | exact i4_0 | exact i4_1 | exact i4_2 | exact i4_3 | decide, ?_⟩
        conv => whnf
        refine ⟨by first | exact i5_0 | exact i5_1 | exact i5_2 | exact i5_3 | exact i5_4 | exact i5_01 | exact i5_02 | exact i5_03 | exact i5_04 | exact i4_0 | exact i4_1 | exact i4_2 | exact i4_3 | decide, ?_⟩
        conv => whnf
        refine ⟨by first | exact i5_0 | exact i5_1 | exact i5_2 | exact i5_3 | exact i5_4 | exact i5_01 | exact i5_02 | exact i5_03 | exact i5_04 | exact i4_0 | exact i4_1 | exact i4_2 | exact i4_3 | decide, ?_⟩
        conv => whnf
        refine ⟨by first | exact i5_0 | exact i5_1 | exact i5_2 | exact i5_3 | exact i5_4 | exact i5_01 | exact i5_02 | exact i5_03 | exact i5_04 | exact i4_0 | exact i4_1 | exact i4_2 | exact i4_3 | decide, ?_⟩
        conv => whnf
        refine ⟨by first | exact i5_0 | exact i5_1 | exact i5_2 | exact i5_3 | exact i5_4 | exact i5_01 | exact i5_02 | exact i5_03 | exact i5_04 | exact i4_0 | exact i4_1 | exact i4_2 | exact i4_3 | decide, ?_⟩
        conv => whnf
        refine ⟨by first | exact i5_0 | exact i5_1 | exact i5_2 | exact i5_3 | exact i5_4 | exact i5_01 | exact i5_02 | exact i5_03 | exact i5_04 | exact i4_0 | exact i4_1 | exact i4_2 | exact i4_3 | decide, ?_⟩
        conv => whnf
        refine ⟨by first | exact i5_0 | exact i5_1 | exact i5_2 | exact i5_3 | exact i5_4 | exact i5_01 | exact i5_02 | exact i5_03 | exact i5_04 | exact i4_0 | exact i4_1 | exact i4_2 | exact i4_3 | decide, ?_⟩
        conv => whnf
        refine ⟨by first | exact i5_0 | exact i5_1 | exact i5_2 | exact i5_3 | exact i5_4 | exact i5_01 | exact i5_02 | exact i5_03 | exact i5_04 | exact i4_0 | exact i4_1 | exact i4_2 | exact i4_3 | decide, ?_⟩
        conv => whnf
        refine ⟨by first | exact i5_0 | exact i5_1 | exact i5_2 | exact i5_3 | exact i5_4 | exact i5_01 | exact i5_02 | exact i5_03 | exact i5_04 | exact i4_0 | exact i4_1 | exact i4_2 | exact i4_3 | decide, ?_⟩
        conv => whnf
        refine ⟨by first | exact i5_0 | exact i5_1 | exact i5_2 | exact i5_3 | exact i5_4 | exact i5_01 | exact i5_02 | exact i5_03 | exact i5_04 | exact i4_0 | exact i4_1 | exact i4_2 | exact i4_3 | decide, ?_⟩
        conv => whnf
        refine ⟨by first | exact i5_0 | exact i5_1 | exact i5_2 | exact i5_3 | exact i5_4 | exact i5_01 | exact i5_02 | exact i5_03 | exact i5_04 | exact i4_0 | exact i4_1 | exact i4_2 | exact i4_3 | decide, ?_⟩
        conv => whnf
        simp only [mm_l2, mm_ll, k_0, k_1, k_2, k_3, k_4, k0_1, k0_2, k0_3, k0_4, ov_0, ov_1, ov_2, ov_3, ov_4, lI_add, lI_sub]
        rw [lI_h (by omega) (by omega) (by omega), lI_h (by omega) (by omega) (by omega), lI_h (by omega) (by omega) (by omega), lI_h (by omega) (by omega) (by omega)]
        simp only [ov_u0, ov_u1, ov_u2, ov_u3, ov_4]
        rw [show (1 : Int64) = lI 1 from by decide, lI_sub, show (((k + 1 : Nat) : Int) - 1) = ((k : Nat) : Int) by omega, ov_u4]
        refine ih (hv x) (by omega) (bd_hv hb) (fun e => ?_) hF _ _ _ _ _ _ _ _
        exfalso
        apply hx
        rw [← rr_hv hd, e]
        rfl
set_option maxRecDepth 100000 in
theorem ct_red {k : Nat} {x : R4} (hk : k < 2 ^ 31) (hb : bd x) : am_M (d + 1) false nm_X12_reduceAt [aR 108, aR 118, aI 0] (mm_l M 118 (ov g x k)) (am_q0 (mm_l M 118 (ov g (red k x).1 (red k x).2))) := by
  have hbb := hb
  simp only [bd] at hbb
  have hne : ∀ (v : Int32) {X : am_X}, am_K d false nm_X12_reduceAt (am_q0 (mm_l M 118 (ov g (red k x).1 (red k x).2))) X → ¬ x = (0, 0, 0, 0) → X 43 [some (aR 108), some (aR 118), some (aI 0), none, none, none, none, none, none, none, none, none] [aI 0] (mm_l M 118 (ov g x k)) := by
    intro v X hX hx
    refine am_run hX 3 _ _ _ _ ?_
    conv => whnf
    refine ⟨fun _ => ?_, fun c => absurd rfl c⟩
    exact rd_l hX ⟨rfl, rfl⟩ k x hk hb (fun e => absurd e hx) rfl _ _ _ _ _ _ _ _
  refine ⟨rfl, rfl, rfl, fun X hX => am_run hX 6 _ _ _ _ ?_⟩
  conv => whnf
  refine ⟨by first | exact i5_0 | exact i5_1 | exact i5_2 | exact i5_3 | exact i5_4 | exact i5_01 | exact i5_02 | exact i5_03 | exact i5_04 | exact i4_0 | exact i4_1 | exact i4_2 | exact i4_3 | decide, ?_⟩
  conv => whnf
  simp only [mm_l2, mm_ll, k_0, k_1, k_2, k_3, k_4, k0_1, k0_2, k0_3, k0_4, ov_0, ov_1, ov_2, ov_3, ov_4, lI_add, lI_sub]
  rw [lg_0, lI_0 (by omega) (by omega)]
  refine ⟨fun c => ?_, fun c1 => ?_⟩
  · refine am_run hX 1 _ _ _ _ ?_
    conv => whnf
    exact hne 0 hX (fun e => c (by rw [e]))
  refine am_run hX 8 _ _ _ _ ?_
  conv => whnf
  refine ⟨by first | exact i5_0 | exact i5_1 | exact i5_2 | exact i5_3 | exact i5_4 | exact i5_01 | exact i5_02 | exact i5_03 | exact i5_04 | exact i4_0 | exact i4_1 | exact i4_2 | exact i4_3 | decide, ?_⟩
  conv => whnf
  simp only [mm_l2, mm_ll, k_0, k_1, k_2, k_3, k_4, k0_1, k0_2, k0_3, k0_4, ov_0, ov_1, ov_2, ov_3, ov_4, lI_add, lI_sub]
  rw [lg_0, lI_0 (by omega) (by omega)]
  refine ⟨fun c => ?_, fun c2 => ?_⟩
  · refine am_run hX 1 _ _ _ _ ?_
    conv => whnf
    exact hne 0 hX (fun e => c (by rw [e]))
  refine am_run hX 8 _ _ _ _ ?_
  conv => whnf
  refine ⟨by first | exact i5_0 | exact i5_1 | exact i5_2 | exact i5_3 | exact i5_4 | exact i5_01 | exact i5_02 | exact i5_03 | exact i5_04 | exact i4_0 | exact i4_1 | exact i4_2 | exact i4_3 | decide, ?_⟩
  conv => whnf
  simp only [mm_l2, mm_ll, k_0, k_1, k_2, k_3, k_4, k0_1, k0_2, k0_3, k0_4, ov_0, ov_1, ov_2, ov_3, ov_4, lI_add, lI_sub]
  rw [lg_0, lI_0 (by omega) (by omega)]
  refine ⟨fun c => ?_, fun c3 => ?_⟩
  · refine am_run hX 1 _ _ _ _ ?_
    conv => whnf
    exact hne 0 hX (fun e => c (by rw [e]))
  refine am_run hX 8 _ _ _ _ ?_
  conv => whnf
  refine ⟨by first | exact i5_0 | exact i5_1 | exact i5_2 | exact i5_3 | exact i5_4 | exact i5_01 | exact i5_02 | exact i5_03 | exact i5_04 | exact i4_0 | exact i4_1 | exact i4_2 | exact i4_3 | decide, ?_⟩
  conv => whnf
  simp only [mm_l2, mm_ll, k_0, k_1, k_2, k_3, k_4, k0_1, k0_2, k0_3, k0_4, ov_0, ov_1, ov_2, ov_3, ov_4, lI_add, lI_sub]
  rw [lg_0, lI_0 (by omega) (by omega)]
  refine ⟨fun c => ?_, fun c4 => ?_⟩
  · refine am_run hX 1 _ _ _ _ ?_
    conv => whnf
    exact hne 0 hX (fun e => c (by rw [e]))
  have hx : x = (0, 0, 0, 0) := by
    have c1 := Decidable.byContradiction c1
    have c2 := Decidable.byContradiction c2
    have c3 := Decidable.byContradiction c3
    have c4 := Decidable.byContradiction c4
    obtain ⟨a, b, c, e⟩ := x
    simp only [Prod.mk.injEq]
    exact ⟨c1, c2, c3, c4⟩
  refine am_run hX 5 _ _ _ _ ?_
  conv => whnf
  refine ⟨fun c => absurd c (by decide), fun _ => ?_⟩
  refine am_run hX 6 _ _ _ _ ?_
  conv => whnf
  refine ⟨by first | exact i5_0 | exact i5_1 | exact i5_2 | exact i5_3 | exact i5_4 | exact i5_01 | exact i5_02 | exact i5_03 | exact i5_04 | exact i4_0 | exact i4_1 | exact i4_2 | exact i4_3 | decide, ?_⟩
  conv => whnf
  simp only [mm_l2, mm_ll, k_0, k_1, k_2, k_3, k_4, k0_1, k0_2, k0_3, k0_4, ov_0, ov_1, ov_2, ov_3, ov_4, lI_add, lI_sub]
  rw [show (0 : Int64) = lI (0 : Nat) from by decide, ov_u4]
  refine rd_l hX ?_ 0 x (by decide) hb (fun _ => rfl) rfl _ _ _ _ _ _ _ _
  rw [hx, red_0, red_0]
  exact ⟨rfl, rfl⟩
set_option maxRecDepth 100000 in
theorem rs_l118 {P : am_Q} {X : am_X} {p : Nat} {F : R4} (hp : p < 2 ^ 31) (hX : am_K d false nm_X12_raisePower P X) (hP : P (.inl none) (mm_l M 118 (ov g F p))) : ∀ (m k : Nat) (x : R4), k + m = p → rn m x = F → ∀ l5 l6 l7 l8 l9 l10 l11 l12, X 0 [some (aR 108), some (aR 118), some (aI 0), some (aJ (lI p)), none, l5, l6, l7, l8, l9, l10, l11, l12] [] (mm_l M 118 (ov g x k)) := by
  intro m
  induction m with
  | zero =>
    intro k x hk hF l5 l6 l7 l8 l9 l10 l11 l12
    have hk : k = p := by omega
    subst hk
    refine am_run hX 20 _ _ _ _ ?_
    conv => whnf
    refine ⟨by first | exact i5_0 | exact i5_1 | exact i5_2 | exact i5_3 | exact i5_4 | exact i5_01 | exact i5_02 | exact i5_03 | exact i5_04 | exact i4_0 | exact i4_1 | exact i4_2 | exact i4_3 | decide, ?_⟩
    conv => whnf
    simp only [mm_l2, mm_ll, k_0, k_1, k_2, k_3, k_4, k0_1, k0_2, k0_3, k0_4, ov_0, ov_1, ov_2, ov_3, ov_4, lI_add, lI_sub]
    rw [lg_ge, lI_lt (by omega) (by omega) (by omega) (by omega)]
    refine ⟨fun _ => ?_, fun c => absurd (by omega) c⟩
    conv => whnf
    subst hF
    exact ⟨trivial, hP⟩
  | succ m ih =>
    intro k x hk hF l5 l6 l7 l8 l9 l10 l11 l12
    refine am_run hX 8 _ _ _ _ ?_
    conv => whnf
    refine ⟨by first | exact i5_0 | exact i5_1 | exact i5_2 | exact i5_3 | exact i5_4 | exact i5_01 | exact i5_02 | exact i5_03 | exact i5_04 | exact i4_0 | exact i4_1 | exact i4_2 | exact i4_3 | decide, ?_⟩
    conv => whnf
    simp only [mm_l2, mm_ll, k_0, k_1, k_2, k_3, k_4, k0_1, k0_2, k0_3, k0_4, ov_0, ov_1, ov_2, ov_3, ov_4, lI_add, lI_sub]
    rw [lg_ge, lI_lt (by omega) (by omega) (by omega) (by omega)]
    refine ⟨fun c => absurd (by omega) c, fun _ => ?_⟩
    refine am_run hX 62 _ _ _ _ ?_
    conv => whnf
    refine ⟨by first | exact i5_0 | exact i5_1 | exact i5_2 | exact i5_3 | exact i5_4 | exact i5_01 | exact i5_02 | exact i5_03 | exact i5_04 | exact i4_0 | exact i4_1 | exact i4_2 | exact i4_3 | decide, ?_⟩
    conv => whnf
    refine ⟨by first | exact i5_0 | exact i5_1 | exact i5_2 | exact i5_3 | exact i5_4 | exact i5_01 | exact i5_02 | exact i5_03 | exact i5_04 | exact i4_0 | exact i4_1 | exact i4_2 | exact i4_3 | decide, ?_⟩
    conv => whnf
    refine ⟨by first | exact i5_0 | exact i5_1 | exact i5_2 | exact i5_3 | exact i5_4 | exact i5_01 | exact i5_02 | exact i5_03 | exact i5_04 | exact i4_0 | exact i4_1 | exact i4_2 | exact i4_3 | decide, ?_⟩
    conv => whnf
    refine ⟨by first | exact i5_0 | exact i5_1 | exact i5_2 | exact i5_3 | exact i5_4 | exact i5_01 | exact i5_02 | exact i5_03 | exact i5_04 | exact i4_0 | exact i4_1 | exact i4_2 | exact i4_3 | decide, ?_⟩
    conv => whnf
    refine ⟨by first | exact i5_0 | exact i5_1 | exact i5_2 | exact i5_3 | exact i5_4 | exact i5_01 | exact i5_02 | exact i5_03 | exact i5_04 | exact i4_0 | exact i4_1 | exact i4_2 | exact i4_3 | decide, ?_⟩
    conv => whnf
    refine ⟨by first | exact i5_0 | exact i5_1 | exact i5_2 | exact i5_3 | exact i5_4 | exact i5_01 | exact i5_02 | exact i5_03 | exact i5_04 | exact i4_0 | exact i4_1 | exact i4_2 | exact i4_3 | decide, ?_⟩
    conv => whnf
    refine ⟨by first | exact i5_0 | exact i5_1 | exact i5_2 | exact i5_3 | exact i5_4 | exact i5_01 | exact i5_02 | exact i5_03 | exact i5_04 | exact i4_0 | exact i4_1 | exact i4_2 | exact i4_3 | decide, ?_⟩
    conv => whnf
    refine ⟨by first | exact i5_0 | exact i5_1 | exact i5_2 | exact i5_3 | exact i5_4 | exact i5_01 | exact i5_02 | exact i5_03 | exact i5_04 | exact i4_0 | exact i4_1 | exact i4_2 | exact i4_3 | decide, ?_⟩
    conv => whnf
    refine ⟨by first | exact i5_0 | exact i5_1 | exact i5_2 | exact i5_3 | exact i5_4 | exact i5_01 | exact i5_02 | exact i5_03 | exact i5_04 | exact i4_0 | exact i4_1 | exact i4_2 | exact i4_3 | decide, ?_⟩
    conv => whnf
    refine ⟨by first | exact i5_0 | exact i5_1 | exact i5_2 | exact i5_3 | exact i5_4 | exact i5_01 | exact i5_02 | exact i5_03 | exact i5_04 | exact i4_0 | exact i4_1 | exact i4_2 | exact i4_3 | decide, ?_⟩
    conv => whnf
    simp only [mm_l2, mm_ll, k_0, k_1, k_2, k_3, k_4, k0_1, k0_2, k0_3, k0_4, ov_0, ov_1, ov_2, ov_3, ov_4, lI_add, lI_sub]
    simp only [ov_u0, ov_u1, ov_u2, ov_u3, ov_4]
    rw [show (1 : Int64) = lI 1 from by decide, lI_add, show ((k : Nat) : Int) + 1 = ((k + 1 : Nat) : Int) by omega, ov_u4]
    refine ih (k + 1) (rr x) (by omega) ?_ _ _ _ _ _ _ _ _
    rw [← hF, rn_a x m 1]
    rfl
set_option maxRecDepth 100000 in
theorem ct_raise118 {k p : Nat} {x : R4} (hk : k < 2 ^ 31) (hp : p < 2 ^ 31) : am_M (d + 1) false nm_X12_raisePower [aR 108, aR 118, aI 0, aJ (lI p)] (mm_l M 118 (ov g x k)) (am_q0 (mm_l M 118 (ov g (rn (max k p - k) x) (max k p)))) := by
  refine ⟨rfl, rfl, rfl, fun X hX => ?_⟩
  by_cases h : k ≤ p
  · have e : max k p = p := by omega
    rw [e] at hX
    exact rs_l118 hp hX ⟨rfl, rfl⟩ (p - k) k x (by omega) rfl _ _ _ _ _ _ _ _
  · have e : max k p = k := by omega
    rw [e, Nat.sub_self] at hX
    refine am_run hX 20 _ _ _ _ ?_
    conv => whnf
    refine ⟨by first | exact i5_0 | exact i5_1 | exact i5_2 | exact i5_3 | exact i5_4 | exact i5_01 | exact i5_02 | exact i5_03 | exact i5_04 | exact i4_0 | exact i4_1 | exact i4_2 | exact i4_3 | decide, ?_⟩
    conv => whnf
    simp only [mm_l2, mm_ll, k_0, k_1, k_2, k_3, k_4, k0_1, k0_2, k0_3, k0_4, ov_0, ov_1, ov_2, ov_3, ov_4, lI_add, lI_sub]
    rw [lg_ge, lI_lt (by omega) (by omega) (by omega) (by omega)]
    refine ⟨fun _ => ?_, fun c => absurd (by omega) c⟩
    conv => whnf
    exact ⟨trivial, rfl, rfl⟩
set_option maxRecDepth 100000 in
theorem rs_l119 {P : am_Q} {X : am_X} {p : Nat} {F : R4} (hp : p < 2 ^ 31) (hX : am_K d false nm_X12_raisePower P X) (hP : P (.inl none) (mm_l M 119 (ov g F p))) : ∀ (m k : Nat) (x : R4), k + m = p → rn m x = F → ∀ l5 l6 l7 l8 l9 l10 l11 l12, X 0 [some (aR 108), some (aR 119), some (aI 0), some (aJ (lI p)), none, l5, l6, l7, l8, l9, l10, l11, l12] [] (mm_l M 119 (ov g x k)) := by
  intro m
  induction m with
  | zero =>
    intro k x hk hF l5 l6 l7 l8 l9 l10 l11 l12
    have hk : k = p := by omega
    subst hk
    refine am_run hX 20 _ _ _ _ ?_
    conv => whnf
    refine ⟨by first | exact i5_0 | exact i5_1 | exact i5_2 | exact i5_3 | exact i5_4 | exact i5_01 | exact i5_02 | exact i5_03 | exact i5_04 | exact i4_0 | exact i4_1 | exact i4_2 | exact i4_3 | decide, ?_⟩
    conv => whnf
    simp only [mm_l2, mm_ll, k_0, k_1, k_2, k_3, k_4, k0_1, k0_2, k0_3, k0_4, ov_0, ov_1, ov_2, ov_3, ov_4, lI_add, lI_sub]
    rw [lg_ge, lI_lt (by omega) (by omega) (by omega) (by omega)]
    refine ⟨fun _ => ?_, fun c => absurd (by omega) c⟩
    conv => whnf
    subst hF
    exact ⟨trivial, hP⟩
  | succ m ih =>
    intro k x hk hF l5 l6 l7 l8 l9 l10 l11 l12
    refine am_run hX 8 _ _ _ _ ?_
    conv => whnf
    refine ⟨by first | exact i5_0 | exact i5_1 | exact i5_2 | exact i5_3 | exact i5_4 | exact i5_01 | exact i5_02 | exact i5_03 | exact i5_04 | exact i4_0 | exact i4_1 | exact i4_2 | exact i4_3 | decide, ?_⟩
    conv => whnf
    simp only [mm_l2, mm_ll, k_0, k_1, k_2, k_3, k_4, k0_1, k0_2, k0_3, k0_4, ov_0, ov_1, ov_2, ov_3, ov_4, lI_add, lI_sub]
    rw [lg_ge, lI_lt (by omega) (by omega) (by omega) (by omega)]
    refine ⟨fun c => absurd (by omega) c, fun _ => ?_⟩
    refine am_run hX 62 _ _ _ _ ?_
    conv => whnf
    refine ⟨by first | exact i5_0 | exact i5_1 | exact i5_2 | exact i5_3 | exact i5_4 | exact i5_01 | exact i5_02 | exact i5_03 | exact i5_04 | exact i4_0 | exact i4_1 | exact i4_2 | exact i4_3 | decide, ?_⟩
    conv => whnf
    refine ⟨by first | exact i5_0 | exact i5_1 | exact i5_2 | exact i5_3 | exact i5_4 | exact i5_01 | exact i5_02 | exact i5_03 | exact i5_04 | exact i4_0 | exact i4_1 | exact i4_2 | exact i4_3 | decide, ?_⟩
    conv => whnf
    refine ⟨by first | exact i5_0 | exact i5_1 | exact i5_2 | exact i5_3 | exact i5_4 | exact i5_01 | exact i5_02 | exact i5_03 | exact i5_04 | exact i4_0 | exact i4_1 | exact i4_2 | exact i4_3 | decide, ?_⟩
    conv => whnf
    refine ⟨by first | exact i5_0 | exact i5_1 | exact i5_2 | exact i5_3 | exact i5_4 | exact i5_01 | exact i5_02 | exact i5_03 | exact i5_04 | exact i4_0 | exact i4_1 | exact i4_2 | exact i4_3 | decide, ?_⟩
    conv => whnf
    refine ⟨by first | exact i5_0 | exact i5_1 | exact i5_2 | exact i5_3 | exact i5_4 | exact i5_01 | exact i5_02 | exact i5_03 | exact i5_04 | exact i4_0 | exact i4_1 | exact i4_2 | exact i4_3 | decide, ?_⟩
    conv => whnf
    refine ⟨by first | exact i5_0 | exact i5_1 | exact i5_2 | exact i5_3 | exact i5_4 | exact i5_01 | exact i5_02 | exact i5_03 | exact i5_04 | exact i4_0 | exact i4_1 | exact i4_2 | exact i4_3 | decide, ?_⟩
    conv => whnf
    refine ⟨by first | exact i5_0 | exact i5_1 | exact i5_2 | exact i5_3 | exact i5_4 | exact i5_01 | exact i5_02 | exact i5_03 | exact i5_04 | exact i4_0 | exact i4_1 | exact i4_2 | exact i4_3 | decide, ?_⟩
    conv => whnf
    refine ⟨by first | exact i5_0 | exact i5_1 | exact i5_2 | exact i5_3 | exact i5_4 | exact i5_01 | exact i5_02 | exact i5_03 | exact i5_04 | exact i4_0 | exact i4_1 | exact i4_2 | exact i4_3 | decide, ?_⟩
    conv => whnf
    refine ⟨by first | exact i5_0 | exact i5_1 | exact i5_2 | exact i5_3 | exact i5_4 | exact i5_01 | exact i5_02 | exact i5_03 | exact i5_04 | exact i4_0 | exact i4_1 | exact i4_2 | exact i4_3 | decide, ?_⟩
    conv => whnf
    refine ⟨by first | exact i5_0 | exact i5_1 | exact i5_2 | exact i5_3 | exact i5_4 | exact i5_01 | exact i5_02 | exact i5_03 | exact i5_04 | exact i4_0 | exact i4_1 | exact i4_2 | exact i4_3 | decide, ?_⟩
    conv => whnf
    simp only [mm_l2, mm_ll, k_0, k_1, k_2, k_3, k_4, k0_1, k0_2, k0_3, k0_4, ov_0, ov_1, ov_2, ov_3, ov_4, lI_add, lI_sub]
    simp only [ov_u0, ov_u1, ov_u2, ov_u3, ov_4]
    rw [show (1 : Int64) = lI 1 from by decide, lI_add, show ((k : Nat) : Int) + 1 = ((k + 1 : Nat) : Int) by omega, ov_u4]
    refine ih (k + 1) (rr x) (by omega) ?_ _ _ _ _ _ _ _ _
    rw [← hF, rn_a x m 1]
    rfl
set_option maxRecDepth 100000 in
theorem ct_raise119 {k p : Nat} {x : R4} (hk : k < 2 ^ 31) (hp : p < 2 ^ 31) : am_M (d + 1) false nm_X12_raisePower [aR 108, aR 119, aI 0, aJ (lI p)] (mm_l M 119 (ov g x k)) (am_q0 (mm_l M 119 (ov g (rn (max k p - k) x) (max k p)))) := by
  refine ⟨rfl, rfl, rfl, fun X hX => ?_⟩
  by_cases h : k ≤ p
  · have e : max k p = p := by omega
    rw [e] at hX
    exact rs_l119 hp hX ⟨rfl, rfl⟩ (p - k) k x (by omega) rfl _ _ _ _ _ _ _ _
  · have e : max k p = k := by omega
    rw [e, Nat.sub_self] at hX
    refine am_run hX 20 _ _ _ _ ?_
    conv => whnf
    refine ⟨by first | exact i5_0 | exact i5_1 | exact i5_2 | exact i5_3 | exact i5_4 | exact i5_01 | exact i5_02 | exact i5_03 | exact i5_04 | exact i4_0 | exact i4_1 | exact i4_2 | exact i4_3 | decide, ?_⟩
    conv => whnf
    simp only [mm_l2, mm_ll, k_0, k_1, k_2, k_3, k_4, k0_1, k0_2, k0_3, k0_4, ov_0, ov_1, ov_2, ov_3, ov_4, lI_add, lI_sub]
    rw [lg_ge, lI_lt (by omega) (by omega) (by omega) (by omega)]
    refine ⟨fun _ => ?_, fun c => absurd (by omega) c⟩
    conv => whnf
    exact ⟨trivial, rfl, rfl⟩
set_option maxRecDepth 100000 in
theorem ct_conj {k : Nat} {x : R4} : am_M (d + 1) false nm_X12_conjugate [aR 108] (mm_l M 118 (ov g x k)) (am_q0 (mm_l M 118 (ov g (cj x) k))) := by
  refine ⟨rfl, rfl, rfl, fun X hX => am_run hX 60 _ _ _ _ ?_⟩
  conv => whnf
  refine ⟨by first | exact i5_0 | exact i5_1 | exact i5_2 | exact i5_3 | exact i5_4 | exact i5_01 | exact i5_02 | exact i5_03 | exact i5_04 | exact i4_0 | exact i4_1 | exact i4_2 | exact i4_3 | decide, ?_⟩
  conv => whnf
  refine ⟨by first | exact i5_0 | exact i5_1 | exact i5_2 | exact i5_3 | exact i5_4 | exact i5_01 | exact i5_02 | exact i5_03 | exact i5_04 | exact i4_0 | exact i4_1 | exact i4_2 | exact i4_3 | decide, ?_⟩
  conv => whnf
  refine ⟨by first | exact i5_0 | exact i5_1 | exact i5_2 | exact i5_3 | exact i5_4 | exact i5_01 | exact i5_02 | exact i5_03 | exact i5_04 | exact i4_0 | exact i4_1 | exact i4_2 | exact i4_3 | decide, ?_⟩
  conv => whnf
  refine ⟨by first | exact i5_0 | exact i5_1 | exact i5_2 | exact i5_3 | exact i5_4 | exact i5_01 | exact i5_02 | exact i5_03 | exact i5_04 | exact i4_0 | exact i4_1 | exact i4_2 | exact i4_3 | decide, ?_⟩
  conv => whnf
  refine ⟨by first | exact i5_0 | exact i5_1 | exact i5_2 | exact i5_3 | exact i5_4 | exact i5_01 | exact i5_02 | exact i5_03 | exact i5_04 | exact i4_0 | exact i4_1 | exact i4_2 | exact i4_3 | decide, ?_⟩
  conv => whnf
  refine ⟨by first | exact i5_0 | exact i5_1 | exact i5_2 | exact i5_3 | exact i5_4 | exact i5_01 | exact i5_02 | exact i5_03 | exact i5_04 | exact i4_0 | exact i4_1 | exact i4_2 | exact i4_3 | decide, ?_⟩
  conv => whnf
  refine ⟨trivial, rfl, ?_⟩
  simp only [mm_l2, mm_ll, k_0, k_1, k_2, k_3, k_4, k0_1, k0_2, k0_3, k0_4, ov_0, ov_1, ov_2, ov_3, ov_4, lI_add, lI_sub]
  simp only [lI_neg, ov_u1, ov_u2, ov_u3, ov_2, ov_1, ov_3]
  rfl
set_option maxRecDepth 100000 in
theorem tn_l {P : am_Q} {X : am_X} {p : Int32} {n k : Nat} {F : R4} (hn : n < 8) (hp : p &&& 7 = nI n) (hX : am_K d false nm_X12_turnOne P X) (hP : P (.inl none) (mm_l M 118 (ov g F k))) : ∀ (m i : Nat) (x : R4), i + m = n → t8n m x = F → ∀ l3 l4, X 2 [some (aR 108), some (aI p), some (aI (nI i)), l3, l4] [] (mm_l M 118 (ov g x k)) := by
  intro m
  induction m with
  | zero =>
    intro i x hi hF l3 l4
    have hi : i = n := by omega
    subst hi
    refine am_run hX 20 _ _ _ _ ?_
    conv => whnf
    rw [hp]
    refine ⟨fun _ => ?_, fun c => absurd (nI_le (by omega) (by omega)) c⟩
    conv => whnf
    subst hF
    exact ⟨trivial, hP⟩
  | succ m ih =>
    intro i x hi hF l3 l4
    refine am_run hX 5 _ _ _ _ ?_
    conv => whnf
    rw [hp]
    refine ⟨fun c => absurd c (nI_ge (by omega) (by omega)), fun _ => ?_⟩
    refine am_run hX 37 _ _ _ _ ?_
    conv => whnf
    refine ⟨by first | exact i5_0 | exact i5_1 | exact i5_2 | exact i5_3 | exact i5_4 | exact i5_01 | exact i5_02 | exact i5_03 | exact i5_04 | exact i4_0 | exact i4_1 | exact i4_2 | exact i4_3 | decide, ?_⟩
    conv => whnf
    refine ⟨by first | exact i5_0 | exact i5_1 | exact i5_2 | exact i5_3 | exact i5_4 | exact i5_01 | exact i5_02 | exact i5_03 | exact i5_04 | exact i4_0 | exact i4_1 | exact i4_2 | exact i4_3 | decide, ?_⟩
    conv => whnf
    refine ⟨by first | exact i5_0 | exact i5_1 | exact i5_2 | exact i5_3 | exact i5_4 | exact i5_01 | exact i5_02 | exact i5_03 | exact i5_04 | exact i4_0 | exact i4_1 | exact i4_2 | exact i4_3 | decide, ?_⟩
    conv => whnf
    refine ⟨by first | exact i5_0 | exact i5_1 | exact i5_2 | exact i5_3 | exact i5_4 | exact i5_01 | exact i5_02 | exact i5_03 | exact i5_04 | exact i4_0 | exact i4_1 | exact i4_2 | exact i4_3 | decide, ?_⟩
    conv => whnf
    refine ⟨by first | exact i5_0 | exact i5_1 | exact i5_2 | exact i5_3 | exact i5_4 | exact i5_01 | exact i5_02 | exact i5_03 | exact i5_04 | exact i4_0 | exact i4_1 | exact i4_2 | exact i4_3 | decide, ?_⟩
    conv => whnf
    refine ⟨by first | exact i5_0 | exact i5_1 | exact i5_2 | exact i5_3 | exact i5_4 | exact i5_01 | exact i5_02 | exact i5_03 | exact i5_04 | exact i4_0 | exact i4_1 | exact i4_2 | exact i4_3 | decide, ?_⟩
    conv => whnf
    refine ⟨by first | exact i5_0 | exact i5_1 | exact i5_2 | exact i5_3 | exact i5_4 | exact i5_01 | exact i5_02 | exact i5_03 | exact i5_04 | exact i4_0 | exact i4_1 | exact i4_2 | exact i4_3 | decide, ?_⟩
    conv => whnf
    refine ⟨by first | exact i5_0 | exact i5_1 | exact i5_2 | exact i5_3 | exact i5_4 | exact i5_01 | exact i5_02 | exact i5_03 | exact i5_04 | exact i4_0 | exact i4_1 | exact i4_2 | exact i4_3 | decide, ?_⟩
    conv => whnf
    simp only [mm_l2, mm_ll, k_0, k_1, k_2, k_3, k_4, k0_1, k0_2, k0_3, k0_4, ov_0, ov_1, ov_2, ov_3, ov_4, lI_add, lI_sub]
    simp only [lI_neg, ov_u0, ov_u1, ov_u2, ov_u3, ov_0, ov_1, ov_2, ov_3]
    rw [nI_1]
    refine ih (i + 1) (t8 x) (by omega) ?_ _ _
    rw [← hF, t8n_a x m 1]
    rfl
set_option maxRecDepth 100000 in
theorem ct_turn1 {p : Int32} {n k : Nat} {x : R4} (hn : n < 8) (hp : p &&& 7 = nI n) : am_M (d + 1) false nm_X12_turnOne [aR 108, aI p] (mm_l M 118 (ov g x k)) (am_q0 (mm_l M 118 (ov g (t8n n x) k))) := by
  refine ⟨rfl, rfl, rfl, fun X hX => am_run hX 2 _ _ _ _ ?_⟩
  conv => whnf
  exact tn_l hn hp hX ⟨rfl, rfl⟩ n 0 x (by omega) rfl _ _
end ONE
