/-! WHAT WAS FOUND becomes A: the class's becomeA -/
section BEC
variable {d : Nat} {M : mm_M}
/-- the first i TERMS of the row -/
def fA0 (N : mm_M) (i : Nat) (q r s : Nat → Int32) : mm_M := mm_i (mm_i (mm_i N 85 (fun j => if j < i then q j else N.1 85 j)) 89 (fun j => if j < i then r j else N.1 89 j)) 93 (fun j => if j < i then s j else N.1 93 j)
theorem fA0_0 {N : mm_M} {q r s : Nat → Int32} : fA0 N 0 q r s = N := by
  refine Prod.ext (funext fun k => ?_) rfl
  by_cases h1 : k = 85
  · subst h1
    show (fun j => if j < 0 then q j else N.1 85 j) = N.1 85
    simp
  · by_cases h2 : k = 89
    · subst h2
      show (fun j => if j < 0 then r j else N.1 89 j) = N.1 89
      simp
    · by_cases h3 : k = 93
      · subst h3
        show (fun j => if j < 0 then s j else N.1 93 j) = N.1 93
        simp
      · simp [fA0, mm_i, h1, h2, h3]
theorem fA0_s {N : mm_M} {i : Nat} {q r s : Nat → Int32} : mm_i (mm_i (mm_i (fA0 N i q r s) 85 (upd ((fA0 N i q r s).1 85) i (q i))) 89 (upd ((fA0 N i q r s).1 89) i (r i))) 93 (upd ((fA0 N i q r s).1 93) i (s i)) = fA0 N (i + 1) q r s := by
  refine Prod.ext (funext fun k => ?_) rfl
  by_cases h1 : k = 85
  · subst h1
    exact up_s (h := q) rfl
  · by_cases h2 : k = 89
    · subst h2
      exact up_s (h := r) rfl
    · by_cases h3 : k = 93
      · subst h3
        exact up_s (h := s) rfl
      · simp [fA0, mm_i, h1, h2, h3]
set_option maxRecDepth 100000 in
theorem ba_l0 {P : am_Q} {X : am_X} {N : mm_M} {n : Nat} {hv : Int32} (hX : am_K d false nm_X9_becomeA P X) (hn : n ≤ 150) (e1 : N.1 84 0 = nI 0) (e2 : N.1 88 0 = nI 0) (e3 : N.1 92 0 = nI 0) (hK : X 57 [some (aR 83), some (aI (nI n)), some (aI hv), some (aI (nI n))] [] (fA0 N n (N.1 98) (fun j => (N.2 99 j).toInt32) (fun j => (N.2 100 j).toInt32))) : ∀ m i, i + m = n → X 2 [some (aR 83), some (aI (nI n)), some (aI hv), some (aI (nI i))] [] (fA0 N i (N.1 98) (fun j => (N.2 99 j).toInt32) (fun j => (N.2 100 j).toInt32)) := by
  intro m
  induction m with
  | zero =>
    intro i hi
    have hi : i = n := by omega
    subst hi
    refine am_run hX 3 _ _ _ _ ?_
    conv => whnf
    refine ⟨fun _ => ?_, fun c => absurd (nI_le (by omega) (by omega)) c⟩
    exact hK
  | succ m ih =>
    intro i hi
    have hin : vp_in (nI i) 150 := vp_in_nI (by omega) (by decide)
    have h0 : vp_in 0 3 := vp_in_nI (n := 0) (N := 3) (by decide) (by decide)
    have ih := ih (i + 1) (by omega)
    refine am_run hX 3 _ _ _ _ ?_
    conv => whnf
    refine ⟨fun c => absurd c (nI_ge (by omega) (by omega)), fun _ => ?_⟩
    refine am_run hX 34 _ _ _ _ ?_
    conv => whnf
    rw [show (fA0 N i (N.1 98) (fun j => (N.2 99 j).toInt32) (fun j => (N.2 100 j).toInt32)).1 84 (Int32.toNatClampNeg 0) = nI 0 from e1]
    refine ⟨⟨h0, by decide⟩, ?_⟩
    conv => whnf
    refine ⟨hin, ?_⟩
    conv => whnf
    refine ⟨hin, ?_⟩
    conv => whnf
    rw [show (84 + 1 + (nI 0).toNatClampNeg : Nat) = 85 from rfl, nI_clamp (n := i) (by omega), show ∀ B, (mm_i (fA0 N i (N.1 98) (fun j => (N.2 99 j).toInt32) (fun j => (N.2 100 j).toInt32)) 85 B).1 88 (Int32.toNatClampNeg 0) = nI 0 from fun _ => e2]
    refine ⟨⟨h0, by decide⟩, ?_⟩
    conv => whnf
    refine ⟨hin, ?_⟩
    conv => whnf
    refine ⟨hin, ?_⟩
    conv => whnf
    rw [show (88 + 1 + (nI 0).toNatClampNeg : Nat) = 89 from rfl, nI_clamp (n := i) (by omega), show ∀ B C, (mm_i (mm_i (fA0 N i (N.1 98) (fun j => (N.2 99 j).toInt32) (fun j => (N.2 100 j).toInt32)) 85 B) 89 C).1 92 (Int32.toNatClampNeg 0) = nI 0 from fun _ _ => e3]
    refine ⟨⟨h0, by decide⟩, ?_⟩
    conv => whnf
    refine ⟨hin, ?_⟩
    conv => whnf
    refine ⟨hin, ?_⟩
    conv => whnf
    rw [show (92 + 1 + (nI 0).toNatClampNeg : Nat) = 93 from rfl, nI_clamp (n := i) (by omega), nI_1]
    rw [← fA0_s] at ih
    exact ih
set_option maxRecDepth 100000 in
theorem ct_become0 {N : mm_M} {n : Nat} {hv : Int32} (hn : n ≤ 150) (e1 : N.1 84 0 = nI 0) (e2 : N.1 88 0 = nI 0) (e3 : N.1 92 0 = nI 0) : am_M (d + 1) false nm_X9_becomeA [aR 83, aI (nI n), aI hv] N (am_q1 (aI 1) (mm_i (mm_i (fA0 N n (N.1 98) (fun j => (N.2 99 j).toInt32) (fun j => (N.2 100 j).toInt32)) 96 (upd (N.1 96) 0 (nI n))) 97 (upd (N.1 97) 0 hv))) := by
  have h0 : vp_in 0 3 := vp_in_nI (n := 0) (N := 3) (by decide) (by decide)
  refine ⟨rfl, rfl, rfl, fun X hX => am_run hX 2 _ _ _ _ ?_⟩
  conv => whnf
  have key := ba_l0 (hv := hv) hX hn e1 e2 e3 (by
    refine am_run hX 20 _ _ _ _ ?_
    conv => whnf
    refine ⟨h0, ?_⟩
    conv => whnf
    refine ⟨h0, ?_⟩
    conv => whnf
    exact ⟨rfl, rfl, rfl⟩) n 0 (by omega)
  rw [fA0_0] at key
  exact key
/-- the first i TERMS of the row -/
def fA1 (N : mm_M) (i : Nat) (q r s : Nat → Int32) : mm_M := mm_i (mm_i (mm_i N 86 (fun j => if j < i then q j else N.1 86 j)) 90 (fun j => if j < i then r j else N.1 90 j)) 94 (fun j => if j < i then s j else N.1 94 j)
theorem fA1_0 {N : mm_M} {q r s : Nat → Int32} : fA1 N 0 q r s = N := by
  refine Prod.ext (funext fun k => ?_) rfl
  by_cases h1 : k = 86
  · subst h1
    show (fun j => if j < 0 then q j else N.1 86 j) = N.1 86
    simp
  · by_cases h2 : k = 90
    · subst h2
      show (fun j => if j < 0 then r j else N.1 90 j) = N.1 90
      simp
    · by_cases h3 : k = 94
      · subst h3
        show (fun j => if j < 0 then s j else N.1 94 j) = N.1 94
        simp
      · simp [fA1, mm_i, h1, h2, h3]
theorem fA1_s {N : mm_M} {i : Nat} {q r s : Nat → Int32} : mm_i (mm_i (mm_i (fA1 N i q r s) 86 (upd ((fA1 N i q r s).1 86) i (q i))) 90 (upd ((fA1 N i q r s).1 90) i (r i))) 94 (upd ((fA1 N i q r s).1 94) i (s i)) = fA1 N (i + 1) q r s := by
  refine Prod.ext (funext fun k => ?_) rfl
  by_cases h1 : k = 86
  · subst h1
    exact up_s (h := q) rfl
  · by_cases h2 : k = 90
    · subst h2
      exact up_s (h := r) rfl
    · by_cases h3 : k = 94
      · subst h3
        exact up_s (h := s) rfl
      · simp [fA1, mm_i, h1, h2, h3]
set_option maxRecDepth 100000 in
theorem ba_l1 {P : am_Q} {X : am_X} {N : mm_M} {n : Nat} {hv : Int32} (hX : am_K d false nm_X9_becomeA P X) (hn : n ≤ 150) (e1 : N.1 84 0 = nI 1) (e2 : N.1 88 0 = nI 1) (e3 : N.1 92 0 = nI 1) (hK : X 57 [some (aR 83), some (aI (nI n)), some (aI hv), some (aI (nI n))] [] (fA1 N n (N.1 98) (fun j => (N.2 99 j).toInt32) (fun j => (N.2 100 j).toInt32))) : ∀ m i, i + m = n → X 2 [some (aR 83), some (aI (nI n)), some (aI hv), some (aI (nI i))] [] (fA1 N i (N.1 98) (fun j => (N.2 99 j).toInt32) (fun j => (N.2 100 j).toInt32)) := by
  intro m
  induction m with
  | zero =>
    intro i hi
    have hi : i = n := by omega
    subst hi
    refine am_run hX 3 _ _ _ _ ?_
    conv => whnf
    refine ⟨fun _ => ?_, fun c => absurd (nI_le (by omega) (by omega)) c⟩
    exact hK
  | succ m ih =>
    intro i hi
    have hin : vp_in (nI i) 150 := vp_in_nI (by omega) (by decide)
    have h0 : vp_in 0 3 := vp_in_nI (n := 0) (N := 3) (by decide) (by decide)
    have ih := ih (i + 1) (by omega)
    refine am_run hX 3 _ _ _ _ ?_
    conv => whnf
    refine ⟨fun c => absurd c (nI_ge (by omega) (by omega)), fun _ => ?_⟩
    refine am_run hX 34 _ _ _ _ ?_
    conv => whnf
    rw [show (fA1 N i (N.1 98) (fun j => (N.2 99 j).toInt32) (fun j => (N.2 100 j).toInt32)).1 84 (Int32.toNatClampNeg 0) = nI 1 from e1]
    refine ⟨⟨h0, by decide⟩, ?_⟩
    conv => whnf
    refine ⟨hin, ?_⟩
    conv => whnf
    refine ⟨hin, ?_⟩
    conv => whnf
    rw [show (84 + 1 + (nI 1).toNatClampNeg : Nat) = 86 from rfl, nI_clamp (n := i) (by omega), show ∀ B, (mm_i (fA1 N i (N.1 98) (fun j => (N.2 99 j).toInt32) (fun j => (N.2 100 j).toInt32)) 86 B).1 88 (Int32.toNatClampNeg 0) = nI 1 from fun _ => e2]
    refine ⟨⟨h0, by decide⟩, ?_⟩
    conv => whnf
    refine ⟨hin, ?_⟩
    conv => whnf
    refine ⟨hin, ?_⟩
    conv => whnf
    rw [show (88 + 1 + (nI 1).toNatClampNeg : Nat) = 90 from rfl, nI_clamp (n := i) (by omega), show ∀ B C, (mm_i (mm_i (fA1 N i (N.1 98) (fun j => (N.2 99 j).toInt32) (fun j => (N.2 100 j).toInt32)) 86 B) 90 C).1 92 (Int32.toNatClampNeg 0) = nI 1 from fun _ _ => e3]
    refine ⟨⟨h0, by decide⟩, ?_⟩
    conv => whnf
    refine ⟨hin, ?_⟩
    conv => whnf
    refine ⟨hin, ?_⟩
    conv => whnf
    rw [show (92 + 1 + (nI 1).toNatClampNeg : Nat) = 94 from rfl, nI_clamp (n := i) (by omega), nI_1]
    rw [← fA1_s] at ih
    exact ih
set_option maxRecDepth 100000 in
theorem ct_become1 {N : mm_M} {n : Nat} {hv : Int32} (hn : n ≤ 150) (e1 : N.1 84 0 = nI 1) (e2 : N.1 88 0 = nI 1) (e3 : N.1 92 0 = nI 1) : am_M (d + 1) false nm_X9_becomeA [aR 83, aI (nI n), aI hv] N (am_q1 (aI 1) (mm_i (mm_i (fA1 N n (N.1 98) (fun j => (N.2 99 j).toInt32) (fun j => (N.2 100 j).toInt32)) 96 (upd (N.1 96) 0 (nI n))) 97 (upd (N.1 97) 0 hv))) := by
  have h0 : vp_in 0 3 := vp_in_nI (n := 0) (N := 3) (by decide) (by decide)
  refine ⟨rfl, rfl, rfl, fun X hX => am_run hX 2 _ _ _ _ ?_⟩
  conv => whnf
  have key := ba_l1 (hv := hv) hX hn e1 e2 e3 (by
    refine am_run hX 20 _ _ _ _ ?_
    conv => whnf
    refine ⟨h0, ?_⟩
    conv => whnf
    refine ⟨h0, ?_⟩
    conv => whnf
    exact ⟨rfl, rfl, rfl⟩) n 0 (by omega)
  rw [fA1_0] at key
  exact key
end BEC
