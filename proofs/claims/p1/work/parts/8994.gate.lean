/-! the pair gate: the class's turnBy -/
/-- the class's rows below i are F's -/
def gA (M : mm_M) (F : Nat → RW) (i : Nat) : mm_M := (fun k => if k = 26 then (fun j => if j < i then nI (F j).1 else M.1 26 j) else if k = 27 then (fun j => if j < i then nI (F j).2.1 else M.1 27 j) else if k = 28 then (fun j => if j < i then nI (F j).2.2 else M.1 28 j) else M.1 k, M.2)
def gB (M : mm_M) (F : Nat → RW) (i : Nat) : mm_M := (fun k => if k = 157 then (fun j => if j < i then nI (F j).1 else M.1 157 j) else if k = 158 then (fun j => if j < i then nI (F j).2.1 else M.1 158 j) else if k = 159 then (fun j => if j < i then nI (F j).2.2 else M.1 159 j) else M.1 k, M.2)
section GTE
variable {d : Nat} {M : mm_M}
theorem gA_0 {F : Nat → RW} : gA M F 0 = M := by
  refine Prod.ext (funext fun k => ?_) rfl
  simp only [gA, Nat.not_lt_zero, if_false]
  by_cases k6 : k = 26
  · subst k6; simp
  · by_cases k7 : k = 27
    · subst k7; simp
    · by_cases k8 : k = 28
      · subst k8; simp
      · simp [k6, k7, k8]
theorem gA_s {F : Nat → RW} {i : Nat} : wA (gA M F i) i (F i) = gA M F (i + 1) := by
  refine Prod.ext (funext fun k => ?_) rfl
  by_cases k6 : k = 26
  · subst k6
    simp only [wA, gA, mm_i]
    exact up_s (h := fun j => nI (F j).1) rfl
  · by_cases k7 : k = 27
    · subst k7
      simp only [wA, gA, mm_i]
      exact up_s (h := fun j => nI (F j).2.1) rfl
    · by_cases k8 : k = 28
      · subst k8
        simp only [wA, gA, mm_i]
        exact up_s (h := fun j => nI (F j).2.2) rfl
      · simp [wA, gA, mm_i, k6, k7, k8]
theorem gB_0 {F : Nat → RW} : gB M F 0 = M := by
  refine Prod.ext (funext fun k => ?_) rfl
  simp only [gB, Nat.not_lt_zero, if_false]
  by_cases k6 : k = 157
  · subst k6; simp
  · by_cases k7 : k = 158
    · subst k7; simp
    · by_cases k8 : k = 159
      · subst k8; simp
      · simp [k6, k7, k8]
theorem gB_s {F : Nat → RW} {i : Nat} : wB (gB M F i) i (F i) = gB M F (i + 1) := by
  refine Prod.ext (funext fun k => ?_) rfl
  by_cases k6 : k = 157
  · subst k6
    simp only [wB, gB, mm_i]
    exact up_s (h := fun j => nI (F j).1) rfl
  · by_cases k7 : k = 158
    · subst k7
      simp only [wB, gB, mm_i]
      exact up_s (h := fun j => nI (F j).2.1) rfl
    · by_cases k8 : k = 159
      · subst k8
        simp only [wB, gB, mm_i]
        exact up_s (h := fun j => nI (F j).2.2) rfl
      · simp [wB, gB, mm_i, k6, k7, k8]
theorem gA_r {F : Nat → RW} {i : Nat} {y : RW} (h : rA M i y) : rA (gA M F i) i y := by
  obtain ⟨h6, h7, h8⟩ := h
  refine ⟨?_, ?_, ?_⟩
  · show (if i < i then _ else M.1 26 i) = _; rw [if_neg (by omega), h6]
  · show (if i < i then _ else M.1 27 i) = _; rw [if_neg (by omega), h7]
  · show (if i < i then _ else M.1 28 i) = _; rw [if_neg (by omega), h8]
theorem gB_r {F : Nat → RW} {i : Nat} {y : RW} (h : rB M i y) : rB (gB M F i) i y := by
  obtain ⟨h6, h7, h8⟩ := h
  refine ⟨?_, ?_, ?_⟩
  · show (if i < i then _ else M.1 157 i) = _; rw [if_neg (by omega), h6]
  · show (if i < i then _ else M.1 158 i) = _; rw [if_neg (by omega), h7]
  · show (if i < i then _ else M.1 159 i) = _; rw [if_neg (by omega), h8]
set_option maxRecDepth 100000 in
theorem bo_1 {P : am_Q} {X : am_X} {N : mm_M} {k a i : Nat} {q : am_V} {y : RW} (hX : am_K (d + 2) false nm_X8_turnBy P X) (hk : k < 5) (ha : a < 20) (hi : i < 20) (h : rA N i y) (hy : rw_ok y) (hK : X 252 [some (aR 25), some (aI (nI k)), some (aI (nI a)), some q, some (aI (nI i))] [] (wA N i (sg k a y))) : X 17 [some (aR 25), some (aI (nI k)), some (aI (nI a)), some q, some (aI (nI i))] [] N := by
  have hin : vp_in (nI i) 20 := vp_in_nI hi (by decide)
  have hh := h
  obtain ⟨h6, h7, h8⟩ := h
  have y1 := hy.1
  have y2 := hy.2.1
  have e1 := upd_eq h6
  have e2 := upd_eq h7
  rcases (by omega : k = 0 ∨ k = 1 ∨ k = 2 ∨ k = 3 ∨ k = 4) with rfl | rfl | rfl | rfl | rfl
  · refine am_run hX 18 _ _ _ _ ?_
    conv => whnf
    refine ⟨fun _ => ?_, fun c => absurd rfl c⟩
    conv => whnf
    iterate 3
      refine ⟨hin, ?_⟩
      conv => whnf
    rw [nI_clamp (n := i) (by omega), h7, h8, nI_bt y2 ha, nI_xor]
    rw [show mm_i N 28 (upd (N.1 28) i (nI (y.2.2 ^^^ bt y.2.1 a))) = wA N i (sg 0 a y) from wA_of rfl (by simp [sg, mm_i, e1]) (by simp [sg, mm_i, e2]) (by simp [sg, mm_i]) (fun k k6 k7 k8 => by simp [mm_i, k8])]
    exact hK
  · refine am_run hX 23 _ _ _ _ ?_
    conv => whnf
    refine ⟨fun c => absurd c (by decide), fun _ => ?_⟩
    refine ⟨fun _ => ?_, fun c => absurd rfl c⟩
    conv => whnf
    iterate 4
      refine ⟨hin, ?_⟩
      conv => whnf
    rw [nI_clamp (n := i) (by omega), h6, h7, h8, nI_xor, nI_bt (Nat.xor_lt_two_pow y1 y2) ha, nI_xor, bt_xor]
    rw [show mm_i N 28 (upd (N.1 28) i (nI (y.2.2 ^^^ (bt y.1 a ^^^ bt y.2.1 a)))) = wA N i (sg 1 a y) from wA_of rfl (by simp [sg, mm_i, e1]) (by simp [sg, mm_i, e2]) (by simp [sg, mm_i]) (fun k k6 k7 k8 => by simp [mm_i, k8])]
    exact hK
  · refine am_run hX 18 _ _ _ _ ?_
    conv => whnf
    refine ⟨fun c => absurd c (by decide), fun _ => ?_⟩
    refine ⟨fun c => absurd c (by decide), fun _ => ?_⟩
    refine ⟨fun _ => ?_, fun c => absurd rfl c⟩
    conv => whnf
    iterate 3
      refine ⟨hin, ?_⟩
      conv => whnf
    rw [nI_clamp (n := i) (by omega), h6, h8, nI_bt y1 ha, nI_xor]
    rw [show mm_i N 28 (upd (N.1 28) i (nI (y.2.2 ^^^ bt y.1 a))) = wA N i (sg 2 a y) from wA_of rfl (by simp [sg, mm_i, e1]) (by simp [sg, mm_i, e2]) (by simp [sg, mm_i]) (fun k k6 k7 k8 => by simp [mm_i, k8])]
    exact hK
  · refine am_run hX 7 _ _ _ _ ?_
    conv => whnf
    refine ⟨fun c => absurd c (by decide), fun _ => ?_⟩
    refine ⟨fun c => absurd c (by decide), fun _ => ?_⟩
    refine ⟨fun c => absurd c (by decide), fun _ => ?_⟩
    refine ⟨fun _ => ?_, fun c => absurd rfl c⟩
    conv => whnf
    refine am_c0 (ct_turnH (d := d + 1) hi ha hh hy) ?_
    conv => whnf
    rw [e_H]
    exact hK
  · refine am_run hX 7 _ _ _ _ ?_
    conv => whnf
    refine ⟨fun c => absurd c (by decide), fun _ => ?_⟩
    refine ⟨fun c => absurd c (by decide), fun _ => ?_⟩
    refine ⟨fun c => absurd c (by decide), fun _ => ?_⟩
    refine ⟨fun c => absurd c (by decide), fun _ => ?_⟩
    refine ⟨fun _ => ?_, fun c => absurd rfl c⟩
    conv => whnf
    refine am_c0 (ct_turnS (d := d + 1) hi ha hh hy) ?_
    conv => whnf
    rw [e_S]
    exact hK
/-- how gate names the turns by two WIRES to turnBy -/
def gk (k : Nat) : Nat := if k = 5 then 16 else if k = 6 then 18 else 8
set_option maxRecDepth 100000 in
theorem bo_2 {P : am_Q} {X : am_X} {N : mm_M} {k a b i : Nat} {y : RW} (hX : am_K (d + 2) false nm_X8_turnBy P X) (hk : k = 5 ∨ k = 6 ∨ k = 7) (ha : a < 20) (hb : b < 20) (hab : a ≠ b) (hi : i < 20) (h : rA N i y) (hy : rw_ok y) (hK : X 252 [some (aR 25), some (aI (nI (gk k))), some (aI (nI b)), some (aI (nI a)), some (aI (nI i))] [] (wA N i (cpl k a b y))) : X 17 [some (aR 25), some (aI (nI (gk k))), some (aI (nI b)), some (aI (nI a)), some (aI (nI i))] [] N := by
  have hin : vp_in (nI i) 20 := vp_in_nI hi (by decide)
  have hh := h
  obtain ⟨h6, h7, h8⟩ := h
  have y1 := hy.1
  have y2 := hy.2.1
  have e3 := upd_eq h8
  rcases hk with rfl | rfl | rfl
  · refine am_run hX 10 _ _ _ _ ?_
    conv => whnf
    iterate 9
      refine ⟨fun c => absurd c (by decide), fun _ => ?_⟩
    conv => whnf
    refine am_c0 (ct_ctl0 (d := d) hi hb ha hh hy) ?_
    conv => whnf
    rw [e_N hab]
    exact hK
  · refine am_run hX 10 _ _ _ _ ?_
    conv => whnf
    iterate 9
      refine ⟨fun c => absurd c (by decide), fun _ => ?_⟩
    conv => whnf
    refine am_c0 (ct_ctl2 (d := d) hi hb ha hh hy) ?_
    conv => whnf
    rw [e_Z]
    exact hK
  · refine am_run hX 25 _ _ _ _ ?_
    conv => whnf
    iterate 8
      refine ⟨fun c => absurd c (by decide), fun _ => ?_⟩
    refine ⟨fun _ => ?_, fun c => absurd rfl c⟩
    conv => whnf
    refine ⟨hin, ?_⟩
    conv => whnf
    rw [nI_clamp (n := i) (by omega), h6]
    refine am_c1 (ct_exg (d := d + 1) hb ha y1) ?_
    conv => whnf
    refine ⟨hin, ?_⟩
    conv => whnf
    refine ⟨hin, ?_⟩
    conv => whnf
    rw [nI_clamp (n := i) (by omega), mm_ne _ 26 27 _ (by decide), h7]
    refine am_c1 (ct_exg (d := d + 1) hb ha y2) ?_
    conv => whnf
    refine ⟨hin, ?_⟩
    conv => whnf
    rw [nI_clamp (n := i) (by omega), mm_ne _ 26 27 _ (by decide)]
    rw [show mm_i (mm_i N 26 (upd (N.1 26) i (nI (exg b a y.1)))) 27 (upd (N.1 27) i (nI (exg b a y.2.1))) = wA N i (cpl 7 a b y) from by
      rw [← e_W]
      exact wA_of rfl (by simp [mm_i]) (by simp [mm_i]) (by simp [mm_i, e3]) (fun k k6 k7 k8 => by simp [mm_i, k6, k7])]
    exact hK
end GTE
