/-! THE PAIR sum: what is turned to its conjugate; exchanged -/
section NEG
variable {d : Nat} {M : mm_M} {a b : Nat} {A B : SU}
/-- the first i numbers of a row with the other sign -/
def ngM (M : mm_M) (k i : Nat) : mm_M := mm_i M k (fun j => if j < i then -(M.1 k j) else M.1 k j)
theorem ngM_k {k i : Nat} : (ngM M k i).1 k = fun j => if j < i then -(M.1 k j) else M.1 k j := by
  simp [ngM, mm_i]
theorem ngM_o {k i j : Nat} (h : j ≠ k) : (ngM M k i).1 j = M.1 j := by
  simp [ngM, mm_i, h]
theorem ngM_0 {k : Nat} : ngM M k 0 = M := by
  unfold ngM
  rw [show (fun j => if j < 0 then -(M.1 k j) else M.1 k j) = M.1 k from funext fun j => if_neg (by omega)]
  exact mi_self
theorem ngM_s {k i : Nat} : mm_i (ngM M k i) k (upd ((ngM M k i).1 k) i (-((ngM M k i).1 k i))) = ngM M k (i + 1) := by
  rw [ngM_k]
  dsimp only
  rw [if_neg (by omega), up_s (f := M.1 k) (h := fun j => -(M.1 k j)) rfl]
  unfold ngM
  exact mi_two
/-- the conjugate -/
def cjS (A : SU) : SU := (A.1, A.2.1, A.2.2.1, A.2.2.2.1, fun i => -(A.2.2.2.2 i))
set_option maxRecDepth 100000 in
theorem nc_l {Pp : am_Q} {X : am_X} (hX : am_K d false nm_X9_change Pp X) (ha : a < 2) (e3 : M.1 92 0 = nI a) (h1 : M.1 96 0 = nI A.1) (hA : A.1 ≤ 150) (u : Int32) (hP : Pp (.inl (some (aI 1))) (ngM M (93 + a) A.1)) : ∀ w i, i + w = A.1 → X 117 [some (aR 83), some (aI u), some (aI (nI i))] [] (ngM M (93 + a) i) := by
  have h0 : vp_in 0 3 := vp_in_nI (n := 0) (N := 3) (by decide) (by decide)
  intro w
  induction w with
  | zero =>
    intro i hi
    have hi : i = A.1 := by omega
    subst hi
    refine am_run hX 20 _ _ _ _ ?_
    conv => whnf
    refine ⟨h0, ?_⟩
    conv => whnf
    rw [show (ngM M (93 + a) A.1).1 96 (Int32.toNatClampNeg 0) = nI A.1 from by rw [ngM_o (by omega)]; exact h1]
    refine ⟨fun _ => ?_, fun c => absurd (nI_le (by omega) (by omega)) c⟩
    conv => whnf
    exact ⟨rfl, hP⟩
  | succ w ih =>
    intro i hi
    have ih := ih (i + 1) (by omega)
    have hI : vp_in (nI i) 150 := vp_in_nI (by omega) (by decide)
    have e3' : (ngM M (93 + a) i).1 92 (Int32.toNatClampNeg 0) = nI a := by rw [ngM_o (by omega)]; exact e3
    refine am_run hX 6 _ _ _ _ ?_
    conv => whnf
    refine ⟨h0, ?_⟩
    conv => whnf
    rw [show (ngM M (93 + a) i).1 96 (Int32.toNatClampNeg 0) = nI A.1 from by rw [ngM_o (by omega)]; exact h1]
    refine ⟨fun c => absurd c (nI_ge (by omega) (by omega)), fun _ => ?_⟩
    rw [← ngM_s] at ih
    obtain rfl | rfl : a = 0 ∨ a = 1 := by omega
    all_goals (
      refine am_run hX 15 _ _ _ _ ?_
      conv => whnf
      rw [e3']
      refine ⟨⟨h0, by decide⟩, ?_⟩
      conv => whnf
      rw [e3']
      refine ⟨⟨h0, by decide⟩, ?_⟩
      conv => whnf
      refine ⟨hI, ?_⟩
      conv => whnf
      refine ⟨hI, ?_⟩
      conv => whnf
      rw [nI_clamp (n := i) (by omega), nI_1]
      exact ih)
set_option maxRecDepth 100000 in
theorem cg_7 (hr : sm_r M a b) (h1 : csS M a 0 A) (oA : orS A) : am_M (d + 1) false nm_X9_change [aR 83, aI (nI 7)] M (am_q1 (aI 1) (ngM M (93 + a) A.1)) := by
  have hab : a < 2 := by
    have := hr.1
    omega
  refine ⟨rfl, rfl, rfl, fun X hX => am_run hX 4 _ _ _ _ ?_⟩
  conv => whnf
  refine ⟨fun c => absurd c (by decide), fun _ => ?_⟩
  conv => whnf
  refine ⟨fun c => absurd c (by decide), fun _ => ?_⟩
  conv => whnf
  refine ⟨fun c => absurd c (by decide), fun _ => ?_⟩
  conv => whnf
  refine ⟨fun c => absurd c (by decide), fun _ => ?_⟩
  conv => whnf
  refine ⟨fun c => absurd c (by decide), fun _ => ?_⟩
  conv => whnf
  refine ⟨fun c => absurd c (by decide), fun _ => ?_⟩
  conv => whnf
  refine ⟨fun c => absurd c (by decide), fun _ => ?_⟩
  conv => whnf
  refine ⟨fun _ => ?_, fun c => absurd rfl c⟩
  conv => whnf
  have key := nc_l (A := A) hX hab hr.2.2.2.1 h1.1 oA.1 (nI 7) ⟨rfl, rfl⟩ A.1 0 (by omega)
  rw [ngM_0] at key
  exact key
set_option maxRecDepth 100000 in
theorem nr_l {Pp : am_Q} {X : am_X} (hX : am_K d false nm_X12_sum Pp X) (h1 : M.1 141 0 = nI A.1) (hA : A.1 ≤ 150) (u : Int32) (hP : Pp (.inl (some (aI (nI A.1)))) (ngM M 145 A.1)) : ∀ w i, i + w = A.1 → X 116 [some (aR 108), some (aI u), some (aI (nI i))] [] (ngM M 145 i) := by
  have h0 : vp_in 0 2 := vp_in_nI (n := 0) (N := 2) (by decide) (by decide)
  have e : ∀ i, (ngM M 145 i).1 141 (Int32.toNatClampNeg 0) = nI A.1 := fun i => by rw [ngM_o (by decide)]; exact h1
  intro w
  induction w with
  | zero =>
    intro i hi
    have hi : i = A.1 := by omega
    subst hi
    refine am_run hX 20 _ _ _ _ ?_
    conv => whnf
    refine ⟨h0, ?_⟩
    conv => whnf
    rw [e]
    refine ⟨fun _ => ?_, fun c => absurd (nI_le (by omega) (by omega)) c⟩
    conv => whnf
    refine ⟨h0, ?_⟩
    conv => whnf
    rw [e]
    exact ⟨trivial, hP⟩
  | succ w ih =>
    intro i hi
    have ih := ih (i + 1) (by omega)
    have hI : vp_in (nI i) 300 := vp_in_nI (by omega) (by decide)
    refine am_run hX 6 _ _ _ _ ?_
    conv => whnf
    refine ⟨h0, ?_⟩
    conv => whnf
    rw [e]
    refine ⟨fun c => absurd c (nI_ge (by omega) (by omega)), fun _ => ?_⟩
    rw [← ngM_s] at ih
    refine am_run hX 11 _ _ _ _ ?_
    conv => whnf
    refine ⟨hI, ?_⟩
    conv => whnf
    refine ⟨hI, ?_⟩
    conv => whnf
    rw [nI_clamp (n := i) (by omega), nI_1]
    exact ih
set_option maxRecDepth 100000 in
theorem sr_7 (h1 : rsS M 0 A) (oA : orS A) : am_M (d + 1) false nm_X12_sum [aR 108, aI (nI 7)] M (am_q1 (aI (nI A.1)) (ngM (th0 M) 145 A.1)) := by
  refine ⟨rfl, rfl, rfl, fun X hX => am_run hX 7 _ _ _ _ ?_⟩
  conv => whnf
  refine ⟨fun c => absurd c (by decide), fun _ => ?_⟩
  conv => whnf
  refine ⟨fun c => absurd c (by decide), fun _ => ?_⟩
  conv => whnf
  refine ⟨fun c => absurd c (by decide), fun _ => ?_⟩
  conv => whnf
  refine ⟨fun c => absurd c (by decide), fun _ => ?_⟩
  conv => whnf
  refine ⟨fun c => absurd c (by decide), fun _ => ?_⟩
  conv => whnf
  refine ⟨fun c => absurd c (by decide), fun _ => ?_⟩
  conv => whnf
  refine ⟨fun c => absurd c (by decide), fun _ => ?_⟩
  conv => whnf
  refine ⟨fun _ => ?_, fun c => absurd rfl c⟩
  conv => whnf
  have key := nr_l (M := th0 M) (A := A) hX h1.1 oA.1 (nI 7) ⟨rfl, rfl⟩ A.1 0 (by omega)
  rw [ngM_0] at key
  exact key
theorem ng_64 {v : Int32} (h : smJ v.toInt64 = true) : ∃ z : Int, (-1000000 ≤ z ∧ z ≤ 1000000) ∧ v.toInt64 = lI z ∧ (-v).toInt64 = lI (-z) := by
  have h1 := sm_t h
  rw [Int32.toInt_toInt64] at h1
  refine ⟨v.toInt, h1, ?_, ?_⟩
  · refine Int64.toInt_inj.mp ?_
    rw [Int32.toInt_toInt64, lI_t (by omega) (by omega)]
  · refine Int64.toInt_inj.mp ?_
    rw [Int32.toInt_toInt64, lI_t (by omega) (by omega), Int32.toInt_neg, Int.bmod_def]
    omega
theorem okS_cj (h : okS A) : okS (cjS A) := by
  obtain ⟨a1, a2, a3, a4, a5, a6⟩ := h
  have e1 : ∀ u v : Int32, smJ u.toInt64 = true → smJ v.toInt64 = true → e1J u.toInt64 (-v).toInt64 = e1J u.toInt64 v.toInt64 := fun u v hu hv => by
    obtain ⟨y, y1, y2, _⟩ := ng_64 hu
    obtain ⟨z, z1, z2, z3⟩ := ng_64 hv
    rw [y2, z2, z3, Bool.eq_iff_iff, e1_I (by omega) (by omega) (by omega) (by omega), e1_I (by omega) (by omega) (by omega) (by omega)]
    omega
  refine ⟨a1, a2, a3, fun i hi => ?_, a5, ?_⟩
  · obtain ⟨k1, k2, k3, k4⟩ := a4 i hi
    obtain ⟨y, y1, y2, _⟩ := ng_64 k2
    obtain ⟨z, z1, z2, z3⟩ := ng_64 k3
    refine ⟨k1, k2, ?_, ?_⟩
    · show smJ (-(A.2.2.2.2 i)).toInt64 = true
      rw [z3, sm_I (by omega) (by omega)]
      omega
    · show nzJ (A.2.2.2.1 i).toInt64 (-(A.2.2.2.2 i)).toInt64 = true
      rw [y2, z2, nz_I (by omega) (by omega) (by omega) (by omega)] at k4
      rw [y2, z3, nz_I (by omega) (by omega) (by omega) (by omega)]
      omega
  · rcases a6 with h | ⟨i, hi, h⟩
    · exact Or.inl h
    · refine Or.inr ⟨i, hi, ?_⟩
      show e1J (A.2.2.2.1 i).toInt64 (-(A.2.2.2.2 i)).toInt64 = false
      rw [e1 _ _ (a4 i hi).2.1 (a4 i hi).2.2.1]
      exact h
/-- the two halves of a row are exchanged, i places -/
def swF (i : Nat) (f : Nat → Int32) : Nat → Int32 := fun j => if j < i then f (150 + j) else if 150 ≤ j ∧ j < 150 + i then f (j - 150) else f j
theorem swF_0 {f : Nat → Int32} : swF 0 f = f := funext fun j => by
  unfold swF
  rw [if_neg (by omega), if_neg (by omega)]
theorem swF_s {i : Nat} {f : Nat → Int32} (hi : i < 150) : upd (upd (swF i f) i (swF i f (150 + i))) (150 + i) (swF i f i) = swF (i + 1) f := funext fun j => by
  have e1 : swF i f (150 + i) = f (150 + i) := by
    unfold swF
    rw [if_neg (by omega), if_neg (by omega)]
  have e2 : swF i f i = f i := by
    unfold swF
    rw [if_neg (by omega), if_neg (by omega)]
  rw [e1, e2]
  unfold upd
  by_cases h1 : j = 150 + i
  · rw [if_pos h1, h1]
    unfold swF
    rw [if_neg (by omega), if_pos (by omega), Nat.add_sub_cancel_left]
  · rw [if_neg h1]
    by_cases h2 : j = i
    · rw [if_pos h2, h2]
      unfold swF
      rw [if_pos (by omega)]
    · rw [if_neg h2]
      unfold swF
      by_cases h3 : j < i
      · rw [if_pos h3, if_pos (show j < i + 1 by omega)]
      · rw [if_neg h3, if_neg (show ¬ j < i + 1 by omega)]
        by_cases h4 : 150 ≤ j ∧ j < 150 + i
        · rw [if_pos h4, if_pos (by omega)]
        · rw [if_neg h4, if_neg (by omega)]
def swM (M : mm_M) (i : Nat) : mm_M := mm_i (mm_i (mm_i M 143 (swF i (M.1 143))) 144 (swF i (M.1 144))) 145 (swF i (M.1 145))
theorem swM_0 : swM M 0 = M := by
  unfold swM
  rw [swF_0, swF_0, swF_0]
  refine Prod.ext (funext fun k => ?_) rfl
  by_cases h1 : k = 143
  · subst h1; rfl
  · by_cases h2 : k = 144
    · subst h2; rfl
    · by_cases h3 : k = 145
      · subst h3; rfl
      · simp [mm_i, h1, h2, h3]
theorem swM_s {i : Nat} (hi : i < 150) : mm_i (mm_i (mm_i (swM M i) 143 (upd (upd (swF i (M.1 143)) i (swF i (M.1 143) (150 + i))) (150 + i) (swF i (M.1 143) i))) 144 (upd (upd (swF i (M.1 144)) i (swF i (M.1 144) (150 + i))) (150 + i) (swF i (M.1 144) i))) 145 (upd (upd (swF i (M.1 145)) i (swF i (M.1 145) (150 + i))) (150 + i) (swF i (M.1 145) i)) = swM M (i + 1) := by
  rw [swF_s hi, swF_s hi, swF_s hi]
  refine Prod.ext (funext fun k => ?_) rfl
  by_cases h1 : k = 143
  · subst h1; rfl
  · by_cases h2 : k = 144
    · subst h2; rfl
    · by_cases h3 : k = 145
      · subst h3; rfl
      · simp [swM, mm_i, h1, h2, h3]
end NEG
