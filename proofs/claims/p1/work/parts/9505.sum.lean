/-! SUMS without TERMS: the second program -/
def tmz (M : mm_M) : Prop := M.1 141 0 = nI 0 ∧ M.1 141 1 = nI 0 ∧ M.1 142 0 = nI 0 ∧ M.1 142 1 = nI 0 ∧ M.1 108 64 = nI 0 ∧ (∀ c, M.1 148 c = 0) ∧ (∀ c, M.2 146 c = 0) ∧ (∀ c, M.2 147 c = 0)
section SMJ
variable {d : Nat} {M : mm_M}
set_option maxRecDepth 100000 in
theorem sr_cl (h : M.1 108 64 = nI 0) : am_M (d + 1) false nm_X12_clearWork [aR 108] M (am_q0 (mm_i M 108 (upd (M.1 108) 64 0))) := by
  refine ⟨rfl, rfl, rfl, fun X hX => am_run hX 30 _ _ _ _ ?_⟩
  conv => whnf
  rw [h]
  refine ⟨fun _ => ?_, fun c => absurd (by decide) c⟩
  conv => whnf
  exact ⟨trivial, rfl, rfl⟩
set_option maxRecDepth 100000 in
theorem sr_set0 {v : Int32} (h : M.1 108 64 = nI 0) : am_M (d + 2) false nm_X12_settleSum [aR 108, aI v] M (fun r _ => r = .inl (some (aI (nI 0)))) := by
  refine ⟨rfl, rfl, rfl, fun X hX => am_run hX 80 _ _ _ _ ?_⟩
  conv => whnf
  rw [h]
  refine ⟨fun _ => ?_, fun c => absurd (by decide) c⟩
  conv => whnf
  refine ⟨fun c => absurd rfl c, fun _ => ?_⟩
  conv => whnf
  refine ⟨fun _ => ?_, fun c => absurd (by decide) c⟩
  conv => whnf
  refine ⟨fun c => absurd c (by decide), fun _ => ?_⟩
  conv => whnf
  refine ⟨fun c => absurd c (by decide), fun _ => ?_⟩
  conv => whnf
  refine am_inl ⟨rfl, rfl, rfl, fun X' hX' => am_run hX' 40 _ _ _ _ ?_⟩
  conv => whnf
  rw [h]
  refine ⟨fun _ => ?_, fun c => absurd (by decide) c⟩
  conv => whnf
  refine ⟨rfl, _, rfl, ?_⟩
  conv => whnf
  refine ⟨fun _ => ?_, fun c => absurd (by decide) c⟩
  conv => whnf
  refine ⟨vp_in_nI (n := 0) (N := 2) (by decide) (by decide), ?_⟩
  conv => whnf
  refine ⟨vp_in_nI (n := 0) (N := 2) (by decide) (by decide), ?_⟩
  conv => whnf
  rw [show (mm_i (mm_i M 141 (upd (M.1 141) (Int32.toNatClampNeg 0) 0)) 142 (upd ((mm_i M 141 (upd (M.1 141) (Int32.toNatClampNeg 0) 0)).1 142) (Int32.toNatClampNeg 0) 0)).1 108 64 = nI 0 from h]
  refine ⟨fun _ => ?_, fun c => absurd (by decide) c⟩
  conv => whnf
  exact ⟨trivial, rfl⟩
set_option maxRecDepth 100000 in
theorem sr_far0 {v : Int32} (h : M.1 141 0 = nI 0) : am_M (d + 1) false nm_X12_isTooFar [aR 108, aI 0, aI v] M (am_q1 (aI (nI 0)) M) := by
  refine ⟨rfl, rfl, rfl, fun X hX => am_run hX 30 _ _ _ _ ?_⟩
  conv => whnf
  refine ⟨vp_in_nI (n := 0) (N := 2) (by decide) (by decide), ?_⟩
  conv => whnf
  rw [show M.1 141 (Int32.toNatClampNeg 0) = nI 0 from h]
  refine ⟨fun _ => ?_, fun c => absurd (by decide) c⟩
  conv => whnf
  exact ⟨rfl, rfl, rfl⟩
set_option maxRecDepth 100000 in
theorem sr_far1 {v : Int32} (h : M.1 141 1 = nI 0) : am_M (d + 1) false nm_X12_isTooFar [aR 108, aI 1, aI v] M (am_q1 (aI (nI 0)) M) := by
  refine ⟨rfl, rfl, rfl, fun X hX => am_run hX 30 _ _ _ _ ?_⟩
  conv => whnf
  refine ⟨vp_in_nI (n := 1) (N := 2) (by decide) (by decide), ?_⟩
  conv => whnf
  rw [show M.1 141 (Int32.toNatClampNeg 1) = nI 0 from h]
  refine ⟨fun _ => ?_, fun c => absurd (by decide) c⟩
  conv => whnf
  exact ⟨rfl, rfl, rfl⟩
set_option maxRecDepth 100000 in
theorem sr_add {s : Int32} (h : tmz M) : am_M (d + 3) false nm_X12_addSum [aR 108, aI s] M (fun r _ => r = .inl (some (aI (nI 0)))) := by
  obtain ⟨h0, h1, g0, g1, hm, _⟩ := h
  refine ⟨rfl, rfl, rfl, fun X hX => am_run hX 80 _ _ _ _ ?_⟩
  conv => whnf
  refine ⟨vp_in_nI (n := 0) (N := 2) (by decide) (by decide), ?_⟩
  conv => whnf
  refine ⟨vp_in_nI (n := 1) (N := 2) (by decide) (by decide), ?_⟩
  conv => whnf
  rw [show M.1 142 (Int32.toNatClampNeg 0) = nI 0 from g0, show M.1 142 (Int32.toNatClampNeg 1) = nI 0 from g1]
  refine ⟨fun _ => ?_, fun c => absurd (by decide) c⟩
  conv => whnf
  refine ⟨vp_in_nI (n := 1) (N := 2) (by decide) (by decide), ?_⟩
  conv => whnf
  refine am_c1 (sr_far0 h0) ?_
  conv => whnf
  refine ⟨fun c => absurd rfl c, fun _ => ?_⟩
  conv => whnf
  refine am_c1 (sr_far1 h1) ?_
  conv => whnf
  refine ⟨fun _ => ?_, fun c => absurd rfl c⟩
  conv => whnf
  refine am_c0 (sr_cl hm) ?_
  conv => whnf
  refine ⟨vp_in_nI (n := 0) (N := 2) (by decide) (by decide), ?_⟩
  conv => whnf
  rw [show (mm_i M 108 (upd (M.1 108) 64 0)).1 141 (Int32.toNatClampNeg 0) = nI 0 from h0]
  refine ⟨fun _ => ?_, fun c => absurd (by decide) c⟩
  conv => whnf
  refine ⟨vp_in_nI (n := 1) (N := 2) (by decide) (by decide), ?_⟩
  conv => whnf
  rw [show (mm_i M 108 (upd (M.1 108) 64 0)).1 141 (Int32.toNatClampNeg 1) = nI 0 from h1]
  refine ⟨fun _ => ?_, fun c => absurd (by decide) c⟩
  conv => whnf
  refine am_cq (sr_set0 rfl) (fun r M' z => ?_)
  subst z
  refine ⟨_, rfl, ?_⟩
  conv => whnf
  exact ⟨trivial, rfl⟩
set_option maxRecDepth 100000 in
theorem sr_mul {u : Int32} (h : tmz M) : am_M (d + 3) false nm_X12_multiplySums [aR 108, aI u] M (fun r _ => r = .inl (some (aI (nI 0)))) := by
  obtain ⟨h0, h1, g0, g1, hm, _⟩ := h
  refine ⟨rfl, rfl, rfl, fun X hX => am_run hX 80 _ _ _ _ ?_⟩
  conv => whnf
  refine am_c0 (sr_cl hm) ?_
  conv => whnf
  refine ⟨vp_in_nI (n := 0) (N := 2) (by decide) (by decide), ?_⟩
  conv => whnf
  rw [show (mm_i M 108 (upd (M.1 108) 64 0)).1 141 (Int32.toNatClampNeg 0) = nI 0 from h0]
  refine ⟨fun _ => ?_, fun c => absurd (by decide) c⟩
  conv => whnf
  refine ⟨vp_in_nI (n := 0) (N := 2) (by decide) (by decide), ?_⟩
  conv => whnf
  refine ⟨vp_in_nI (n := 1) (N := 2) (by decide) (by decide), ?_⟩
  conv => whnf
  refine am_cq (sr_set0 rfl) (fun r M' z => ?_)
  subst z
  refine ⟨_, rfl, ?_⟩
  conv => whnf
  exact ⟨trivial, rfl⟩
set_option maxRecDepth 100000 in
theorem sr_swl {P : am_Q} {X : am_X} (hX : am_K d false nm_X12_swapSums P X) (hK : ∀ (M' : mm_M) l1 l2, M'.1 141 = M.1 141 → X 117 [some (aR 108), l1, l2] [] M') : ∀ (m i : Nat) (M' : mm_M) (l2 : Option am_V), i + m = 150 → M'.1 141 = M.1 141 → X 2 [some (aR 108), some (aI (nI i)), l2] [] M' := by
  intro m
  induction m with
  | zero =>
    intro i M' l2 hi h
    have hi : i = 150 := by omega
    subst hi
    refine am_run hX 3 _ _ _ _ ?_
    conv => whnf
    exact ⟨fun _ => hK _ _ _ h, fun c => absurd (by decide) c⟩
  | succ m ih =>
    intro i M' l2 hi h
    refine am_run hX 3 _ _ _ _ ?_
    conv => whnf
    refine ⟨fun c => absurd c (nI_ge (b := 150) (by omega) (by decide)), fun _ => ?_⟩
    refine am_run hX 68 _ _ _ _ ?_
    conv => whnf
    refine ⟨vp_in_nI (by show i < 300; omega) (by decide), ?_⟩
    conv => whnf
    rw [show (150 : Int32) + nI i = nI (150 + i) from nI_add 150 i]
    refine ⟨vp_in_nI (by show 150 + i < 300; omega) (by decide), ?_⟩
    conv => whnf
    refine ⟨vp_in_nI (by show i < 300; omega) (by decide), ?_⟩
    conv => whnf
    rw [show (150 : Int32) + nI i = nI (150 + i) from nI_add 150 i]
    refine ⟨vp_in_nI (by show 150 + i < 300; omega) (by decide), ?_⟩
    conv => whnf
    refine ⟨vp_in_nI (by show i < 300; omega) (by decide), ?_⟩
    conv => whnf
    rw [show (150 : Int32) + nI i = nI (150 + i) from nI_add 150 i]
    refine ⟨vp_in_nI (by show 150 + i < 300; omega) (by decide), ?_⟩
    conv => whnf
    refine ⟨vp_in_nI (by show i < 300; omega) (by decide), ?_⟩
    conv => whnf
    rw [show (150 : Int32) + nI i = nI (150 + i) from nI_add 150 i]
    refine ⟨vp_in_nI (by show 150 + i < 300; omega) (by decide), ?_⟩
    conv => whnf
    refine ⟨vp_in_nI (by show i < 300; omega) (by decide), ?_⟩
    conv => whnf
    rw [show (150 : Int32) + nI i = nI (150 + i) from nI_add 150 i]
    refine ⟨vp_in_nI (by show 150 + i < 300; omega) (by decide), ?_⟩
    conv => whnf
    refine ⟨vp_in_nI (by show i < 300; omega) (by decide), ?_⟩
    conv => whnf
    rw [show (150 : Int32) + nI i = nI (150 + i) from nI_add 150 i]
    refine ⟨vp_in_nI (by show 150 + i < 300; omega) (by decide), ?_⟩
    conv => whnf
    rw [nI_1]
    exact ih (i + 1) _ _ (by omega) h
set_option maxRecDepth 100000 in
theorem sr_sw (h0 : M.1 141 0 = nI 0) (h1 : M.1 141 1 = nI 0) : am_M (d + 1) false nm_X12_swapSums [aR 108] M (fun r M' => r = .inl none ∧ M'.1 141 0 = nI 0) := by
  refine ⟨rfl, rfl, rfl, fun X hX => am_run hX 2 _ _ _ _ ?_⟩
  conv => whnf
  refine sr_swl hX (fun M' l1 l2 h => ?_) 150 0 M none (by omega) rfl
  refine am_run hX 60 _ _ _ _ ?_
  conv => whnf
  refine ⟨vp_in_nI (n := 0) (N := 2) (by decide) (by decide), ?_⟩
  conv => whnf
  refine ⟨vp_in_nI (n := 1) (N := 2) (by decide) (by decide), ?_⟩
  conv => whnf
  refine ⟨vp_in_nI (n := 0) (N := 2) (by decide) (by decide), ?_⟩
  conv => whnf
  refine ⟨vp_in_nI (n := 1) (N := 2) (by decide) (by decide), ?_⟩
  conv => whnf
  refine ⟨vp_in_nI (n := 0) (N := 2) (by decide) (by decide), ?_⟩
  conv => whnf
  refine ⟨vp_in_nI (n := 1) (N := 2) (by decide) (by decide), ?_⟩
  conv => whnf
  refine ⟨vp_in_nI (n := 0) (N := 2) (by decide) (by decide), ?_⟩
  conv => whnf
  refine ⟨vp_in_nI (n := 1) (N := 2) (by decide) (by decide), ?_⟩
  conv => whnf
  refine ⟨trivial, rfl, ?_⟩
  show M'.1 141 1 = nI 0
  rw [h]; exact h1
set_option maxRecDepth 100000 in
theorem sr_s1 (h : tmz M) : am_M (d + 6) false nm_X12_sum [aR 108, aI 1] M (fun r _ => r = .inl (some (aI (nI 0)))) := by
  have h' : tmz (th0 M) := h
  obtain ⟨h0, h1, g0, g1, hm, k1, k2, k3⟩ := h
  refine ⟨rfl, rfl, rfl, fun X hX => am_run hX 60 _ _ _ _ ?_⟩
  conv => whnf
  refine ⟨fun e => absurd e (by decide), fun _ => ?_⟩
  conv => whnf
  refine ⟨fun _ => ?_, fun e => absurd rfl e⟩
  conv => whnf
  refine am_c0 (sr_cl (M := th0 M) hm) ?_
  conv => whnf
  refine am_cq (sr_set0 rfl) (fun r M' z => ?_)
  subst z
  refine ⟨_, rfl, ?_⟩
  conv => whnf
  exact ⟨trivial, rfl⟩
set_option maxRecDepth 100000 in
theorem sr_s2 (h : tmz M) : am_M (d + 6) false nm_X12_sum [aR 108, aI 2] M (fun r _ => r = .inl (some (aI (nI 0)))) := by
  have h' : tmz (th0 M) := h
  obtain ⟨h0, h1, g0, g1, hm, k1, k2, k3⟩ := h
  refine ⟨rfl, rfl, rfl, fun X hX => am_run hX 60 _ _ _ _ ?_⟩
  conv => whnf
  refine ⟨fun e => absurd e (by decide), fun _ => ?_⟩
  conv => whnf
  refine ⟨fun e => absurd e (by decide), fun _ => ?_⟩
  conv => whnf
  refine ⟨fun _ => ?_, fun e => absurd rfl e⟩
  conv => whnf
  refine am_cq (sr_sw (M := th0 M) h0 h1) (fun r M' z => ?_)
  obtain ⟨rfl, z⟩ := z
  refine ⟨_, rfl, ?_⟩
  conv => whnf
  refine ⟨vp_in_nI (n := 0) (N := 2) (by decide) (by decide), ?_⟩
  conv => whnf
  rw [show M'.1 141 (Int32.toNatClampNeg 0) = nI 0 from z]
  exact ⟨trivial, rfl⟩
set_option maxRecDepth 100000 in
theorem sr_s3 (h : tmz M) : am_M (d + 6) false nm_X12_sum [aR 108, aI 3] M (fun r _ => r = .inl (some (aI (nI 0)))) := by
  have h' : tmz (th0 M) := h
  obtain ⟨h0, h1, g0, g1, hm, k1, k2, k3⟩ := h
  refine ⟨rfl, rfl, rfl, fun X hX => am_run hX 60 _ _ _ _ ?_⟩
  conv => whnf
  refine ⟨fun e => absurd e (by decide), fun _ => ?_⟩
  conv => whnf
  refine ⟨fun e => absurd e (by decide), fun _ => ?_⟩
  conv => whnf
  refine ⟨fun e => absurd e (by decide), fun _ => ?_⟩
  conv => whnf
  refine ⟨fun _ => ?_, fun e => absurd rfl e⟩
  conv => whnf
  refine am_cq (sr_add h') (fun r M' z => ?_)
  subst z
  refine ⟨_, rfl, ?_⟩
  conv => whnf
  exact ⟨trivial, rfl⟩
set_option maxRecDepth 100000 in
theorem sr_s4 (h : tmz M) : am_M (d + 6) false nm_X12_sum [aR 108, aI 4] M (fun r _ => r = .inl (some (aI (nI 0)))) := by
  have h' : tmz (th0 M) := h
  obtain ⟨h0, h1, g0, g1, hm, k1, k2, k3⟩ := h
  refine ⟨rfl, rfl, rfl, fun X hX => am_run hX 60 _ _ _ _ ?_⟩
  conv => whnf
  refine ⟨fun e => absurd e (by decide), fun _ => ?_⟩
  conv => whnf
  refine ⟨fun e => absurd e (by decide), fun _ => ?_⟩
  conv => whnf
  refine ⟨fun e => absurd e (by decide), fun _ => ?_⟩
  conv => whnf
  refine ⟨fun e => absurd e (by decide), fun _ => ?_⟩
  conv => whnf
  refine ⟨fun _ => ?_, fun e => absurd rfl e⟩
  conv => whnf
  refine am_cq (sr_add h') (fun r M' z => ?_)
  subst z
  refine ⟨_, rfl, ?_⟩
  conv => whnf
  exact ⟨trivial, rfl⟩
set_option maxRecDepth 100000 in
theorem sr_s5 (h : tmz M) : am_M (d + 6) false nm_X12_sum [aR 108, aI 5] M (fun r _ => r = .inl (some (aI (nI 0)))) := by
  have h' : tmz (th0 M) := h
  obtain ⟨h0, h1, g0, g1, hm, k1, k2, k3⟩ := h
  refine ⟨rfl, rfl, rfl, fun X hX => am_run hX 60 _ _ _ _ ?_⟩
  conv => whnf
  refine ⟨fun e => absurd e (by decide), fun _ => ?_⟩
  conv => whnf
  refine ⟨fun e => absurd e (by decide), fun _ => ?_⟩
  conv => whnf
  refine ⟨fun e => absurd e (by decide), fun _ => ?_⟩
  conv => whnf
  refine ⟨fun e => absurd e (by decide), fun _ => ?_⟩
  conv => whnf
  refine ⟨fun e => absurd e (by decide), fun _ => ?_⟩
  conv => whnf
  refine ⟨fun _ => ?_, fun e => absurd rfl e⟩
  conv => whnf
  refine am_cq (sr_mul h') (fun r M' z => ?_)
  subst z
  refine ⟨_, rfl, ?_⟩
  conv => whnf
  exact ⟨trivial, rfl⟩
set_option maxRecDepth 100000 in
theorem sr_s6 (h : tmz M) : am_M (d + 6) false nm_X12_sum [aR 108, aI 6] M (fun r _ => r = .inl (some (aI (nI 0)))) := by
  have h' : tmz (th0 M) := h
  obtain ⟨h0, h1, g0, g1, hm, k1, k2, k3⟩ := h
  refine ⟨rfl, rfl, rfl, fun X hX => am_run hX 60 _ _ _ _ ?_⟩
  conv => whnf
  refine ⟨fun e => absurd e (by decide), fun _ => ?_⟩
  conv => whnf
  refine ⟨fun e => absurd e (by decide), fun _ => ?_⟩
  conv => whnf
  refine ⟨fun e => absurd e (by decide), fun _ => ?_⟩
  conv => whnf
  refine ⟨fun e => absurd e (by decide), fun _ => ?_⟩
  conv => whnf
  refine ⟨fun e => absurd e (by decide), fun _ => ?_⟩
  conv => whnf
  refine ⟨fun e => absurd e (by decide), fun _ => ?_⟩
  conv => whnf
  refine ⟨fun _ => ?_, fun e => absurd rfl e⟩
  conv => whnf
  refine am_cq (sr_mul h') (fun r M' z => ?_)
  subst z
  refine ⟨_, rfl, ?_⟩
  conv => whnf
  exact ⟨trivial, rfl⟩
set_option maxRecDepth 100000 in
theorem sr_s7 (h : tmz M) : am_M (d + 6) false nm_X12_sum [aR 108, aI 7] M (fun r _ => r = .inl (some (aI (nI 0)))) := by
  have h' : tmz (th0 M) := h
  obtain ⟨h0, h1, g0, g1, hm, k1, k2, k3⟩ := h
  refine ⟨rfl, rfl, rfl, fun X hX => am_run hX 60 _ _ _ _ ?_⟩
  conv => whnf
  refine ⟨fun e => absurd e (by decide), fun _ => ?_⟩
  conv => whnf
  refine ⟨fun e => absurd e (by decide), fun _ => ?_⟩
  conv => whnf
  refine ⟨fun e => absurd e (by decide), fun _ => ?_⟩
  conv => whnf
  refine ⟨fun e => absurd e (by decide), fun _ => ?_⟩
  conv => whnf
  refine ⟨fun e => absurd e (by decide), fun _ => ?_⟩
  conv => whnf
  refine ⟨fun e => absurd e (by decide), fun _ => ?_⟩
  conv => whnf
  refine ⟨fun e => absurd e (by decide), fun _ => ?_⟩
  conv => whnf
  refine ⟨fun _ => ?_, fun e => absurd rfl e⟩
  conv => whnf
  refine ⟨vp_in_nI (n := 0) (N := 2) (by decide) (by decide), ?_⟩
  conv => whnf
  rw [show (mm_i M 108 (upd (M.1 108) 0 0)).1 141 (Int32.toNatClampNeg 0) = nI 0 from h0]
  refine ⟨fun _ => ?_, fun c => absurd (by decide) c⟩
  conv => whnf
  refine ⟨vp_in_nI (n := 0) (N := 2) (by decide) (by decide), ?_⟩
  conv => whnf
  rw [show (mm_i M 108 (upd (M.1 108) 0 0)).1 141 (Int32.toNatClampNeg 0) = nI 0 from h0]
  exact ⟨trivial, rfl⟩
set_option maxRecDepth 100000 in
theorem sr_sn {p : Int32} (hp : ¬ p = 0 ∧ ¬ p = 1 ∧ ¬ p = 2 ∧ ¬ p = 3 ∧ ¬ p = 4 ∧ ¬ p = 5 ∧ ¬ p = 6 ∧ ¬ p = 7) : am_M (d + 6) false nm_X12_sum [aR 108, aI p] M (fun r _ => r = .inl (some (aI (-1)))) := by
  obtain ⟨p0, p1, p2, p3, p4, p5, p6, p7⟩ := hp
  refine ⟨rfl, rfl, rfl, fun X hX => am_run hX 60 _ _ _ _ ?_⟩
  conv => whnf
  refine ⟨fun e => absurd e p0, fun _ => ?_⟩
  conv => whnf
  refine ⟨fun e => absurd e p1, fun _ => ?_⟩
  conv => whnf
  refine ⟨fun e => absurd e p2, fun _ => ?_⟩
  conv => whnf
  refine ⟨fun e => absurd e p3, fun _ => ?_⟩
  conv => whnf
  refine ⟨fun e => absurd e p4, fun _ => ?_⟩
  conv => whnf
  refine ⟨fun e => absurd e p5, fun _ => ?_⟩
  conv => whnf
  refine ⟨fun e => absurd e p6, fun _ => ?_⟩
  conv => whnf
  refine ⟨fun e => absurd e p7, fun _ => ?_⟩
  conv => whnf
  exact ⟨trivial, rfl⟩
set_option maxRecDepth 100000 in
theorem sr_ld0 {p u : Int32} (hp : p < 0 ∨ ¬ p ≤ 7) : am_M (d + 6) false nm_X12_ladder [aR 108, aI p, aI u] M (fun r _ => r = .inl (some (aI (-1)))) := by
  refine ⟨rfl, rfl, rfl, fun X hX => am_run hX 60 _ _ _ _ ?_⟩
  conv => whnf
  refine ⟨fun c => ?_, fun c => ?_⟩
  · conv => whnf
    exact ⟨trivial, rfl⟩
  · conv => whnf
    refine ⟨fun c2 => absurd c2 (hp.resolve_left c), fun c2 => ?_⟩
    conv => whnf
    exact ⟨trivial, rfl⟩
set_option maxRecDepth 100000 in
theorem sr_ld1 {p u : Int32} (h : tmz M) (p0 : ¬ p < 0) (p7 : p ≤ 7) : am_M (d + 6) false nm_X12_ladder [aR 108, aI p, aI u] M (fun r _ => r = .inl (some (aI (nI 0)))) := by
  obtain ⟨h0, h1, g0, g1, hm, k1, k2, k3⟩ := h
  refine ⟨rfl, rfl, rfl, fun X hX => am_run hX 60 _ _ _ _ ?_⟩
  conv => whnf
  refine ⟨fun c => absurd c p0, fun c => ?_⟩
  conv => whnf
  refine ⟨fun _ => ?_, fun c2 => absurd p7 c2⟩
  conv => whnf
  refine am_c0 (sr_cl (M := th0 M) hm) ?_
  conv => whnf
  refine ⟨vp_in_nI (n := 0) (N := 2) (by decide) (by decide), ?_⟩
  conv => whnf
  rw [show (mm_i (th0 M) 108 (upd ((th0 M).1 108) 64 0)).1 141 (Int32.toNatClampNeg 0) = nI 0 from h0]
  refine ⟨fun _ => ?_, fun c => absurd (by decide) c⟩
  conv => whnf
  refine ⟨vp_in_nI (n := 0) (N := 2) (by decide) (by decide), ?_⟩
  conv => whnf
  refine am_cq (sr_set0 rfl) (fun r M' z => ?_)
  subst z
  refine ⟨_, rfl, ?_⟩
  conv => whnf
  exact ⟨trivial, rfl⟩
end SMJ
