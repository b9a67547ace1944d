/-! total on the fresh memory; the pairs on it -/
section FRD
set_option maxRecDepth 100000 in
theorem ft_x0 {d : Nat} : am_M (d + 3) false nm_X11_total [aR 0, aI 0] mm_0 (am_q1 (aI (0)) mm_0) := by
  refine ⟨rfl, rfl, rfl, fun X hX => am_run hX 100 _ _ _ _ ?_⟩
  conv => whnf
  repeat first
    | (refine ⟨fun _ => ?_, fun c => absurd (by decide) c⟩; conv => whnf)
    | (refine ⟨fun c => absurd c (by decide), fun _ => ?_⟩; conv => whnf)
    | (refine ⟨by unfold vp_in; decide, ?_⟩; conv => whnf)
    | (refine ⟨⟨rfl, rfl⟩, ?_⟩; conv => whnf)
    | (refine am_inl ⟨rfl, rfl, rfl, fun X' hX' => am_run hX' 400 _ _ _ _ ?_⟩; conv => whnf)
    | (refine ⟨trivial, _, rfl, ?_⟩; conv => whnf)
    | (refine ⟨rfl, _, rfl, ?_⟩; conv => whnf)
  exact ⟨trivial, rfl, rfl⟩
set_option maxRecDepth 100000 in
theorem ft_x1 {d : Nat} : am_M (d + 3) false nm_X11_total [aR 0, aI 1] mm_0 (am_q1 (aI (0)) mm_0) := by
  refine ⟨rfl, rfl, rfl, fun X hX => am_run hX 100 _ _ _ _ ?_⟩
  conv => whnf
  repeat first
    | (refine ⟨fun _ => ?_, fun c => absurd (by decide) c⟩; conv => whnf)
    | (refine ⟨fun c => absurd c (by decide), fun _ => ?_⟩; conv => whnf)
    | (refine ⟨by unfold vp_in; decide, ?_⟩; conv => whnf)
    | (refine ⟨⟨rfl, rfl⟩, ?_⟩; conv => whnf)
    | (refine am_inl ⟨rfl, rfl, rfl, fun X' hX' => am_run hX' 400 _ _ _ _ ?_⟩; conv => whnf)
    | (refine ⟨trivial, _, rfl, ?_⟩; conv => whnf)
    | (refine ⟨rfl, _, rfl, ?_⟩; conv => whnf)
  exact ⟨trivial, rfl, rfl⟩
set_option maxRecDepth 100000 in
theorem ft_x2 {d : Nat} : am_M (d + 3) false nm_X11_total [aR 0, aI 2] mm_0 (am_q1 (aI (1)) mm_0) := by
  refine ⟨rfl, rfl, rfl, fun X hX => am_run hX 100 _ _ _ _ ?_⟩
  conv => whnf
  repeat first
    | (refine ⟨fun _ => ?_, fun c => absurd (by decide) c⟩; conv => whnf)
    | (refine ⟨fun c => absurd c (by decide), fun _ => ?_⟩; conv => whnf)
    | (refine ⟨by unfold vp_in; decide, ?_⟩; conv => whnf)
    | (refine ⟨⟨rfl, rfl⟩, ?_⟩; conv => whnf)
    | (refine am_inl ⟨rfl, rfl, rfl, fun X' hX' => am_run hX' 400 _ _ _ _ ?_⟩; conv => whnf)
    | (refine ⟨trivial, _, rfl, ?_⟩; conv => whnf)
    | (refine ⟨rfl, _, rfl, ?_⟩; conv => whnf)
  exact ⟨trivial, rfl, rfl⟩
set_option maxRecDepth 100000 in
theorem ft_x3 {d : Nat} : am_M (d + 3) false nm_X11_total [aR 0, aI 3] mm_0 (am_q1 (aI (0)) mm_0) := by
  refine ⟨rfl, rfl, rfl, fun X hX => am_run hX 100 _ _ _ _ ?_⟩
  conv => whnf
  repeat first
    | (refine ⟨fun _ => ?_, fun c => absurd (by decide) c⟩; conv => whnf)
    | (refine ⟨fun c => absurd c (by decide), fun _ => ?_⟩; conv => whnf)
    | (refine ⟨by unfold vp_in; decide, ?_⟩; conv => whnf)
    | (refine ⟨⟨rfl, rfl⟩, ?_⟩; conv => whnf)
    | (refine am_inl ⟨rfl, rfl, rfl, fun X' hX' => am_run hX' 400 _ _ _ _ ?_⟩; conv => whnf)
    | (refine ⟨trivial, _, rfl, ?_⟩; conv => whnf)
    | (refine ⟨rfl, _, rfl, ?_⟩; conv => whnf)
  exact ⟨trivial, rfl, rfl⟩
set_option maxRecDepth 100000 in
theorem ft_x4 {d : Nat} : am_M (d + 3) false nm_X11_total [aR 0, aI 4] mm_0 (am_q1 (aI (0)) mm_0) := by
  refine ⟨rfl, rfl, rfl, fun X hX => am_run hX 100 _ _ _ _ ?_⟩
  conv => whnf
  repeat first
    | (refine ⟨fun _ => ?_, fun c => absurd (by decide) c⟩; conv => whnf)
    | (refine ⟨fun c => absurd c (by decide), fun _ => ?_⟩; conv => whnf)
    | (refine ⟨by unfold vp_in; decide, ?_⟩; conv => whnf)
    | (refine ⟨⟨rfl, rfl⟩, ?_⟩; conv => whnf)
    | (refine am_inl ⟨rfl, rfl, rfl, fun X' hX' => am_run hX' 400 _ _ _ _ ?_⟩; conv => whnf)
    | (refine ⟨trivial, _, rfl, ?_⟩; conv => whnf)
    | (refine ⟨rfl, _, rfl, ?_⟩; conv => whnf)
  exact ⟨trivial, rfl, rfl⟩
set_option maxRecDepth 100000 in
theorem ft_x5 {d : Nat} : am_M (d + 3) false nm_X11_total [aR 0, aI 5] mm_0 (am_q1 (aI (mm_0.1 70 13)) mm_0) := by
  refine ⟨rfl, rfl, rfl, fun X hX => am_run hX 100 _ _ _ _ ?_⟩
  conv => whnf
  repeat first
    | (refine ⟨fun _ => ?_, fun c => absurd (by decide) c⟩; conv => whnf)
    | (refine ⟨fun c => absurd c (by decide), fun _ => ?_⟩; conv => whnf)
    | (refine ⟨by unfold vp_in; decide, ?_⟩; conv => whnf)
    | (refine ⟨⟨rfl, rfl⟩, ?_⟩; conv => whnf)
    | (refine am_inl ⟨rfl, rfl, rfl, fun X' hX' => am_run hX' 400 _ _ _ _ ?_⟩; conv => whnf)
    | (refine ⟨trivial, _, rfl, ?_⟩; conv => whnf)
    | (refine ⟨rfl, _, rfl, ?_⟩; conv => whnf)
  exact ⟨trivial, rfl, rfl⟩
set_option maxRecDepth 100000 in
theorem ft_x6 {d : Nat} : am_M (d + 3) false nm_X11_total [aR 0, aI 6] mm_0 (am_q1 (aI (0)) mm_0) := by
  refine ⟨rfl, rfl, rfl, fun X hX => am_run hX 100 _ _ _ _ ?_⟩
  conv => whnf
  repeat first
    | (refine ⟨fun _ => ?_, fun c => absurd (by decide) c⟩; conv => whnf)
    | (refine ⟨fun c => absurd c (by decide), fun _ => ?_⟩; conv => whnf)
    | (refine ⟨by unfold vp_in; decide, ?_⟩; conv => whnf)
    | (refine ⟨⟨rfl, rfl⟩, ?_⟩; conv => whnf)
    | (refine am_inl ⟨rfl, rfl, rfl, fun X' hX' => am_run hX' 400 _ _ _ _ ?_⟩; conv => whnf)
    | (refine ⟨trivial, _, rfl, ?_⟩; conv => whnf)
    | (refine ⟨rfl, _, rfl, ?_⟩; conv => whnf)
  exact ⟨trivial, rfl, rfl⟩
set_option maxRecDepth 100000 in
theorem ft_x7 {d : Nat} : am_M (d + 3) false nm_X11_total [aR 0, aI 7] mm_0 (am_q1 (aI (0)) mm_0) := by
  refine ⟨rfl, rfl, rfl, fun X hX => am_run hX 100 _ _ _ _ ?_⟩
  conv => whnf
  repeat first
    | (refine ⟨fun _ => ?_, fun c => absurd (by decide) c⟩; conv => whnf)
    | (refine ⟨fun c => absurd c (by decide), fun _ => ?_⟩; conv => whnf)
    | (refine ⟨by unfold vp_in; decide, ?_⟩; conv => whnf)
    | (refine ⟨⟨rfl, rfl⟩, ?_⟩; conv => whnf)
    | (refine am_inl ⟨rfl, rfl, rfl, fun X' hX' => am_run hX' 400 _ _ _ _ ?_⟩; conv => whnf)
    | (refine ⟨trivial, _, rfl, ?_⟩; conv => whnf)
    | (refine ⟨rfl, _, rfl, ?_⟩; conv => whnf)
  exact ⟨trivial, rfl, rfl⟩
set_option maxRecDepth 100000 in
theorem ft_xn {d : Nat} {p : Int32} (hp : ¬ p = 0 ∧ ¬ p = 1 ∧ ¬ p = 2 ∧ ¬ p = 3 ∧ ¬ p = 4 ∧ ¬ p = 5 ∧ ¬ p = 6 ∧ ¬ p = 7) : am_M (d + 3) false nm_X11_total [aR 0, aI p] mm_0 (am_q1 (aI (-1)) mm_0) := by
  obtain ⟨p0, p1, p2, p3, p4, p5, p6, p7⟩ := hp
  refine ⟨rfl, rfl, rfl, fun X hX => am_run hX 100 _ _ _ _ ?_⟩
  conv => whnf
  refine ⟨fun e => absurd e p0, fun _ => ?_⟩
  conv => whnf
  refine ⟨fun e => absurd e p1, fun _ => ?_⟩
  conv => whnf
  refine ⟨fun e => absurd e p2, fun _ => ?_⟩
  conv => whnf
  refine ⟨fun e => absurd e p3, fun _ => ?_⟩
  conv => whnf
  refine ⟨fun e => absurd e p4, fun _ => ?_⟩
  conv => whnf
  refine ⟨fun e => absurd e p5, fun _ => ?_⟩
  conv => whnf
  refine ⟨fun e => absurd e p6, fun _ => ?_⟩
  conv => whnf
  refine ⟨fun e => absurd e p7, fun _ => ?_⟩
  conv => whnf
  exact ⟨trivial, rfl, rfl⟩
set_option maxRecDepth 100000 in
theorem ft_mn {d : Nat} {p : Int32} (hp : ¬ p = 0 ∧ ¬ p = 1 ∧ ¬ p = 2 ∧ ¬ p = 3 ∧ ¬ p = 4 ∧ ¬ p = 5 ∧ ¬ p = 6 ∧ ¬ p = 7) : am_M (d + 3) false nm_X12_total [aR 108, aI p] mm_0 (fun r _ => r = .inl (some (aI (-1)))) := by
  obtain ⟨p0, p1, p2, p3, p4, p5, p6, p7⟩ := hp
  refine ⟨rfl, rfl, rfl, fun X hX => am_run hX 100 _ _ _ _ ?_⟩
  conv => whnf
  refine ⟨fun e => absurd e p0, fun _ => ?_⟩
  conv => whnf
  refine ⟨fun e => absurd e p1, fun _ => ?_⟩
  conv => whnf
  refine ⟨fun e => absurd e p2, fun _ => ?_⟩
  conv => whnf
  refine ⟨fun e => absurd e p3, fun _ => ?_⟩
  conv => whnf
  refine ⟨fun e => absurd e p4, fun _ => ?_⟩
  conv => whnf
  refine ⟨fun e => absurd e p5, fun _ => ?_⟩
  conv => whnf
  refine ⟨fun e => absurd e p6, fun _ => ?_⟩
  conv => whnf
  refine ⟨fun e => absurd e p7, fun _ => ?_⟩
  conv => whnf
  exact ⟨trivial, rfl⟩
theorem ft_q : ∀ i, i < 36 → nI i / 6 = nI (i / 6) ∧ nI i % 6 = nI (i % 6) := by decide +kernel
set_option maxRecDepth 100000 in
theorem ft_l {P : am_Q} {X : am_X} {d : Nat} {v1 : Int32} (hX : am_K d false nm_X12_total P X) (hK : ∀ l3, X 153 [some (aR 108), some (aI v1), some (aI 0), l3] [] (th0 mm_0)) : ∀ (m i : Nat), i + m = 36 → X 113 [some (aR 108), some (aI v1), some (aI 0), some (aI (nI i))] [] (th0 mm_0) := by
  intro m
  induction m with
  | zero =>
    intro i hi
    have hi : i = 36 := by omega
    subst hi
    refine am_run hX 3 _ _ _ _ ?_
    conv => whnf
    exact ⟨fun _ => hK _, fun c => absurd (by decide) c⟩
  | succ m ih =>
    intro i hi
    have nx : X 144 [some (aR 108), some (aI v1), some (aI 0), some (aI (nI i))] [aI 0] (th0 mm_0) := by
      refine am_run hX 5 _ _ _ _ ?_
      conv => whnf
      rw [nI_1]
      exact ih (i + 1) (by omega)
    refine am_run hX 3 _ _ _ _ ?_
    conv => whnf
    refine ⟨fun c => absurd c (nI_ge (b := 36) (by omega) (by decide)), fun _ => ?_⟩
    refine am_run hX 8 _ _ _ _ ?_
    conv => whnf
    refine ⟨by decide, ?_⟩
    conv => whnf
    refine ⟨by decide, ?_⟩
    conv => whnf
    refine ⟨fun _ => nx, fun _ => ?_⟩
    refine am_run hX 5 _ _ _ _ ?_
    conv => whnf
    refine ⟨vp_in_nI (by show i < 36; omega) (by decide), ?_⟩
    conv => whnf
    refine ⟨fun _ => nx, fun c => absurd rfl c⟩
set_option maxRecDepth 100000 in
theorem ft_m0 {d : Nat} : am_M (d + 3) false nm_X12_total [aR 108, aI 0] mm_0 (fun r _ => r = .inl (some (aI (0)))) := by
  refine ⟨rfl, rfl, rfl, fun X hX => am_run hX 100 _ _ _ _ ?_⟩
  conv => whnf
  repeat first
    | (refine ⟨fun _ => ?_, fun c => absurd (by decide) c⟩; conv => whnf)
    | (refine ⟨fun c => absurd c (by decide), fun _ => ?_⟩; conv => whnf)
    | (refine ⟨by unfold vp_in; decide, ?_⟩; conv => whnf)
    | (refine ⟨⟨rfl, rfl⟩, ?_⟩; conv => whnf)
    | (refine am_inl ⟨rfl, rfl, rfl, fun X' hX' => am_run hX' 400 _ _ _ _ ?_⟩; conv => whnf)
    | (refine ⟨trivial, _, rfl, ?_⟩; conv => whnf)
    | (refine ⟨rfl, _, rfl, ?_⟩; conv => whnf)
  exact ⟨trivial, rfl⟩
set_option maxRecDepth 100000 in
theorem ft_m1 {d : Nat} : am_M (d + 3) false nm_X12_total [aR 108, aI 1] mm_0 (fun r _ => r = .inl (some (aI (0)))) := by
  refine ⟨rfl, rfl, rfl, fun X hX => am_run hX 100 _ _ _ _ ?_⟩
  conv => whnf
  repeat first
    | (refine ⟨fun _ => ?_, fun c => absurd (by decide) c⟩; conv => whnf)
    | (refine ⟨fun c => absurd c (by decide), fun _ => ?_⟩; conv => whnf)
    | (refine ⟨by unfold vp_in; decide, ?_⟩; conv => whnf)
    | (refine ⟨⟨rfl, rfl⟩, ?_⟩; conv => whnf)
    | (refine am_inl ⟨rfl, rfl, rfl, fun X' hX' => am_run hX' 400 _ _ _ _ ?_⟩; conv => whnf)
    | (refine ⟨trivial, _, rfl, ?_⟩; conv => whnf)
    | (refine ⟨rfl, _, rfl, ?_⟩; conv => whnf)
  exact ⟨trivial, rfl⟩
set_option maxRecDepth 100000 in
theorem ft_m2 {d : Nat} : am_M (d + 3) false nm_X12_total [aR 108, aI 2] mm_0 (fun r _ => r = .inl (some (aI (1)))) := by
  refine ⟨rfl, rfl, rfl, fun X hX => am_run hX 100 _ _ _ _ ?_⟩
  conv => whnf
  repeat first
    | (refine ⟨fun _ => ?_, fun c => absurd (by decide) c⟩; conv => whnf)
    | (refine ⟨fun c => absurd c (by decide), fun _ => ?_⟩; conv => whnf)
    | (refine ⟨by unfold vp_in; decide, ?_⟩; conv => whnf)
    | (refine ⟨⟨rfl, rfl⟩, ?_⟩; conv => whnf)
    | (refine am_inl ⟨rfl, rfl, rfl, fun X' hX' => am_run hX' 400 _ _ _ _ ?_⟩; conv => whnf)
    | (refine ⟨trivial, _, rfl, ?_⟩; conv => whnf)
    | (refine ⟨rfl, _, rfl, ?_⟩; conv => whnf)
  exact ⟨trivial, rfl⟩
set_option maxRecDepth 100000 in
theorem ft_m3 {d : Nat} : am_M (d + 3) false nm_X12_total [aR 108, aI 3] mm_0 (fun r _ => r = .inl (some (aI (0)))) := by
  refine ⟨rfl, rfl, rfl, fun X hX => am_run hX 100 _ _ _ _ ?_⟩
  conv => whnf
  repeat first
    | (refine ⟨fun _ => ?_, fun c => absurd (by decide) c⟩; conv => whnf)
    | (refine ⟨fun c => absurd c (by decide), fun _ => ?_⟩; conv => whnf)
    | (refine ⟨by unfold vp_in; decide, ?_⟩; conv => whnf)
    | (refine ⟨⟨rfl, rfl⟩, ?_⟩; conv => whnf)
    | (refine am_inl ⟨rfl, rfl, rfl, fun X' hX' => am_run hX' 400 _ _ _ _ ?_⟩; conv => whnf)
    | (refine ⟨trivial, _, rfl, ?_⟩; conv => whnf)
    | (refine ⟨rfl, _, rfl, ?_⟩; conv => whnf)
  exact ⟨trivial, rfl⟩
set_option maxRecDepth 100000 in
theorem ft_m4 {d : Nat} : am_M (d + 3) false nm_X12_total [aR 108, aI 4] mm_0 (fun r _ => r = .inl (some (aI 0))) := by
  refine ⟨rfl, rfl, rfl, fun X hX => am_run hX 7 _ _ _ _ ?_⟩
  conv => whnf
  refine ⟨fun e => absurd e (by decide), fun _ => ?_⟩
  conv => whnf
  refine ⟨fun e => absurd e (by decide), fun _ => ?_⟩
  conv => whnf
  refine ⟨fun e => absurd e (by decide), fun _ => ?_⟩
  conv => whnf
  refine ⟨fun e => absurd e (by decide), fun _ => ?_⟩
  conv => whnf
  refine ⟨fun _ => ?_, fun e => absurd rfl e⟩
  refine am_run hX 2 _ _ _ _ ?_
  conv => whnf
  refine ft_l hX (fun l3 => ?_) 36 0 (by omega)
  refine am_run hX 2 _ _ _ _ ?_
  conv => whnf
  exact ⟨trivial, rfl⟩
set_option maxRecDepth 100000 in
theorem ft_m5 {d : Nat} : am_M (d + 3) false nm_X12_total [aR 108, aI 5] mm_0 (fun r _ => r = .inl (some (aI (mm_0.1 70 13)))) := by
  refine ⟨rfl, rfl, rfl, fun X hX => am_run hX 100 _ _ _ _ ?_⟩
  conv => whnf
  repeat first
    | (refine ⟨fun _ => ?_, fun c => absurd (by decide) c⟩; conv => whnf)
    | (refine ⟨fun c => absurd c (by decide), fun _ => ?_⟩; conv => whnf)
    | (refine ⟨by unfold vp_in; decide, ?_⟩; conv => whnf)
    | (refine ⟨⟨rfl, rfl⟩, ?_⟩; conv => whnf)
    | (refine am_inl ⟨rfl, rfl, rfl, fun X' hX' => am_run hX' 400 _ _ _ _ ?_⟩; conv => whnf)
    | (refine ⟨trivial, _, rfl, ?_⟩; conv => whnf)
    | (refine ⟨rfl, _, rfl, ?_⟩; conv => whnf)
  exact ⟨trivial, rfl⟩
set_option maxRecDepth 100000 in
theorem ft_m6 {d : Nat} : am_M (d + 3) false nm_X12_total [aR 108, aI 6] mm_0 (fun r _ => r = .inl (some (aI (0)))) := by
  refine ⟨rfl, rfl, rfl, fun X hX => am_run hX 100 _ _ _ _ ?_⟩
  conv => whnf
  repeat first
    | (refine ⟨fun _ => ?_, fun c => absurd (by decide) c⟩; conv => whnf)
    | (refine ⟨fun c => absurd c (by decide), fun _ => ?_⟩; conv => whnf)
    | (refine ⟨by unfold vp_in; decide, ?_⟩; conv => whnf)
    | (refine ⟨⟨rfl, rfl⟩, ?_⟩; conv => whnf)
    | (refine am_inl ⟨rfl, rfl, rfl, fun X' hX' => am_run hX' 400 _ _ _ _ ?_⟩; conv => whnf)
    | (refine ⟨trivial, _, rfl, ?_⟩; conv => whnf)
    | (refine ⟨rfl, _, rfl, ?_⟩; conv => whnf)
  exact ⟨trivial, rfl⟩
set_option maxRecDepth 100000 in
theorem ft_m7 {d : Nat} : am_M (d + 3) false nm_X12_total [aR 108, aI 7] mm_0 (fun r _ => r = .inl (some (aI (0)))) := by
  refine ⟨rfl, rfl, rfl, fun X hX => am_run hX 100 _ _ _ _ ?_⟩
  conv => whnf
  repeat first
    | (refine ⟨fun _ => ?_, fun c => absurd (by decide) c⟩; conv => whnf)
    | (refine ⟨fun c => absurd c (by decide), fun _ => ?_⟩; conv => whnf)
    | (refine ⟨by unfold vp_in; decide, ?_⟩; conv => whnf)
    | (refine ⟨⟨rfl, rfl⟩, ?_⟩; conv => whnf)
    | (refine am_inl ⟨rfl, rfl, rfl, fun X' hX' => am_run hX' 400 _ _ _ _ ?_⟩; conv => whnf)
    | (refine ⟨trivial, _, rfl, ?_⟩; conv => whnf)
    | (refine ⟨rfl, _, rfl, ?_⟩; conv => whnf)
  exact ⟨trivial, rfl⟩
end FRD
