/-! pairs on the fresh memory that the first generator is slow at -/
section FRA
variable {d : Nat} {M : mm_M}
set_option maxRecDepth 100000 in
theorem fr_tell {q v : Int32} : am_M (d + 1) false nm_X12_tell [aR 108, aI 0, aI q, aI v] M (am_q1 (aJ 0) (th1 M)) := by
  refine ⟨rfl, rfl, rfl, fun X hX => am_run hX 60 _ _ _ _ ?_⟩
  conv => whnf
  refine ⟨fun _ => ?_, fun c => absurd rfl c⟩
  conv => whnf
  refine ⟨fun c => absurd c (by rw [mm_i1]; simp [upd]), fun _ => ?_⟩
  conv => whnf
  exact ⟨trivial, rfl, rfl⟩
set_option maxRecDepth 100000 in
theorem fr_csl {P : am_Q} {X : am_X} (hX : am_K d false nm_X12_clearSum P X) (hP : ∀ f, P (.inl none) (mm_l M 153 f)) : ∀ (m i : Nat) (f : Nat → Int64), i + m = 5 → X 2 [some (aR 108), some (aI (nI i))] [] (mm_l M 153 f) := by
  intro m
  induction m with
  | zero =>
    intro i f hi
    have hi : i = 5 := by omega
    subst hi
    refine am_run hX 4 _ _ _ _ ?_
    conv => whnf
    refine ⟨fun _ => ?_, fun c => absurd (by decide) c⟩
    conv => whnf
    exact ⟨trivial, hP f⟩
  | succ m ih =>
    intro i f hi
    refine am_run hX 3 _ _ _ _ ?_
    conv => whnf
    refine ⟨fun c => absurd c (nI_ge (b := 5) (by omega) (by decide)), fun _ => ?_⟩
    refine am_run hX 7 _ _ _ _ ?_
    conv => whnf
    refine ⟨vp_in_nI (by show i < 5; omega) (by decide), ?_⟩
    conv => whnf
    rw [nI_1, mm_ll]
    exact ih (i + 1) _ (by omega)
set_option maxRecDepth 100000 in
theorem fr_cs : am_M (d + 1) false nm_X12_clearSum [aR 108] M (fun r M' => r = .inl none ∧ ∃ f, M' = mm_l M 153 f) := by
  refine ⟨rfl, rfl, rfl, fun X hX => am_run hX 2 _ _ _ _ ?_⟩
  conv => whnf
  have k := fr_csl (M := M) hX (fun f => ⟨rfl, f, rfl⟩) 5 0 (M.2 153) (by omega)
  rw [mm_lz] at k
  exact k
set_option maxRecDepth 100000 in
theorem fr_ldl {P : am_Q} {X : am_X} (hX : am_K d false nm_X12_load P X) (hP : ∀ f, P (.inl none) (mm_l M 118 f)) : ∀ (m i : Nat) (f : Nat → Int64), i + m = 5 → X 2 [some (aR 108), some (aR 153), some (aI 0), some (aI (nI i))] [] (mm_l M 118 f) := by
  intro m
  induction m with
  | zero =>
    intro i f hi
    have hi : i = 5 := by omega
    subst hi
    refine am_run hX 4 _ _ _ _ ?_
    conv => whnf
    refine ⟨fun _ => ?_, fun c => absurd (by decide) c⟩
    conv => whnf
    exact ⟨trivial, hP f⟩
  | succ m ih =>
    intro i f hi
    refine am_run hX 3 _ _ _ _ ?_
    conv => whnf
    refine ⟨fun c => absurd c (nI_ge (b := 5) (by omega) (by decide)), fun _ => ?_⟩
    refine am_run hX 11 _ _ _ _ ?_
    conv => whnf
    rw [show (0 : Int32) + nI i = nI i from Int32.zero_add _]
    refine ⟨vp_in_nI (by show i < 5; omega) (by decide), ?_⟩
    conv => whnf
    refine ⟨vp_in_nI (by show i < 5; omega) (by decide), ?_⟩
    conv => whnf
    rw [nI_1, mm_ll]
    exact ih (i + 1) _ (by omega)
set_option maxRecDepth 100000 in
theorem fr_ld : am_M (d + 1) false nm_X12_load [aR 108, aR 153, aI 0] M (fun r M' => r = .inl none ∧ ∃ f, M' = mm_l M 118 f) := by
  refine ⟨rfl, rfl, rfl, fun X hX => am_run hX 2 _ _ _ _ ?_⟩
  conv => whnf
  have k := fr_ldl (M := M) hX (fun f => ⟨rfl, f, rfl⟩) 5 0 (M.2 118) (by omega)
  rw [mm_lz] at k
  exact k
set_option maxRecDepth 100000 in
theorem fr_x_weight {p q r : Int32} (h : M.1 17 5 = -1) : am_M 999 true nm_X11_weight [aR 0, aI p, aI q, aI r] M (fun r M' => r = .inr "java/util/NoSuchElementException" ∧ M' = M) := by
  refine ⟨rfl, rfl, rfl, fun X hX => am_run hX 60 _ _ _ _ ?_⟩
  conv => whnf
  rw [h]
  refine ⟨fun _ => ?_, fun c => absurd rfl c⟩
  conv => whnf
  exact ⟨⟨by decide, rfl⟩, rfl, rfl⟩
set_option maxRecDepth 100000 in
theorem fr_m_weight {p q r : Int32} (h : M.1 108 65 = 0) : am_M (d + 2) false nm_X12_weight [aR 108, aI p, aI q, aI r] M (fun r M' => r = .inl (some (aJ 0)) ∧ M'.1 108 0 = 1) := by
  refine ⟨rfl, rfl, rfl, fun X hX => am_run hX 60 _ _ _ _ ?_⟩
  conv => whnf
  rw [h]
  refine ⟨fun _ => ?_, fun c => absurd rfl c⟩
  conv => whnf
  refine am_cq fr_cs (fun r M' z => ?_)
  obtain ⟨rfl, f, rfl⟩ := z
  refine ⟨_, rfl, ?_⟩
  conv => whnf
  refine ⟨fun _ => ?_, fun c => absurd rfl c⟩
  conv => whnf
  refine am_cq fr_ld (fun r M' z => ?_)
  obtain ⟨rfl, f, rfl⟩ := z
  refine ⟨_, rfl, ?_⟩
  conv => whnf
  refine am_c1 fr_tell ?_
  conv => whnf
  exact ⟨trivial, rfl, rfl⟩
set_option maxRecDepth 100000 in
theorem fr_x_expected {p q r : Int32} (h : M.1 17 5 = -1) : am_M 999 true nm_X11_expected [aR 0, aI p, aI q, aI r] M (fun r M' => r = .inr "java/util/NoSuchElementException" ∧ M' = M) := by
  refine ⟨rfl, rfl, rfl, fun X hX => am_run hX 60 _ _ _ _ ?_⟩
  conv => whnf
  rw [h]
  refine ⟨fun _ => ?_, fun c => absurd rfl c⟩
  conv => whnf
  exact ⟨⟨by decide, rfl⟩, rfl, rfl⟩
set_option maxRecDepth 100000 in
theorem fr_m_expected {p q r : Int32} (h : M.1 108 65 = 0) : am_M (d + 2) false nm_X12_expected [aR 108, aI p, aI q, aI r] M (fun r M' => r = .inl (some (aJ 0)) ∧ M'.1 108 0 = 1) := by
  refine ⟨rfl, rfl, rfl, fun X hX => am_run hX 60 _ _ _ _ ?_⟩
  conv => whnf
  rw [h]
  refine ⟨fun _ => ?_, fun c => absurd rfl c⟩
  conv => whnf
  refine am_cq fr_cs (fun r M' z => ?_)
  obtain ⟨rfl, f, rfl⟩ := z
  refine ⟨_, rfl, ?_⟩
  conv => whnf
  refine ⟨fun _ => ?_, fun c => absurd rfl c⟩
  conv => whnf
  refine am_cq fr_ld (fun r M' z => ?_)
  obtain ⟨rfl, f, rfl⟩ := z
  refine ⟨_, rfl, ?_⟩
  conv => whnf
  refine am_c1 fr_tell ?_
  conv => whnf
  exact ⟨trivial, rfl, rfl⟩
set_option maxRecDepth 100000 in
theorem fr_x_mixed {p q r s : Int32} (h : M.1 17 5 = -1) : am_M 999 true nm_X11_mixed [aR 0, aI p, aI q, aI r, aI s] M (fun r M' => r = .inr "java/util/NoSuchElementException" ∧ M' = M) := by
  refine ⟨rfl, rfl, rfl, fun X hX => am_run hX 60 _ _ _ _ ?_⟩
  conv => whnf
  rw [h]
  refine ⟨fun _ => ?_, fun c => absurd rfl c⟩
  conv => whnf
  exact ⟨⟨by decide, rfl⟩, rfl, rfl⟩
set_option maxRecDepth 100000 in
theorem fr_m_mixed {p q r s : Int32} (h : M.1 108 65 = 0) : am_M (d + 2) false nm_X12_mixed [aR 108, aI p, aI q, aI r, aI s] M (fun r M' => r = .inl (some (aJ 0)) ∧ M'.1 108 0 = 1) := by
  refine ⟨rfl, rfl, rfl, fun X hX => am_run hX 60 _ _ _ _ ?_⟩
  conv => whnf
  rw [h]
  refine ⟨fun _ => ?_, fun c => absurd rfl c⟩
  conv => whnf
  refine am_cq fr_cs (fun r M' z => ?_)
  obtain ⟨rfl, f, rfl⟩ := z
  refine ⟨_, rfl, ?_⟩
  conv => whnf
  refine ⟨fun _ => ?_, fun c => absurd rfl c⟩
  conv => whnf
  refine am_cq fr_ld (fun r M' z => ?_)
  obtain ⟨rfl, f, rfl⟩ := z
  refine ⟨_, rfl, ?_⟩
  conv => whnf
  refine am_c1 fr_tell ?_
  conv => whnf
  exact ⟨trivial, rfl, rfl⟩
set_option maxRecDepth 100000 in
theorem fr_x_measure {p q : Int32} (h : M.1 25 3 = 0) : am_M (d + 2) false nm_X11_measure [aR 0, aI p, aI q] M (am_q1 (aI (-1)) M) := by
  refine ⟨rfl, rfl, rfl, fun X hX => am_run hX 60 _ _ _ _ ?_⟩
  conv => whnf
  refine ⟨fun _ => ?_, fun c => ?_⟩
  · conv => whnf
    exact ⟨trivial, rfl, rfl⟩
  · conv => whnf
    rw [h]
    refine ⟨fun c2 => absurd c2 c, fun _ => ?_⟩
    conv => whnf
    exact ⟨trivial, rfl, rfl⟩
set_option maxRecDepth 100000 in
theorem fr_m_measure {p q : Int32} (h : M.1 108 81 = 0) : am_M (d + 2) false nm_X12_measure [aR 108, aI p, aI q] M (am_q1 (aI (-1)) (th0 M)) := by
  refine ⟨rfl, rfl, rfl, fun X hX => am_run hX 60 _ _ _ _ ?_⟩
  conv => whnf
  refine ⟨fun _ => ?_, fun c => ?_⟩
  · conv => whnf
    exact ⟨trivial, rfl, rfl⟩
  · conv => whnf
    rw [show (mm_i M 108 (upd (M.1 108) 0 0)).1 108 81 = 0 from h]
    refine ⟨fun c2 => absurd c2 c, fun _ => ?_⟩
    conv => whnf
    exact ⟨trivial, rfl, rfl⟩
set_option maxRecDepth 100000 in
theorem fr_x_row {p q : Int32} (h : M.1 25 3 = 0) : am_M (d + 2) false nm_X11_row [aR 0, aI p, aI q] M (am_q1 (aI (-1)) M) := by
  refine ⟨rfl, rfl, rfl, fun X hX => am_run hX 60 _ _ _ _ ?_⟩
  conv => whnf
  refine ⟨fun _ => ?_, fun c => ?_⟩
  · conv => whnf
    exact ⟨trivial, rfl, rfl⟩
  · conv => whnf
    rw [h]
    refine ⟨fun c2 => absurd c2 c, fun _ => ?_⟩
    conv => whnf
    exact ⟨trivial, rfl, rfl⟩
set_option maxRecDepth 100000 in
theorem fr_m_row {p q : Int32} (h : M.1 108 81 = 0) : am_M (d + 2) false nm_X12_row [aR 108, aI p, aI q] M (am_q1 (aI (-1)) (th0 M)) := by
  refine ⟨rfl, rfl, rfl, fun X hX => am_run hX 60 _ _ _ _ ?_⟩
  conv => whnf
  refine ⟨fun _ => ?_, fun c => ?_⟩
  · conv => whnf
    exact ⟨trivial, rfl, rfl⟩
  · conv => whnf
    rw [show (mm_i M 108 (upd (M.1 108) 0 0)).1 108 81 = 0 from h]
    refine ⟨fun _ => ?_, fun c2 => absurd (Int32.not_lt.mp c) c2⟩
    conv => whnf
    exact ⟨trivial, rfl, rfl⟩
end FRA
