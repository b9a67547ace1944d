/-! SUMS on a memory without TERMS: sum, term, ladder -/
def fxM (M M' : mm_M) : Prop := (∀ c, 108 ≤ c → M'.1 c = M.1 c) ∧ (∀ c, 108 ≤ c → M'.2 c = M.2 c)
theorem fx_r (M : mm_M) : fxM M M := ⟨fun _ _ => rfl, fun _ _ => rfl⟩
theorem fx_i {M M' : mm_M} {k : Nat} {f : Nat → Int32} (h : fxM M M') (hk : k < 108) : fxM M (mm_i M' k f) := ⟨fun c hc => by rw [mm_ne _ _ _ _ (by omega)]; exact h.1 c hc, h.2⟩
theorem fx_l {M M' : mm_M} {k : Nat} {f : Nat → Int64} (h : fxM M M') (hk : k < 108) : fxM M (mm_l M' k f) := ⟨h.1, fun c hc => by rw [mm_lne _ _ _ _ (by omega)]; exact h.2 c hc⟩
theorem fx_t {A B C : mm_M} (h : fxM A B) (k : fxM B C) : fxM A C := ⟨fun c hc => (k.1 c hc).trans (h.1 c hc), fun c hc => (k.2 c hc).trans (h.2 c hc)⟩
section SMF
variable {d : Nat} {M : mm_M}
/-- nothing found: A becomes empty -/
def em (M : mm_M) : mm_M := mm_i (mm_i M 96 (upd (M.1 96) 0 (nI 0))) 97 (upd (M.1 97) 0 (nI 0))
set_option maxRecDepth 100000 in
theorem sf_set0 {v : Int32} (h : M.1 83 11 = nI 0) : am_M (d + 2) false nm_X9_settle [aR 83, aI v] M (am_q1 (aI (nI 1)) (em M)) := by
  refine ⟨rfl, rfl, rfl, fun X hX => am_run hX 60 _ _ _ _ ?_⟩
  conv => whnf
  rw [h]
  refine ⟨fun _ => ?_, fun c => absurd (by decide) c⟩
  conv => whnf
  rw [h]
  refine ⟨fun c => absurd rfl c, fun _ => ?_⟩
  conv => whnf
  refine ⟨fun _ => ?_, fun c => absurd (by decide) c⟩
  conv => whnf
  refine ⟨fun c => absurd c (by decide), fun _ => ?_⟩
  conv => whnf
  rw [h]
  refine am_inl ⟨rfl, rfl, rfl, fun X' hX' => am_run hX' 20 _ _ _ _ ?_⟩
  conv => whnf
  refine ⟨fun _ => ?_, fun c => absurd (by decide) c⟩
  conv => whnf
  refine ⟨rfl, _, rfl, ?_⟩
  conv => whnf
  refine ⟨fun c => absurd c (by decide), fun _ => ?_⟩
  conv => whnf
  rw [h]
  refine am_inl ⟨rfl, rfl, rfl, fun X' hX' => am_run hX' 40 _ _ _ _ ?_⟩
  conv => whnf
  refine ⟨fun _ => ?_, fun c => absurd (by decide) c⟩
  conv => whnf
  refine ⟨vp_in_nI (n := 0) (N := 3) (by decide) (by decide), ?_⟩
  conv => whnf
  refine ⟨vp_in_nI (n := 0) (N := 3) (by decide) (by decide), ?_⟩
  conv => whnf
  refine ⟨rfl, _, rfl, ?_⟩
  conv => whnf
  refine ⟨fun c => absurd c (by decide), fun _ => ?_⟩
  conv => whnf
  exact ⟨rfl, rfl, rfl⟩
set_option maxRecDepth 100000 in
theorem sf_far0 {v : Int32} (h : M.1 96 0 = nI 0) : am_M (d + 1) false nm_X9_isTooFar [aR 83, aI 0, aI v] M (am_q1 (aI (nI 0)) M) := by
  refine ⟨rfl, rfl, rfl, fun X hX => am_run hX 30 _ _ _ _ ?_⟩
  conv => whnf
  refine ⟨vp_in_nI (n := 0) (N := 3) (by decide) (by decide), ?_⟩
  conv => whnf
  rw [show M.1 96 (Int32.toNatClampNeg 0) = nI 0 from h]
  refine ⟨fun _ => ?_, fun c => absurd (by decide) c⟩
  conv => whnf
  exact ⟨rfl, rfl, rfl⟩
set_option maxRecDepth 100000 in
theorem sf_far1 {v : Int32} (h : M.1 96 1 = nI 0) : am_M (d + 1) false nm_X9_isTooFar [aR 83, aI 1, aI v] M (am_q1 (aI (nI 0)) M) := by
  refine ⟨rfl, rfl, rfl, fun X hX => am_run hX 30 _ _ _ _ ?_⟩
  conv => whnf
  refine ⟨vp_in_nI (n := 1) (N := 3) (by decide) (by decide), ?_⟩
  conv => whnf
  rw [show M.1 96 (Int32.toNatClampNeg 1) = nI 0 from h]
  refine ⟨fun _ => ?_, fun c => absurd (by decide) c⟩
  conv => whnf
  exact ⟨rfl, rfl, rfl⟩
set_option maxRecDepth 100000 in
theorem sf_far2 {v : Int32} (h : M.1 96 2 = nI 0) : am_M (d + 1) false nm_X9_isTooFar [aR 83, aI 2, aI v] M (am_q1 (aI (nI 0)) M) := by
  refine ⟨rfl, rfl, rfl, fun X hX => am_run hX 30 _ _ _ _ ?_⟩
  conv => whnf
  refine ⟨vp_in_nI (n := 2) (N := 3) (by decide) (by decide), ?_⟩
  conv => whnf
  rw [show M.1 96 (Int32.toNatClampNeg 2) = nI 0 from h]
  refine ⟨fun _ => ?_, fun c => absurd (by decide) c⟩
  conv => whnf
  exact ⟨rfl, rfl, rfl⟩
set_option maxRecDepth 100000 in
theorem sf_add1 {s : Int32} (h0 : M.1 96 0 = nI 0) (h1 : M.1 96 1 = nI 0) : am_M (d + 3) false nm_X9_add [aR 83, aI 1, aI s] M (fun r M' => r = .inl (some (aI (nI 1))) ∧ fxM M M' ∧ M'.1 96 0 = nI 0) := by
  refine ⟨rfl, rfl, rfl, fun X hX => am_run hX 60 _ _ _ _ ?_⟩
  conv => whnf
  refine ⟨vp_in_nI (n := 0) (N := 3) (by decide) (by decide), ?_⟩
  conv => whnf
  refine ⟨vp_in_nI (n := 1) (N := 3) (by decide) (by decide), ?_⟩
  conv => whnf
  refine am_c1 (sf_far0 h0) ?_
  conv => whnf
  refine ⟨fun c => absurd rfl c, fun _ => ?_⟩
  conv => whnf
  refine am_c1 (sf_far1 h1) ?_
  conv => whnf
  refine ⟨fun _ => ?_, fun c => absurd rfl c⟩
  conv => whnf
  refine am_inl ⟨rfl, rfl, rfl, fun X' hX' => am_run hX' 40 _ _ _ _ ?_⟩
  conv => whnf
  refine ⟨vp_in_nI (n := 0) (N := 3) (by decide) (by decide), ?_⟩
  conv => whnf
  rw [show (mm_i M 83 (upd (M.1 83) 11 0)).1 96 (Int32.toNatClampNeg 0) = nI 0 from h0]
  refine ⟨fun c => absurd c (by decide), fun _ => ?_⟩
  conv => whnf
  refine ⟨vp_in_nI (n := 1) (N := 3) (by decide) (by decide), ?_⟩
  conv => whnf
  rw [show (mm_i M 83 (upd (M.1 83) 11 0)).1 96 (Int32.toNatClampNeg 1) = nI 0 from h1]
  refine ⟨fun _ => ?_, fun c => absurd (by decide) c⟩
  conv => whnf
  refine ⟨trivial, _, rfl, ?_⟩
  conv => whnf
  refine am_c1 (sf_set0 rfl) ?_
  conv => whnf
  exact ⟨rfl, rfl, fx_i (fx_i (fx_i (fx_r M) (by decide)) (by decide)) (by decide), rfl⟩
set_option maxRecDepth 100000 in
theorem sf_add2 {s : Int32} (h0 : M.1 96 0 = nI 0) (h1 : M.1 96 2 = nI 0) : am_M (d + 3) false nm_X9_add [aR 83, aI 2, aI s] M (fun r M' => r = .inl (some (aI (nI 1))) ∧ fxM M M' ∧ M'.1 96 0 = nI 0) := by
  refine ⟨rfl, rfl, rfl, fun X hX => am_run hX 60 _ _ _ _ ?_⟩
  conv => whnf
  refine ⟨vp_in_nI (n := 0) (N := 3) (by decide) (by decide), ?_⟩
  conv => whnf
  refine ⟨vp_in_nI (n := 2) (N := 3) (by decide) (by decide), ?_⟩
  conv => whnf
  refine am_c1 (sf_far0 h0) ?_
  conv => whnf
  refine ⟨fun c => absurd rfl c, fun _ => ?_⟩
  conv => whnf
  refine am_c1 (sf_far2 h1) ?_
  conv => whnf
  refine ⟨fun _ => ?_, fun c => absurd rfl c⟩
  conv => whnf
  refine am_inl ⟨rfl, rfl, rfl, fun X' hX' => am_run hX' 40 _ _ _ _ ?_⟩
  conv => whnf
  refine ⟨vp_in_nI (n := 0) (N := 3) (by decide) (by decide), ?_⟩
  conv => whnf
  rw [show (mm_i M 83 (upd (M.1 83) 11 0)).1 96 (Int32.toNatClampNeg 0) = nI 0 from h0]
  refine ⟨fun c => absurd c (by decide), fun _ => ?_⟩
  conv => whnf
  refine ⟨vp_in_nI (n := 2) (N := 3) (by decide) (by decide), ?_⟩
  conv => whnf
  rw [show (mm_i M 83 (upd (M.1 83) 11 0)).1 96 (Int32.toNatClampNeg 2) = nI 0 from h1]
  refine ⟨fun _ => ?_, fun c => absurd (by decide) c⟩
  conv => whnf
  refine ⟨trivial, _, rfl, ?_⟩
  conv => whnf
  refine am_c1 (sf_set0 rfl) ?_
  conv => whnf
  exact ⟨rfl, rfl, fx_i (fx_i (fx_i (fx_r M) (by decide)) (by decide)) (by decide), rfl⟩
set_option maxRecDepth 100000 in
theorem sf_w0 {P : am_Q} {X : am_X} {s x : Nat} (hX : am_K d false nm_X9_findFirsts P X) (hs : M.1 96 0 = nI s) (s1 : s ≤ 150) (hr : M.1 84 0 = nI 0) (hK : ∀ a, a ≤ s → X 42 [some (aR 83), some (aI 0), some (aI (nI a)), some (aI (nI x))] [] M) : ∀ (m a : Nat), a + m = s → X 11 [some (aR 83), some (aI 0), some (aI (nI a)), some (aI (nI x))] [] M := by
  intro m
  induction m with
  | zero =>
    intro a ha
    refine am_run hX 6 _ _ _ _ ?_
    conv => whnf
    refine ⟨vp_in_nI (n := 0) (N := 3) (by decide) (by decide), ?_⟩
    conv => whnf
    rw [show M.1 96 (Int32.toNatClampNeg 0) = nI s from hs]
    exact ⟨fun _ => hK a (by omega), fun c => absurd (nI_le (by omega) (by omega)) c⟩
  | succ m ih =>
    intro a ha
    refine am_run hX 6 _ _ _ _ ?_
    conv => whnf
    refine ⟨vp_in_nI (n := 0) (N := 3) (by decide) (by decide), ?_⟩
    conv => whnf
    rw [show M.1 96 (Int32.toNatClampNeg 0) = nI s from hs]
    refine ⟨fun c => absurd c (nI_ge (by omega) (by omega)), fun _ => ?_⟩
    refine am_run hX 10 _ _ _ _ ?_
    conv => whnf
    rw [show M.1 84 (Int32.toNatClampNeg 0) = nI 0 from hr]
    refine ⟨⟨vp_in_nI (n := 0) (N := 3) (by decide) (by decide), by decide⟩, ?_⟩
    conv => whnf
    refine ⟨vp_in_nI (by show a < 150; omega) (by decide), ?_⟩
    conv => whnf
    refine ⟨fun _ => hK a (by omega), fun _ => ?_⟩
    refine am_run hX 2 _ _ _ _ ?_
    conv => whnf
    rw [nI_1]
    exact ih (a + 1) (by omega)
set_option maxRecDepth 100000 in
theorem sf_v0 {P : am_Q} {X : am_X} {s : Nat} (hX : am_K d false nm_X9_findFirsts P X) (hs : M.1 96 0 = nI s) (s1 : s ≤ 150) (hr : M.1 84 0 = nI 0) (hK : ∀ f Z, X 55 Z [] (mm_i M 103 f)) : ∀ (m x a : Nat) (f : Nat → Int32), x + m = 257 → a ≤ s → X 4 [some (aR 83), some (aI 0), some (aI (nI a)), some (aI (nI x))] [] (mm_i M 103 f) := by
  intro m
  induction m with
  | zero =>
    intro x a f hx ha
    have hx : x = 257 := by omega
    subst hx
    refine am_run hX 3 _ _ _ _ ?_
    conv => whnf
    exact ⟨fun _ => hK _ _, fun c => absurd (by decide) c⟩
  | succ m ih =>
    intro x a f hx ha
    refine am_run hX 3 _ _ _ _ ?_
    conv => whnf
    refine ⟨fun c => absurd c (nI_nlt (a := 256) (by omega) (by decide)), fun _ => ?_⟩
    refine sf_w0 hX (s := s) (by rw [mm_ne _ _ _ _ (by decide)]; exact hs) s1 (by rw [mm_ne _ _ _ _ (by decide)]; exact hr) (fun a' ha' => ?_) (s - a) a (by omega)
    refine am_run hX 7 _ _ _ _ ?_
    conv => whnf
    refine ⟨vp_in_nI (by show x < 257; omega) (by decide), ?_⟩
    conv => whnf
    rw [nI_1, mm_ii]
    exact ih (x + 1) a' _ (by omega) ha'
set_option maxRecDepth 100000 in
theorem sf_ff0 {s : Nat} (hs : M.1 96 0 = nI s) (s1 : s ≤ 150) (hr : M.1 84 0 = nI 0) : am_M (d + 1) false nm_X9_findFirsts [aR 83, aI 0] M (fun r M' => r = .inl none ∧ ∃ f, M' = mm_i M 103 f) := by
  refine ⟨rfl, rfl, rfl, fun X hX => am_run hX 4 _ _ _ _ ?_⟩
  conv => whnf
  have e := sf_v0 hX hs s1 hr (fun f Z => by
    refine am_run hX 1 _ _ _ _ ?_
    conv => whnf
    exact ⟨trivial, rfl, f, rfl⟩) 257 0 0 (M.1 103) (by omega) (by omega)
  rw [mm_iz] at e
  exact e
set_option maxRecDepth 100000 in
theorem sf_w1 {P : am_Q} {X : am_X} {s x : Nat} (hX : am_K d false nm_X9_findFirsts P X) (hs : M.1 96 1 = nI s) (s1 : s ≤ 150) (hr : M.1 84 1 = nI 1) (hK : ∀ a, a ≤ s → X 42 [some (aR 83), some (aI 1), some (aI (nI a)), some (aI (nI x))] [] M) : ∀ (m a : Nat), a + m = s → X 11 [some (aR 83), some (aI 1), some (aI (nI a)), some (aI (nI x))] [] M := by
  intro m
  induction m with
  | zero =>
    intro a ha
    refine am_run hX 6 _ _ _ _ ?_
    conv => whnf
    refine ⟨vp_in_nI (n := 1) (N := 3) (by decide) (by decide), ?_⟩
    conv => whnf
    rw [show M.1 96 (Int32.toNatClampNeg 1) = nI s from hs]
    exact ⟨fun _ => hK a (by omega), fun c => absurd (nI_le (by omega) (by omega)) c⟩
  | succ m ih =>
    intro a ha
    refine am_run hX 6 _ _ _ _ ?_
    conv => whnf
    refine ⟨vp_in_nI (n := 1) (N := 3) (by decide) (by decide), ?_⟩
    conv => whnf
    rw [show M.1 96 (Int32.toNatClampNeg 1) = nI s from hs]
    refine ⟨fun c => absurd c (nI_ge (by omega) (by omega)), fun _ => ?_⟩
    refine am_run hX 10 _ _ _ _ ?_
    conv => whnf
    rw [show M.1 84 (Int32.toNatClampNeg 1) = nI 1 from hr]
    refine ⟨⟨vp_in_nI (n := 1) (N := 3) (by decide) (by decide), by decide⟩, ?_⟩
    conv => whnf
    refine ⟨vp_in_nI (by show a < 150; omega) (by decide), ?_⟩
    conv => whnf
    refine ⟨fun _ => hK a (by omega), fun _ => ?_⟩
    refine am_run hX 2 _ _ _ _ ?_
    conv => whnf
    rw [nI_1]
    exact ih (a + 1) (by omega)
set_option maxRecDepth 100000 in
theorem sf_v1 {P : am_Q} {X : am_X} {s : Nat} (hX : am_K d false nm_X9_findFirsts P X) (hs : M.1 96 1 = nI s) (s1 : s ≤ 150) (hr : M.1 84 1 = nI 1) (hK : ∀ f Z, X 55 Z [] (mm_i M 103 f)) : ∀ (m x a : Nat) (f : Nat → Int32), x + m = 257 → a ≤ s → X 4 [some (aR 83), some (aI 1), some (aI (nI a)), some (aI (nI x))] [] (mm_i M 103 f) := by
  intro m
  induction m with
  | zero =>
    intro x a f hx ha
    have hx : x = 257 := by omega
    subst hx
    refine am_run hX 3 _ _ _ _ ?_
    conv => whnf
    exact ⟨fun _ => hK _ _, fun c => absurd (by decide) c⟩
  | succ m ih =>
    intro x a f hx ha
    refine am_run hX 3 _ _ _ _ ?_
    conv => whnf
    refine ⟨fun c => absurd c (nI_nlt (a := 256) (by omega) (by decide)), fun _ => ?_⟩
    refine sf_w1 hX (s := s) (by rw [mm_ne _ _ _ _ (by decide)]; exact hs) s1 (by rw [mm_ne _ _ _ _ (by decide)]; exact hr) (fun a' ha' => ?_) (s - a) a (by omega)
    refine am_run hX 7 _ _ _ _ ?_
    conv => whnf
    refine ⟨vp_in_nI (by show x < 257; omega) (by decide), ?_⟩
    conv => whnf
    rw [nI_1, mm_ii]
    exact ih (x + 1) a' _ (by omega) ha'
set_option maxRecDepth 100000 in
theorem sf_ff1 {s : Nat} (hs : M.1 96 1 = nI s) (s1 : s ≤ 150) (hr : M.1 84 1 = nI 1) : am_M (d + 1) false nm_X9_findFirsts [aR 83, aI 1] M (fun r M' => r = .inl none ∧ ∃ f, M' = mm_i M 103 f) := by
  refine ⟨rfl, rfl, rfl, fun X hX => am_run hX 4 _ _ _ _ ?_⟩
  conv => whnf
  have e := sf_v1 hX hs s1 hr (fun f Z => by
    refine am_run hX 1 _ _ _ _ ?_
    conv => whnf
    exact ⟨trivial, rfl, f, rfl⟩) 257 0 0 (M.1 103) (by omega) (by omega)
  rw [mm_iz] at e
  exact e
set_option maxRecDepth 100000 in
theorem sf_w2 {P : am_Q} {X : am_X} {s x : Nat} (hX : am_K d false nm_X9_findFirsts P X) (hs : M.1 96 2 = nI s) (s1 : s ≤ 150) (hr : M.1 84 2 = nI 2) (hK : ∀ a, a ≤ s → X 42 [some (aR 83), some (aI 2), some (aI (nI a)), some (aI (nI x))] [] M) : ∀ (m a : Nat), a + m = s → X 11 [some (aR 83), some (aI 2), some (aI (nI a)), some (aI (nI x))] [] M := by
  intro m
  induction m with
  | zero =>
    intro a ha
    refine am_run hX 6 _ _ _ _ ?_
    conv => whnf
    refine ⟨vp_in_nI (n := 2) (N := 3) (by decide) (by decide), ?_⟩
    conv => whnf
    rw [show M.1 96 (Int32.toNatClampNeg 2) = nI s from hs]
    exact ⟨fun _ => hK a (by omega), fun c => absurd (nI_le (by omega) (by omega)) c⟩
  | succ m ih =>
    intro a ha
    refine am_run hX 6 _ _ _ _ ?_
    conv => whnf
    refine ⟨vp_in_nI (n := 2) (N := 3) (by decide) (by decide), ?_⟩
    conv => whnf
    rw [show M.1 96 (Int32.toNatClampNeg 2) = nI s from hs]
    refine ⟨fun c => absurd c (nI_ge (by omega) (by omega)), fun _ => ?_⟩
    refine am_run hX 10 _ _ _ _ ?_
    conv => whnf
    rw [show M.1 84 (Int32.toNatClampNeg 2) = nI 2 from hr]
    refine ⟨⟨vp_in_nI (n := 2) (N := 3) (by decide) (by decide), by decide⟩, ?_⟩
    conv => whnf
    refine ⟨vp_in_nI (by show a < 150; omega) (by decide), ?_⟩
    conv => whnf
    refine ⟨fun _ => hK a (by omega), fun _ => ?_⟩
    refine am_run hX 2 _ _ _ _ ?_
    conv => whnf
    rw [nI_1]
    exact ih (a + 1) (by omega)
set_option maxRecDepth 100000 in
theorem sf_v2 {P : am_Q} {X : am_X} {s : Nat} (hX : am_K d false nm_X9_findFirsts P X) (hs : M.1 96 2 = nI s) (s1 : s ≤ 150) (hr : M.1 84 2 = nI 2) (hK : ∀ f Z, X 55 Z [] (mm_i M 103 f)) : ∀ (m x a : Nat) (f : Nat → Int32), x + m = 257 → a ≤ s → X 4 [some (aR 83), some (aI 2), some (aI (nI a)), some (aI (nI x))] [] (mm_i M 103 f) := by
  intro m
  induction m with
  | zero =>
    intro x a f hx ha
    have hx : x = 257 := by omega
    subst hx
    refine am_run hX 3 _ _ _ _ ?_
    conv => whnf
    exact ⟨fun _ => hK _ _, fun c => absurd (by decide) c⟩
  | succ m ih =>
    intro x a f hx ha
    refine am_run hX 3 _ _ _ _ ?_
    conv => whnf
    refine ⟨fun c => absurd c (nI_nlt (a := 256) (by omega) (by decide)), fun _ => ?_⟩
    refine sf_w2 hX (s := s) (by rw [mm_ne _ _ _ _ (by decide)]; exact hs) s1 (by rw [mm_ne _ _ _ _ (by decide)]; exact hr) (fun a' ha' => ?_) (s - a) a (by omega)
    refine am_run hX 7 _ _ _ _ ?_
    conv => whnf
    refine ⟨vp_in_nI (by show x < 257; omega) (by decide), ?_⟩
    conv => whnf
    rw [nI_1, mm_ii]
    exact ih (x + 1) a' _ (by omega) ha'
set_option maxRecDepth 100000 in
theorem sf_ff2 {s : Nat} (hs : M.1 96 2 = nI s) (s1 : s ≤ 150) (hr : M.1 84 2 = nI 2) : am_M (d + 1) false nm_X9_findFirsts [aR 83, aI 2] M (fun r M' => r = .inl none ∧ ∃ f, M' = mm_i M 103 f) := by
  refine ⟨rfl, rfl, rfl, fun X hX => am_run hX 4 _ _ _ _ ?_⟩
  conv => whnf
  have e := sf_v2 hX hs s1 hr (fun f Z => by
    refine am_run hX 1 _ _ _ _ ?_
    conv => whnf
    exact ⟨trivial, rfl, f, rfl⟩) 257 0 0 (M.1 103) (by omega) (by omega)
  rw [mm_iz] at e
  exact e
set_option maxRecDepth 100000 in
theorem sf_x01 {P : am_Q} {X : am_X} (hX : am_K d false nm_X9_multiply P X) (h : M.1 83 11 = nI 0) (hs : M.1 96 0 = nI 0) (hK : ∀ l3 l4 l5 l6 l7, X 126 [some (aR 83), some (aI 0), some (aI 1), l3, l4, l5, l6, l7] [] M) : ∀ (m x : Nat) (l4 l5 : Option am_V), x + m = 256 → X 12 [some (aR 83), some (aI 0), some (aI 1), some (aI (nI x)), l4, l5, none, none] [] M := by
  intro m
  induction m with
  | zero =>
    intro x l4 l5 hx
    have hx : x = 256 := by omega
    subst hx
    refine am_run hX 3 _ _ _ _ ?_
    conv => whnf
    exact ⟨fun _ => hK _ _ _ _ _, fun c => absurd (by decide) c⟩
  | succ m ih =>
    intro x l4 l5 hx
    refine am_run hX 3 _ _ _ _ ?_
    conv => whnf
    refine ⟨fun c => absurd c (nI_ge (b := 256) (by omega) (by decide)), fun _ => ?_⟩
    refine am_run hX 4 _ _ _ _ ?_
    conv => whnf
    rw [h]
    refine ⟨fun c => absurd c (by decide), fun _ => ?_⟩
    refine am_run hX 10 _ _ _ _ ?_
    conv => whnf
    refine ⟨vp_in_nI (n := 0) (N := 3) (by decide) (by decide), ?_⟩
    conv => whnf
    rw [show M.1 96 (Int32.toNatClampNeg 0) = nI 0 from hs]
    refine ⟨fun _ => ?_, fun c => absurd (by decide) c⟩
    refine am_run hX 2 _ _ _ _ ?_
    conv => whnf
    refine ⟨fun _ => ?_, fun c => absurd rfl c⟩
    refine am_run hX 2 _ _ _ _ ?_
    conv => whnf
    rw [nI_1]
    exact ih (x + 1) _ _ (by omega)
set_option maxRecDepth 100000 in
theorem sf_mul01 {s : Nat} (hl : M.1 96 0 = nI 0) (hs : M.1 96 1 = nI s) (s1 : s ≤ 150) (hr : M.1 84 1 = nI 1) : am_M (d + 3) false nm_X9_multiply [aR 83, aI 0, aI 1] M (fun r M' => r = .inl (some (aI (nI 1))) ∧ fxM M M' ∧ M'.1 96 0 = nI 0) := by
  refine ⟨rfl, rfl, rfl, fun X hX => am_run hX 8 _ _ _ _ ?_⟩
  conv => whnf
  refine am_cq (sf_ff1 hs s1 hr) (fun r M' z => ?_)
  obtain ⟨rfl, f, rfl⟩ := z
  refine ⟨_, rfl, ?_⟩
  conv => whnf
  refine sf_x01 hX rfl (by rw [mm_ne _ _ _ _ (by decide), mm_ne _ _ _ _ (by decide)]; exact hl) (fun l3 l4 l5 l6 l7 => ?_) 256 0 none none (by omega)
  refine am_run hX 40 _ _ _ _ ?_
  conv => whnf
  refine ⟨vp_in_nI (n := 0) (N := 3) (by decide) (by decide), ?_⟩
  conv => whnf
  refine ⟨vp_in_nI (n := 1) (N := 3) (by decide) (by decide), ?_⟩
  conv => whnf
  refine am_c1 (sf_set0 rfl) ?_
  conv => whnf
  exact ⟨rfl, rfl, fx_i (fx_i (fx_i (fx_i (fx_r M) (by decide)) (by decide)) (by decide)) (by decide), rfl⟩
set_option maxRecDepth 100000 in
theorem sf_x10 {P : am_Q} {X : am_X} (hX : am_K d false nm_X9_multiply P X) (h : M.1 83 11 = nI 0) (hs : M.1 96 1 = nI 0) (hK : ∀ l3 l4 l5 l6 l7, X 126 [some (aR 83), some (aI 1), some (aI 0), l3, l4, l5, l6, l7] [] M) : ∀ (m x : Nat) (l4 l5 : Option am_V), x + m = 256 → X 12 [some (aR 83), some (aI 1), some (aI 0), some (aI (nI x)), l4, l5, none, none] [] M := by
  intro m
  induction m with
  | zero =>
    intro x l4 l5 hx
    have hx : x = 256 := by omega
    subst hx
    refine am_run hX 3 _ _ _ _ ?_
    conv => whnf
    exact ⟨fun _ => hK _ _ _ _ _, fun c => absurd (by decide) c⟩
  | succ m ih =>
    intro x l4 l5 hx
    refine am_run hX 3 _ _ _ _ ?_
    conv => whnf
    refine ⟨fun c => absurd c (nI_ge (b := 256) (by omega) (by decide)), fun _ => ?_⟩
    refine am_run hX 4 _ _ _ _ ?_
    conv => whnf
    rw [h]
    refine ⟨fun c => absurd c (by decide), fun _ => ?_⟩
    refine am_run hX 10 _ _ _ _ ?_
    conv => whnf
    refine ⟨vp_in_nI (n := 1) (N := 3) (by decide) (by decide), ?_⟩
    conv => whnf
    rw [show M.1 96 (Int32.toNatClampNeg 1) = nI 0 from hs]
    refine ⟨fun _ => ?_, fun c => absurd (by decide) c⟩
    refine am_run hX 2 _ _ _ _ ?_
    conv => whnf
    refine ⟨fun _ => ?_, fun c => absurd rfl c⟩
    refine am_run hX 2 _ _ _ _ ?_
    conv => whnf
    rw [nI_1]
    exact ih (x + 1) _ _ (by omega)
set_option maxRecDepth 100000 in
theorem sf_mul10 {s : Nat} (hl : M.1 96 1 = nI 0) (hs : M.1 96 0 = nI s) (s1 : s ≤ 150) (hr : M.1 84 0 = nI 0) : am_M (d + 3) false nm_X9_multiply [aR 83, aI 1, aI 0] M (fun r M' => r = .inl (some (aI (nI 1))) ∧ fxM M M' ∧ M'.1 96 0 = nI 0) := by
  refine ⟨rfl, rfl, rfl, fun X hX => am_run hX 8 _ _ _ _ ?_⟩
  conv => whnf
  refine am_cq (sf_ff0 hs s1 hr) (fun r M' z => ?_)
  obtain ⟨rfl, f, rfl⟩ := z
  refine ⟨_, rfl, ?_⟩
  conv => whnf
  refine sf_x10 hX rfl (by rw [mm_ne _ _ _ _ (by decide), mm_ne _ _ _ _ (by decide)]; exact hl) (fun l3 l4 l5 l6 l7 => ?_) 256 0 none none (by omega)
  refine am_run hX 40 _ _ _ _ ?_
  conv => whnf
  refine ⟨vp_in_nI (n := 1) (N := 3) (by decide) (by decide), ?_⟩
  conv => whnf
  refine ⟨vp_in_nI (n := 0) (N := 3) (by decide) (by decide), ?_⟩
  conv => whnf
  refine am_c1 (sf_set0 rfl) ?_
  conv => whnf
  exact ⟨rfl, rfl, fx_i (fx_i (fx_i (fx_i (fx_r M) (by decide)) (by decide)) (by decide)) (by decide), rfl⟩
set_option maxRecDepth 100000 in
theorem sf_x02 {P : am_Q} {X : am_X} (hX : am_K d false nm_X9_multiply P X) (h : M.1 83 11 = nI 0) (hs : M.1 96 0 = nI 0) (hK : ∀ l3 l4 l5 l6 l7, X 126 [some (aR 83), some (aI 0), some (aI 2), l3, l4, l5, l6, l7] [] M) : ∀ (m x : Nat) (l4 l5 : Option am_V), x + m = 256 → X 12 [some (aR 83), some (aI 0), some (aI 2), some (aI (nI x)), l4, l5, none, none] [] M := by
  intro m
  induction m with
  | zero =>
    intro x l4 l5 hx
    have hx : x = 256 := by omega
    subst hx
    refine am_run hX 3 _ _ _ _ ?_
    conv => whnf
    exact ⟨fun _ => hK _ _ _ _ _, fun c => absurd (by decide) c⟩
  | succ m ih =>
    intro x l4 l5 hx
    refine am_run hX 3 _ _ _ _ ?_
    conv => whnf
    refine ⟨fun c => absurd c (nI_ge (b := 256) (by omega) (by decide)), fun _ => ?_⟩
    refine am_run hX 4 _ _ _ _ ?_
    conv => whnf
    rw [h]
    refine ⟨fun c => absurd c (by decide), fun _ => ?_⟩
    refine am_run hX 10 _ _ _ _ ?_
    conv => whnf
    refine ⟨vp_in_nI (n := 0) (N := 3) (by decide) (by decide), ?_⟩
    conv => whnf
    rw [show M.1 96 (Int32.toNatClampNeg 0) = nI 0 from hs]
    refine ⟨fun _ => ?_, fun c => absurd (by decide) c⟩
    refine am_run hX 2 _ _ _ _ ?_
    conv => whnf
    refine ⟨fun _ => ?_, fun c => absurd rfl c⟩
    refine am_run hX 2 _ _ _ _ ?_
    conv => whnf
    rw [nI_1]
    exact ih (x + 1) _ _ (by omega)
set_option maxRecDepth 100000 in
theorem sf_mul02 {s : Nat} (hl : M.1 96 0 = nI 0) (hs : M.1 96 2 = nI s) (s1 : s ≤ 150) (hr : M.1 84 2 = nI 2) : am_M (d + 3) false nm_X9_multiply [aR 83, aI 0, aI 2] M (fun r M' => r = .inl (some (aI (nI 1))) ∧ fxM M M' ∧ M'.1 96 0 = nI 0) := by
  refine ⟨rfl, rfl, rfl, fun X hX => am_run hX 8 _ _ _ _ ?_⟩
  conv => whnf
  refine am_cq (sf_ff2 hs s1 hr) (fun r M' z => ?_)
  obtain ⟨rfl, f, rfl⟩ := z
  refine ⟨_, rfl, ?_⟩
  conv => whnf
  refine sf_x02 hX rfl (by rw [mm_ne _ _ _ _ (by decide), mm_ne _ _ _ _ (by decide)]; exact hl) (fun l3 l4 l5 l6 l7 => ?_) 256 0 none none (by omega)
  refine am_run hX 40 _ _ _ _ ?_
  conv => whnf
  refine ⟨vp_in_nI (n := 0) (N := 3) (by decide) (by decide), ?_⟩
  conv => whnf
  refine ⟨vp_in_nI (n := 2) (N := 3) (by decide) (by decide), ?_⟩
  conv => whnf
  refine am_c1 (sf_set0 rfl) ?_
  conv => whnf
  exact ⟨rfl, rfl, fx_i (fx_i (fx_i (fx_i (fx_r M) (by decide)) (by decide)) (by decide)) (by decide), rfl⟩
end SMF
