/-! WHAT THE CLASS FINDS of a SUM: find, fits, allFit, allEven -/
def fF (M : mm_M) (n : Nat) (q : Nat → Int32) (f g : Nat → Int64) : mm_M := mm_l (mm_l (mm_i (mm_i M 83 (upd (M.1 83) 11 (nI n))) 98 q) 99 f) 100 g
def e1J (u v : Int64) : Bool := decide ((u ||| v) &&& 1 = 0)
section FND
variable {d n : Nat} {M : mm_M} {q : Nat → Int32} {f g : Nat → Int64}
theorem fF_q {q' : Nat → Int32} : mm_i (fF M n q f g) 98 q' = fF M n q' f g := by
  refine Prod.ext (funext fun k => ?_) rfl
  by_cases h : k = 98
  · subst h; rfl
  · simp [fF, mm_i, mm_l, h]
theorem fF_f {f' : Nat → Int64} : mm_l (fF M n q f g) 99 f' = fF M n q f' g := by
  refine Prod.ext rfl (funext fun k => ?_)
  by_cases h : k = 99
  · subst h; rfl
  · simp [fF, mm_i, mm_l, h]
theorem fF_g {g' : Nat → Int64} : mm_l (fF M n q f g) 100 g' = fF M n q f g' := by
  refine Prod.ext rfl (funext fun k => ?_)
  by_cases h : k = 100
  · subst h; rfl
  · simp [fF, mm_i, mm_l, h]
theorem fF_83 : (fF M n q f g).1 83 = upd (M.1 83) 11 (nI n) := rfl
theorem fF_n {n' : Nat} : mm_i (fF M n q f g) 83 (upd ((fF M n q f g).1 83) 11 (nI n')) = fF M n' q f g := by
  refine Prod.ext (funext fun k => ?_) rfl
  by_cases h : k = 83
  · subst h
    rw [fF_83, upd_two]
    rfl
  · simp [fF, mm_i, mm_l, h]
set_option maxRecDepth 100000 in
theorem ct_find0 {k : Int32} {p r : Int64} (h : p ||| r = 0) : am_M (d + 1) false nm_X9_find [aR 83, aI k, aJ p, aJ r] M (am_q0 M) := by
  refine ⟨rfl, rfl, rfl, fun X hX => am_run hX 60 _ _ _ _ ?_⟩
  conv => whnf
  rw [lg_0]
  refine ⟨fun c => absurd h c, fun _ => ?_⟩
  conv => whnf
  exact ⟨trivial, rfl, rfl⟩
set_option maxRecDepth 100000 in
theorem ct_find1 {k : Int32} {p r : Int64} (h : ¬ p ||| r = 0) (hn : n < 150) : am_M (d + 1) false nm_X9_find [aR 83, aI k, aJ p, aJ r] (fF M n q f g) (am_q0 (fF M (n + 1) (upd q n k) (vp_updL f n p) (vp_updL g n r))) := by
  have hin : vp_in (nI n) 150 := vp_in_nI hn (by decide)
  have e : ∀ q' f' g', (fF M n q' f' g').1 83 11 = nI n := fun _ _ _ => rfl
  refine ⟨rfl, rfl, rfl, fun X hX => am_run hX 60 _ _ _ _ ?_⟩
  conv => whnf
  rw [lg_0]
  refine ⟨fun _ => ?_, fun c => absurd h c⟩
  conv => whnf
  rw [e]
  refine ⟨fun c => absurd c (nI_ge (a := n) (b := 150) hn (by decide)), fun _ => ?_⟩
  conv => whnf
  rw [e]
  refine ⟨hin, ?_⟩
  conv => whnf
  rw [nI_clamp (n := n) (by omega), fF_q, e]
  refine ⟨hin, ?_⟩
  conv => whnf
  rw [nI_clamp (n := n) (by omega), fF_f, e]
  refine ⟨hin, ?_⟩
  conv => whnf
  rw [nI_clamp (n := n) (by omega), fF_g, e, nI_1, fF_n]
  exact ⟨trivial, rfl, rfl⟩
set_option maxRecDepth 100000 in
theorem ct_find2 {k : Int32} {p r : Int64} (h : ¬ p ||| r = 0) (hn : 150 ≤ n) (hn2 : n < 2 ^ 30) : am_M (d + 1) false nm_X9_find [aR 83, aI k, aJ p, aJ r] (fF M n q f g) (am_q0 (fF M (n + 1) q f g)) := by
  have e : ∀ q' f' g', (fF M n q' f' g').1 83 11 = nI n := fun _ _ _ => rfl
  refine ⟨rfl, rfl, rfl, fun X hX => am_run hX 60 _ _ _ _ ?_⟩
  conv => whnf
  rw [lg_0]
  refine ⟨fun _ => ?_, fun c => absurd h c⟩
  conv => whnf
  rw [e]
  refine ⟨fun _ => ?_, fun c => absurd (nI_le (a := 150) (b := n) hn (by omega)) c⟩
  conv => whnf
  rw [e, nI_1, fF_n]
  exact ⟨trivial, rfl, rfl⟩
set_option maxRecDepth 100000 in
theorem ct_fits {v : Int64} : am_M (d + 1) false nm_X9_fits [aJ v] M (am_q1 (aI (b01 (smJ v))) M) := by
  refine ⟨rfl, rfl, rfl, fun X hX => am_run hX 20 _ _ _ _ ?_⟩
  conv => whnf
  rw [lg_lt]
  refine ⟨fun c => ?_, fun c => ?_⟩
  · conv => whnf
    rw [show smJ v = false from decide_eq_false fun z => z.1 c]
    exact ⟨rfl, rfl, rfl⟩
  · conv => whnf
    rw [lg_gt]
    refine ⟨fun c2 => ?_, fun c2 => ?_⟩
    · conv => whnf
      rw [show smJ v = false from decide_eq_false fun z => z.2 c2]
      exact ⟨rfl, rfl, rfl⟩
    · conv => whnf
      rw [show smJ v = true from decide_eq_true ⟨c, c2⟩]
      exact ⟨rfl, rfl, rfl⟩
set_option maxRecDepth 100000 in
theorem af_l {P : am_Q} {X : am_X} (hX : am_K (d + 1) false nm_X9_allFit P X) (hn : n ≤ 150) (hP : P (.inl (some (aI (b01 (allN (fun j => smJ (f j) && smJ (g j)) n))))) (fF M n q f g)) : ∀ m i, i + m = n → allN (fun j => smJ (f j) && smJ (g j)) i = true → X 2 [some (aR 83), some (aI (nI n)), some (aI (nI i))] [] (fF M n q f g) := by
  intro m
  induction m with
  | zero =>
    intro i hi ha
    have hi : i = n := by omega
    subst hi
    refine am_run hX 20 _ _ _ _ ?_
    conv => whnf
    refine ⟨fun _ => ?_, fun c => absurd (nI_le (by omega) (by omega)) c⟩
    conv => whnf
    rw [ha] at hP
    exact ⟨rfl, hP⟩
  | succ m ih =>
    intro i hi ha
    have hin : vp_in (nI i) 150 := vp_in_nI (by omega) (by decide)
    have ih := ih (i + 1) (by omega)
    have hno : (smJ (f i) && smJ (g i)) = false → P (.inl (some (aI 0))) (fF M n q f g) := fun z => by
      rw [all_f (p := fun j => smJ (f j) && smJ (g j)) (i := i) (by omega) z] at hP
      exact hP
    refine am_run hX 3 _ _ _ _ ?_
    conv => whnf
    refine ⟨fun c => absurd c (nI_ge (by omega) (by omega)), fun _ => ?_⟩
    refine am_run hX 6 _ _ _ _ ?_
    conv => whnf
    refine ⟨hin, ?_⟩
    conv => whnf
    rw [nI_clamp (n := i) (by omega), show (fF M n q f g).2 99 i = f i from rfl]
    refine am_c1 (ct_fits (d := d)) ?_
    cases hs : smJ (f i) with
    | false =>
      conv => whnf
      refine ⟨fun _ => ?_, fun c => absurd rfl c⟩
      refine am_run hX 3 _ _ _ _ ?_
      conv => whnf
      exact ⟨rfl, hno (by rw [hs]; rfl)⟩
    | true =>
      conv => whnf
      refine ⟨fun c => absurd c (by decide), fun _ => ?_⟩
      refine am_run hX 6 _ _ _ _ ?_
      conv => whnf
      refine ⟨hin, ?_⟩
      conv => whnf
      rw [nI_clamp (n := i) (by omega), show (fF M n q f g).2 100 i = g i from rfl]
      refine am_c1 (ct_fits (d := d)) ?_
      cases hs2 : smJ (g i) with
      | false =>
        conv => whnf
        refine ⟨fun c => absurd rfl c, fun _ => ?_⟩
        refine am_run hX 3 _ _ _ _ ?_
        conv => whnf
        exact ⟨rfl, hno (by rw [hs, hs2]; rfl)⟩
      | true =>
        conv => whnf
        refine ⟨fun _ => ?_, fun c => absurd (by decide) c⟩
        refine am_run hX 2 _ _ _ _ ?_
        conv => whnf
        rw [nI_1]
        exact ih (by simp only [allN]; rw [ha, hs, hs2]; rfl)
set_option maxRecDepth 100000 in
theorem ct_allFit (hn : n ≤ 150) : am_M (d + 2) false nm_X9_allFit [aR 83, aI (nI n)] (fF M n q f g) (am_q1 (aI (b01 (allN (fun j => smJ (f j) && smJ (g j)) n))) (fF M n q f g)) := by
  refine ⟨rfl, rfl, rfl, fun X hX => am_run hX 2 _ _ _ _ ?_⟩
  conv => whnf
  exact af_l hX hn ⟨rfl, rfl⟩ n 0 (by omega) rfl
set_option maxRecDepth 100000 in
theorem ae_l {P : am_Q} {X : am_X} (hX : am_K d false nm_X9_allEven P X) (hn : n ≤ 150) (hP : P (.inl (some (aI (b01 (allN (fun j => e1J (f j) (g j)) n))))) (fF M n q f g)) : ∀ m i, i + m = n → allN (fun j => e1J (f j) (g j)) i = true → X 2 [some (aR 83), some (aI (nI n)), some (aI (nI i))] [] (fF M n q f g) := by
  intro m
  induction m with
  | zero =>
    intro i hi ha
    have hi : i = n := by omega
    subst hi
    refine am_run hX 20 _ _ _ _ ?_
    conv => whnf
    refine ⟨fun _ => ?_, fun c => absurd (nI_le (by omega) (by omega)) c⟩
    conv => whnf
    rw [ha] at hP
    exact ⟨rfl, hP⟩
  | succ m ih =>
    intro i hi ha
    have hin : vp_in (nI i) 150 := vp_in_nI (by omega) (by decide)
    have ih := ih (i + 1) (by omega)
    refine am_run hX 3 _ _ _ _ ?_
    conv => whnf
    refine ⟨fun c => absurd c (nI_ge (by omega) (by omega)), fun _ => ?_⟩
    refine am_run hX 14 _ _ _ _ ?_
    conv => whnf
    refine ⟨hin, ?_⟩
    conv => whnf
    refine ⟨hin, ?_⟩
    conv => whnf
    rw [nI_clamp (n := i) (by omega), show (fF M n q f g).2 99 i = f i from rfl, show (fF M n q f g).2 100 i = g i from rfl, lg_0]
    refine ⟨fun c => ?_, fun c => ?_⟩
    · refine am_run hX 2 _ _ _ _ ?_
      conv => whnf
      rw [nI_1]
      exact ih (by simp only [allN]; rw [ha, show e1J (f i) (g i) = true from decide_eq_true c]; rfl)
    · refine am_run hX 3 _ _ _ _ ?_
      conv => whnf
      rw [all_f (p := fun j => e1J (f j) (g j)) (i := i) (by omega) (decide_eq_false c)] at hP
      exact ⟨rfl, hP⟩
set_option maxRecDepth 100000 in
theorem ct_allEven (hn : n ≤ 150) : am_M (d + 1) false nm_X9_allEven [aR 83, aI (nI n)] (fF M n q f g) (am_q1 (aI (b01 (allN (fun j => e1J (f j) (g j)) n))) (fF M n q f g)) := by
  refine ⟨rfl, rfl, rfl, fun X hX => am_run hX 2 _ _ _ _ ?_⟩
  conv => whnf
  exact ae_l hX hn ⟨rfl, rfl⟩ n 0 (by omega) rfl
end FND
