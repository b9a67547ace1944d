/-! THE REFERENCE'S WORK ROW of SUMS: work, clearWork -/
def wF (M : mm_M) (n : Nat) (q t : Nat → Int32) (f g : Nat → Int64) : mm_M := mm_l (mm_l (mm_i (mm_i (mm_i M 108 (upd (M.1 108) 64 (nI n))) 148 t) 149 q) 146 f) 147 g
section WRK
variable {d n : Nat} {M : mm_M} {q t : Nat → Int32} {f g : Nat → Int64}
theorem wF_t {t' : Nat → Int32} : mm_i (wF M n q t f g) 148 t' = wF M n q t' f g := by
  refine Prod.ext (funext fun k => ?_) rfl
  by_cases h : k = 148
  · subst h; rfl
  · simp [wF, mm_i, mm_l, h]
theorem wF_q {q' : Nat → Int32} : mm_i (wF M n q t f g) 149 q' = wF M n q' t f g := by
  refine Prod.ext (funext fun k => ?_) rfl
  by_cases h : k = 149
  · subst h; rfl
  · simp [wF, mm_i, mm_l, h]
theorem wF_f {f' : Nat → Int64} : mm_l (wF M n q t f g) 146 f' = wF M n q t f' g := by
  refine Prod.ext rfl (funext fun k => ?_)
  by_cases h : k = 146
  · subst h; rfl
  · simp [wF, mm_i, mm_l, h]
theorem wF_g {g' : Nat → Int64} : mm_l (wF M n q t f g) 147 g' = wF M n q t f g' := by
  refine Prod.ext rfl (funext fun k => ?_)
  by_cases h : k = 147
  · subst h; rfl
  · simp [wF, mm_i, mm_l, h]
theorem wF_108 : (wF M n q t f g).1 108 = upd (M.1 108) 64 (nI n) := rfl
theorem wF_n {n' : Nat} : mm_i (wF M n q t f g) 108 (upd ((wF M n q t f g).1 108) 64 (nI n')) = wF M n' q t f g := by
  refine Prod.ext (funext fun k => ?_) rfl
  by_cases h : k = 108
  · subst h
    rw [wF_108, upd_two]
    rfl
  · simp [wF, mm_i, mm_l, h]
set_option maxRecDepth 100000 in
theorem ct_work1 {k : Nat} {p r : Int64} (hk : k < 65536) (ht : t k = 1) : am_M (d + 1) false nm_X12_work [aR 108, aI (nI k), aJ p, aJ r] (wF M n q t f g) (am_q0 (wF M n q t (vp_updL f k (f k + p)) (vp_updL g k (g k + r)))) := by
  have hin : vp_in (nI k) 65536 := vp_in_nI hk (by decide)
  refine ⟨rfl, rfl, rfl, fun X hX => am_run hX 60 _ _ _ _ ?_⟩
  conv => whnf
  refine ⟨hin, ?_⟩
  conv => whnf
  rw [nI_clamp (n := k) (by omega), show (wF M n q t f g).1 148 k = 1 from ht]
  refine ⟨fun _ => ?_, fun c => absurd (by decide) c⟩
  conv => whnf
  iterate 4
    refine ⟨hin, ?_⟩
    conv => whnf
  refine ⟨trivial, rfl, ?_⟩
  rw [nI_clamp (n := k) (by omega), wF_f]
  exact wF_g
set_option maxRecDepth 100000 in
theorem ct_work0 {k : Nat} {p r : Int64} (hk : k < 65536) (hn : n < 22501) (ht : t k = 0) : am_M (d + 1) false nm_X12_work [aR 108, aI (nI k), aJ p, aJ r] (wF M n q t f g) (am_q0 (wF M (n + 1) (upd q n (nI k)) (upd t k 1) (vp_updL f k (f k + p)) (vp_updL g k (g k + r)))) := by
  have hin : vp_in (nI k) 65536 := vp_in_nI hk (by decide)
  have hin2 : vp_in (nI n) 22501 := vp_in_nI hn (by decide)
  refine ⟨rfl, rfl, rfl, fun X hX => am_run hX 60 _ _ _ _ ?_⟩
  conv => whnf
  refine ⟨hin, ?_⟩
  conv => whnf
  rw [nI_clamp (n := k) (by omega), show (wF M n q t f g).1 148 k = 0 from ht]
  refine ⟨fun c => absurd rfl c, fun _ => ?_⟩
  conv => whnf
  refine ⟨hin, ?_⟩
  conv => whnf
  rw [nI_clamp (n := k) (by omega), wF_t]
  rw [show ∀ t', (wF M n q t' f g).1 108 64 = nI n from fun _ => rfl]
  refine ⟨hin2, ?_⟩
  conv => whnf
  rw [nI_clamp (n := n) (by omega), wF_q, show ∀ q' t', (wF M n q' t' f g).1 108 64 = nI n from fun _ _ => rfl, nI_1, wF_n]
  iterate 4
    refine ⟨hin, ?_⟩
    conv => whnf
  refine ⟨trivial, rfl, ?_⟩
  rw [nI_clamp (n := k) (by omega), wF_f]
  exact wF_g
/-- rows that hold nothing but at the keys of q from i on -/
def clr (q t : Nat → Int32) (f g : Nat → Int64) (i n : Nat) : Prop := ∀ k, k < 65536 → (∀ j, i ≤ j → j < n → q j ≠ nI k) → t k = 0 ∧ f k = 0 ∧ g k = 0
theorem clr_s {i : Nat} {k0 : Nat} (hq : q i = nI k0) (hk0 : k0 < 65536) (hi : i < n) (h : clr q t f g i n) : clr q (upd t k0 0) (vp_updL f k0 0) (vp_updL g k0 0) (i + 1) n := by
  intro k hk hj
  unfold upd vp_updL
  by_cases e : k = k0
  · rw [if_pos e, if_pos e, if_pos e]
    exact ⟨rfl, rfl, rfl⟩
  · rw [if_neg e, if_neg e, if_neg e]
    refine h k hk fun j h1 h2 => ?_
    by_cases ej : j = i
    · rw [ej, hq]
      intro z
      exact e ((nI_eq (by omega) (by omega)).mp z).symm
    · exact hj j (by omega) h2
set_option maxRecDepth 100000 in
theorem cw_l {P : am_Q} {X : am_X} (hX : am_K d false nm_X12_clearWork P X) (hn : n ≤ 22501) (hq : ∀ j, j < n → ∃ k, k < 65536 ∧ q j = nI k) (hP : ∀ t f g, clr q t f g n n → P (.inl none) (wF M 0 q t f g)) : ∀ m i t f g, i + m = n → clr q t f g i n → X 2 [some (aR 108), some (aI (nI i))] [] (wF M n q t f g) := by
  intro m
  induction m with
  | zero =>
    intro i t f g hi hc
    have hi : i = n := by omega
    subst hi
    refine am_run hX 20 _ _ _ _ ?_
    conv => whnf
    rw [show (wF M i q t f g).1 108 64 = nI i from rfl]
    refine ⟨fun _ => ?_, fun c => absurd (nI_le (by omega) (by omega)) c⟩
    conv => whnf
    rw [show (0 : Int32) = nI 0 from rfl, wF_n]
    exact ⟨trivial, hP t f g hc⟩
  | succ m ih =>
    intro i t f g hi hc
    obtain ⟨k, hk, ek⟩ := hq i (by omega)
    have hin : vp_in (nI k) 65536 := vp_in_nI hk (by decide)
    have hin2 : vp_in (nI i) 22501 := vp_in_nI (by omega) (by decide)
    have key := ih (i + 1) _ _ _ (by omega) (clr_s ek hk (by omega) hc)
    refine am_run hX 4 _ _ _ _ ?_
    conv => whnf
    rw [show (wF M n q t f g).1 108 64 = nI n from rfl]
    refine ⟨fun c => absurd c (nI_ge (by omega) (by omega)), fun _ => ?_⟩
    refine am_run hX 26 _ _ _ _ ?_
    conv => whnf
    refine ⟨hin2, ?_⟩
    conv => whnf
    rw [nI_clamp (n := i) (by omega), show (wF M n q t f g).1 149 i = nI k from ek]
    refine ⟨hin, ?_⟩
    conv => whnf
    rw [nI_clamp (n := k) (by omega), wF_f]
    refine ⟨hin2, ?_⟩
    conv => whnf
    rw [nI_clamp (n := i) (by omega), show ∀ f', (wF M n q t f' g).1 149 i = nI k from fun _ => ek]
    refine ⟨hin, ?_⟩
    conv => whnf
    rw [nI_clamp (n := k) (by omega), wF_g]
    refine ⟨hin2, ?_⟩
    conv => whnf
    rw [nI_clamp (n := i) (by omega), show ∀ f' g', (wF M n q t f' g').1 149 i = nI k from fun _ _ => ek]
    refine ⟨hin, ?_⟩
    conv => whnf
    rw [nI_clamp (n := k) (by omega), wF_t, nI_1]
    exact key
set_option maxRecDepth 100000 in
theorem ct_clrW (hn : n ≤ 22501) (hq : ∀ j, j < n → ∃ k, k < 65536 ∧ q j = nI k) (hc : clr q t f g 0 n) : am_M (d + 1) false nm_X12_clearWork [aR 108] (wF M n q t f g) (fun r M' => r = .inl none ∧ ∃ t f g, (∀ k, k < 65536 → t k = 0 ∧ f k = 0 ∧ g k = 0) ∧ M' = wF M 0 q t f g) := by
  refine ⟨rfl, rfl, rfl, fun X hX => am_run hX 2 _ _ _ _ ?_⟩
  conv => whnf
  exact cw_l hX hn hq (fun t f g h => ⟨rfl, t, f, g, fun k hk => h k hk (fun j h1 h2 => by omega), rfl⟩) n 0 t f g (by omega) hc
end WRK
