/-! THE REFERENCE'S place: a TERM goes to its place in the SUM -/
/-- places above i, up to s, hold what stood below them -/
def shf (K : Nat → Int32) (i s : Nat) : Nat → Int32 := fun j => if i < j ∧ j ≤ s then K (j - 1) else K j
theorem shf_0 (K : Nat → Int32) (s : Nat) : shf K s s = K := by
  funext j
  unfold shf
  rw [if_neg (by omega)]
theorem shf_s {K : Nat → Int32} {i s : Nat} (h : i < s) : upd (shf K (i + 1) s) (i + 1) (shf K (i + 1) s i) = shf K i s := by
  funext j
  unfold upd shf
  by_cases e : j = i + 1
  · rw [if_pos e, if_neg (by omega), if_pos (by omega), e]
    rfl
  · rw [if_neg e]
    by_cases h2 : i + 1 < j ∧ j ≤ s
    · rw [if_pos h2, if_pos (by omega)]
    · rw [if_neg h2, if_neg (by omega)]
def ins (K : Nat → Int32) (p s : Nat) (v : Int32) : Nat → Int32 := upd (shf K p s) p v
def pM (M : mm_M) (i s : Nat) : mm_M := mm_i (mm_i (mm_i M 143 (shf (M.1 143) i s)) 144 (shf (M.1 144) i s)) 145 (shf (M.1 145) i s)
theorem pM_0 (M : mm_M) (s : Nat) : pM M s s = M := by
  unfold pM
  rw [shf_0, shf_0, shf_0]
  refine Prod.ext (funext fun k => ?_) rfl
  by_cases h1 : k = 143
  · subst h1; rfl
  · by_cases h2 : k = 144
    · subst h2; rfl
    · by_cases h3 : k = 145
      · subst h3; rfl
      · simp [mm_i, h1, h2, h3]
theorem pM_s {M : mm_M} {i s : Nat} (h : i < s) : mm_i (mm_i (mm_i (pM M (i + 1) s) 143 (upd ((pM M (i + 1) s).1 143) (i + 1) ((pM M (i + 1) s).1 143 i))) 144 (upd ((pM M (i + 1) s).1 144) (i + 1) ((pM M (i + 1) s).1 144 i))) 145 (upd ((pM M (i + 1) s).1 145) (i + 1) ((pM M (i + 1) s).1 145 i)) = pM M i s := by
  refine Prod.ext (funext fun k => ?_) rfl
  by_cases h1 : k = 143
  · subst h1; exact shf_s h
  · by_cases h2 : k = 144
    · subst h2; exact shf_s h
    · by_cases h3 : k = 145
      · subst h3; exact shf_s h
      · simp [pM, mm_i, h1, h2, h3]
section PLC
variable {d : Nat} {M : mm_M}
set_option maxRecDepth 100000 in
theorem pl_l {P : am_Q} {X : am_X} {κ : Nat → Nat} {k p s : Nat} (hX : am_K d false nm_X12_place P X) (hs : s < 150) (hk : k < 65536) (hκ : ∀ j, j < s → M.1 143 j = nI (κ j) ∧ κ j < 65536) (hlo : ∀ j, j < p → κ j ≤ k) (hhi : ∀ j, p ≤ j → j < s → k < κ j) (hK : X 71 [some (aR 108), some (aI (nI k)), some (aI (nI p))] [] (pM M p s)) : ∀ m i, i = p + m → i ≤ s → X 7 [some (aR 108), some (aI (nI k)), some (aI (nI i))] [] (pM M i s) := by
  intro m
  induction m with
  | zero =>
    intro i hi his
    have hi : i = p := by omega
    subst hi
    cases i with
    | zero =>
      refine am_run hX 2 _ _ _ _ ?_
      conv => whnf
      refine ⟨fun _ => ?_, fun c => absurd (by decide) c⟩
      exact hK
    | succ i =>
      have hin : vp_in (nI i) 300 := vp_in_nI (by omega) (by decide)
      have hl := hlo i (by omega)
      refine am_run hX 2 _ _ _ _ ?_
      conv => whnf
      refine ⟨fun c => absurd c (nI_ge (a := 0) (by omega) (by omega)), fun _ => ?_⟩
      refine am_run hX 8 _ _ _ _ ?_
      conv => whnf
      rw [show nI (i + 1) - 1 = nI i from nI_sub (a := i + 1) (b := 1) (by omega)]
      refine ⟨hin, ?_⟩
      conv => whnf
      rw [nI_clamp (n := i) (by omega), show (pM M (i + 1) s).1 143 i = nI (κ i) from by
        show shf (M.1 143) (i + 1) s i = _
        unfold shf
        rw [if_neg (by omega), (hκ i (by omega)).1]]
      refine ⟨fun _ => ?_, fun c => absurd (nI_le hl (by omega)) c⟩
      exact hK
  | succ m ih =>
    intro i hi his
    obtain ⟨i, rfl⟩ : ∃ j, i = j + 1 := ⟨i - 1, by omega⟩
    have hin : vp_in (nI i) 300 := vp_in_nI (by omega) (by decide)
    have hin2 : vp_in (nI (i + 1)) 300 := vp_in_nI (by omega) (by decide)
    have hh := hhi i (by omega) (by omega)
    have hb := (hκ i (by omega)).2
    have ih := ih i (by omega) (by omega)
    have es : nI (i + 1) - 1 = nI i := nI_sub (a := i + 1) (b := 1) (by omega)
    refine am_run hX 2 _ _ _ _ ?_
    conv => whnf
    refine ⟨fun c => absurd c (nI_ge (a := 0) (by omega) (by omega)), fun _ => ?_⟩
    refine am_run hX 8 _ _ _ _ ?_
    conv => whnf
    rw [es]
    refine ⟨hin, ?_⟩
    conv => whnf
    rw [nI_clamp (n := i) (by omega), show (pM M (i + 1) s).1 143 i = nI (κ i) from by
      show shf (M.1 143) (i + 1) s i = _
      unfold shf
      rw [if_neg (by omega), (hκ i (by omega)).1]]
    refine ⟨fun c => absurd c (nI_ge hh (by omega)), fun _ => ?_⟩
    refine am_run hX 32 _ _ _ _ ?_
    conv => whnf
    rw [es]
    iterate 6
      first
        | refine ⟨hin, ?_⟩
        | refine ⟨hin2, ?_⟩
      conv => whnf
      try rw [es]
    rw [nI_clamp (n := i) (by omega), nI_clamp (n := i + 1) (by omega), nI_d1]
    rw [← pM_s (by omega)] at ih
    exact ih
end PLC
