/-! THE REFERENCE'S place, whole -/
def plM (M : mm_M) (p s k : Nat) : mm_M := mm_i (mm_i (mm_i (mm_i M 143 (ins (M.1 143) p s (nI k))) 144 (ins (M.1 144) p s (M.2 146 k).toInt32)) 145 (ins (M.1 145) p s (M.2 147 k).toInt32)) 141 (upd (M.1 141) 0 (nI (s + 1)))
theorem plM_e {M : mm_M} {p s k : Nat} : mm_i (mm_i (mm_i (mm_i (pM M p s) 143 (upd ((pM M p s).1 143) p (nI k))) 144 (upd ((pM M p s).1 144) p (M.2 146 k).toInt32)) 145 (upd ((pM M p s).1 145) p (M.2 147 k).toInt32)) 141 (upd (M.1 141) 0 (nI (s + 1))) = plM M p s k := by
  refine Prod.ext (funext fun j => ?_) rfl
  by_cases h1 : j = 143
  · subst h1; rfl
  · by_cases h2 : j = 144
    · subst h2; rfl
    · by_cases h3 : j = 145
      · subst h3; rfl
      · by_cases h4 : j = 141
        · subst h4; rfl
        · simp [plM, pM, mm_i, h1, h2, h3, h4]
section PLD
variable {d : Nat} {M : mm_M}
set_option maxRecDepth 100000 in
theorem ct_place {κ : Nat → Nat} {k p s : Nat} (hs : s < 150) (hk : k < 65536) (hp : p ≤ s) (h41 : M.1 141 0 = nI s) (hκ : ∀ j, j < s → M.1 143 j = nI (κ j) ∧ κ j < 65536) (hlo : ∀ j, j < p → κ j ≤ k) (hhi : ∀ j, p ≤ j → j < s → k < κ j) : am_M (d + 1) false nm_X12_place [aR 108, aI (nI k)] M (am_q0 (plM M p s k)) := by
  have h0 : vp_in 0 2 := vp_in_nI (n := 0) (N := 2) (by decide) (by decide)
  have hin : vp_in (nI p) 300 := vp_in_nI (by omega) (by decide)
  have hik : vp_in (nI k) 65536 := vp_in_nI hk (by decide)
  refine ⟨rfl, rfl, rfl, fun X hX => am_run hX 5 _ _ _ _ ?_⟩
  conv => whnf
  refine ⟨h0, ?_⟩
  conv => whnf
  rw [show M.1 141 (Int32.toNatClampNeg 0) = nI s from h41]
  have key := pl_l (M := M) (s := s) hX hs hk hκ hlo hhi (by
    refine am_run hX 40 _ _ _ _ ?_
    conv => whnf
    refine ⟨hin, ?_⟩
    conv => whnf
    refine ⟨hik, ?_⟩
    conv => whnf
    refine ⟨hin, ?_⟩
    conv => whnf
    refine ⟨hik, ?_⟩
    conv => whnf
    refine ⟨hin, ?_⟩
    conv => whnf
    refine ⟨h0, ?_⟩
    conv => whnf
    refine ⟨h0, ?_⟩
    conv => whnf
    refine ⟨trivial, rfl, ?_⟩
    rw [nI_clamp (n := p) (by omega), nI_clamp (n := k) (by omega), c0_0, ← plM_e, ← nI_1, ← h41]
    rfl) (s - p) s (by omega) (Nat.le_refl _)
  rw [pM_0] at key
  exact key
end PLD
