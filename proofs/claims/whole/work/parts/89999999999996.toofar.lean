/-! THE CLASS'S isTooFar, setTerm of the third row -/
section TFR
variable {d : Nat} {M : mm_M}
set_option maxRecDepth 100000 in
theorem ct_tooFar {x s h m : Nat} (hx : x < 3) (hs : M.1 96 x = nI s) (hh : M.1 97 x = nI h) (s2 : s ≤ 150) (hm : h ≤ m) (m2 : m < 2 ^ 30) : am_M (d + 1) false nm_X9_isTooFar [aR 83, aI (nI x), aI (nI m)] M (am_q1 (aI (b01 (decide (0 < s ∧ 40 < m - h)))) M) := by
  have hin : vp_in (nI x) 3 := vp_in_nI hx (by decide)
  refine ⟨rfl, rfl, rfl, fun X hX => am_run hX 30 _ _ _ _ ?_⟩
  conv => whnf
  refine ⟨hin, ?_⟩
  conv => whnf
  rw [nI_clamp (n := x) (by omega), hs]
  by_cases h0 : 0 < s
  · refine ⟨fun c => absurd c (nI_ge (a := 0) (b := s) h0 (by omega)), fun _ => ?_⟩
    conv => whnf
    refine ⟨hin, ?_⟩
    conv => whnf
    rw [nI_clamp (n := x) (by omega), hh, nI_sub hm]
    by_cases h4 : 40 < m - h
    · refine ⟨fun c => absurd c (nI_ge (a := 40) (b := m - h) h4 (by omega)), fun _ => ?_⟩
      conv => whnf
      rw [decide_eq_true ⟨h0, h4⟩]
      exact ⟨rfl, rfl, rfl⟩
    · refine ⟨fun _ => ?_, fun c => absurd (nI_le (a := m - h) (b := 40) (by omega) (by decide)) c⟩
      conv => whnf
      rw [decide_eq_false (fun z => h4 z.2)]
      exact ⟨rfl, rfl, rfl⟩
  · have e : s = 0 := by omega
    rw [decide_eq_false (fun z => h0 z.1), e]
    refine ⟨fun _ => ?_, fun c => absurd (by decide) c⟩
    conv => whnf
    exact ⟨rfl, rfl, rfl⟩
end TFR
