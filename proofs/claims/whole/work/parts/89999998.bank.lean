/-! circuits where nothing new is kept: the invariant stays -/
section BKM
variable {M : mm_M} {n : Nat} {K : List bk_X}
theorem bk_A (h : bk_iv M n) : bk_iv (bkA M K) n := bk_th (bk_dl K h)
theorem bk_ll (h : bk_iv M n) : bk_iv (llM M n K) n := by
  obtain ⟨h1, h2, h3, h4⟩ := h
  refine ⟨h1, by rw [ll_r _ _ _ (by decide) (by decide)]; exact h2, by rw [ll_108]; exact h3, fun i hi => ?_⟩
  have ⟨V, S, k1, k2, k3, k4, k5, k6, k7, k8⟩ := h4 i hi
  refine ⟨V, S, k1, k2, k3, ?_, ?_, ?_, ?_, fun j hj => ?_⟩
  · rw [ll_r _ _ _ (by decide) (by decide)]; exact k4
  · rw [ll_r _ _ _ (by decide) (by decide)]; exact k5
  · rw [ll_r _ _ _ (by decide) (by decide)]; exact k6
  · rw [ll_r _ _ _ (by decide) (by decide)]; exact k7
  · have ⟨x, wx, o1, o2, o3, o4, o5, o6, o7⟩ := k8 j hj
    have ab : 300 * i + j < 300 * n := by omega
    exact ⟨x, wx, by rw [ll_r _ _ _ (by decide) (by decide)]; exact o1, by rw [ll_112 _ _ ab]; exact o2, by rw [ll_113 _ _ ab]; exact o3, by rw [ll_114 _ _ ab]; exact o4, by rw [ll_115 _ _ ab]; exact o5, by rw [ll_116 _ _ ab]; exact o6, by rw [ll_117 _ _ ab]; exact o7⟩
theorem bk_B (h : bk_iv M n) : bk_iv (bkB M n K) n := bk_ll (bk_A h)
end BKM
