/-! circuits behind least: the invariant stays -/
section BKO
variable {M : mm_M} {n k : Nat} {F : Nat → Int32} {Z : Nat → bk_X} {f p f2 l : Nat → Int32}
theorem le_c {c : Nat} (hc : 9 ≤ c ∧ c ≤ 12) : (leM M n k F Z f p f2 l).1 c = (kpM (drM (mm_i (mm_i M 78 f) 73 p) F k) n k 3).1 c := by
  unfold leM stM
  rw [mm_ne _ _ _ _ (by omega), mm_ne _ _ _ _ (by omega), mm_ne _ _ _ _ (by omega), ly_r _ _ _ _ _ (by omega) (by omega)]
  unfold faM th0
  rw [mm_ne _ _ _ _ (by omega), mm_ne _ _ _ _ (by omega), mm_ne _ _ _ _ (by omega), mm_ne _ _ _ _ (by omega)]
theorem le_b {c : Nat} (h1 : c ≠ 13) (h2 : c ≠ 9) (h3 : c ≠ 73) (h4 : c ≠ 78) : (drM (mm_i (mm_i M 78 f) 73 p) F k).1 c = M.1 c := by
  rw [dr_r _ _ _ h1 h2, mm_ne _ _ _ _ h3, mm_ne _ _ _ _ h4]
theorem le_u {c : Nat} (hc : 109 ≤ c ∧ c ≤ 117) : (faM (th0 (kpM (drM (mm_i (mm_i M 78 f) 73 p) F k) n k 3)) f2 l).1 c = M.1 c := by
  unfold faM th0
  rw [mm_ne _ _ _ _ (by omega), mm_ne _ _ _ _ (by omega), mm_ne _ _ _ _ (by omega), mm_ne _ _ _ _ (by omega), kp_r _ _ _ _ (by omega), le_b (by omega) (by omega) (by omega) (by omega)]
theorem le_110 : (leM M n k F Z f p f2 l).1 110 = upd (M.1 110) n (nI 3) := by
  unfold leM stM
  rw [mm_ne _ _ _ _ (by decide), mm_ne _ _ _ _ (by decide), mm_i1, ly_r _ _ _ _ _ (by decide) (by decide), le_u (by decide)]
theorem le_111 : (leM M n k F Z f p f2 l).1 111 = upd (M.1 111) n (nI k) := by
  unfold leM stM
  rw [mm_ne _ _ _ _ (by decide), mm_i1, ly_r _ _ _ _ _ (by decide) (by decide), ly_108, le_u (by decide)]
  rfl
theorem le_112 : (leM M n k F Z f p f2 l).1 112 = lwR (M.1 112) (fun j => nI (Z j).1) (300 * n) k := by
  unfold leM stM
  rw [mm_ne _ _ _ _ (by decide), mm_ne _ _ _ _ (by decide), mm_ne _ _ _ _ (by decide), ly_112, le_u (by decide)]
theorem le_113 : (leM M n k F Z f p f2 l).1 113 = lwR (M.1 113) (fun j => nI (Z j).2.1) (300 * n) k := by
  unfold leM stM
  rw [mm_ne _ _ _ _ (by decide), mm_ne _ _ _ _ (by decide), mm_ne _ _ _ _ (by decide), ly_113, le_u (by decide)]
theorem le_114 : (leM M n k F Z f p f2 l).1 114 = lwR (M.1 114) (fun j => nI (Z j).2.2.1) (300 * n) k := by
  unfold leM stM
  rw [mm_ne _ _ _ _ (by decide), mm_ne _ _ _ _ (by decide), mm_ne _ _ _ _ (by decide), ly_114, le_u (by decide)]
theorem le_115 : (leM M n k F Z f p f2 l).1 115 = lwR (M.1 115) (fun j => nI (Z j).2.2.2.1) (300 * n) k := by
  unfold leM stM
  rw [mm_ne _ _ _ _ (by decide), mm_ne _ _ _ _ (by decide), mm_ne _ _ _ _ (by decide), ly_115, le_u (by decide)]
theorem le_116 : (leM M n k F Z f p f2 l).1 116 = lwR (M.1 116) (fun j => nI (Z j).2.2.2.2.1) (300 * n) k := by
  unfold leM stM
  rw [mm_ne _ _ _ _ (by decide), mm_ne _ _ _ _ (by decide), mm_ne _ _ _ _ (by decide), ly_116, le_u (by decide)]
theorem le_117 : (leM M n k F Z f p f2 l).1 117 = lwR (M.1 117) (fun j => nI (Z j).2.2.2.2.2) (300 * n) k := by
  unfold leM stM
  rw [mm_ne _ _ _ _ (by decide), mm_ne _ _ _ _ (by decide), mm_ne _ _ _ _ (by decide), ly_117, le_u (by decide)]
theorem bk_le (h : bk_iv M n) (hn : n < 20) (k8 : k ≤ 8) (hw : ∀ j, j < k → F j = nI (bk_p (Z j)) ∧ bk_w 3 (Z j)) : bk_iv (leM M n k F Z f p f2 l) (n + 1) := by
  obtain ⟨h1, h2, h3, h4⟩ := h
  refine ⟨by omega, ?_, ?_, fun i hi => ?_⟩
  · rw [le_c ⟨by decide, by decide⟩]
    unfold kpM
    rw [mm_i1]
    exact up_at
  · unfold leM stM
    rw [mm_i1]
    exact up_at
  · by_cases e : i = n
    · subst e
      refine ⟨3, k, by decide, by decide, by omega, ?_, ?_, ?_, ?_, fun j hj => ⟨Z j, (hw j hj).2, ?_⟩⟩
      · rw [le_c ⟨by decide, by decide⟩, kp_12]; exact up_at
      · rw [le_110]; exact up_at
      · rw [le_c ⟨by decide, by decide⟩, kp_11u]; exact up_at
      · rw [le_111]; exact up_at
      · unfold bk_o
        have q : 300 * i ≤ 300 * i + j ∧ 300 * i + j < 300 * i + k := by omega
        refine ⟨?_, ?_, ?_, ?_, ?_, ?_, ?_⟩
        · rw [le_c ⟨by decide, by decide⟩, kp_10u]
          unfold va_cpy
          rw [if_pos q, dr_13, show 0 + (300 * i + j - 300 * i) = j by omega, ← (hw j hj).1]
          exact if_pos hj
        · rw [le_112]
          unfold lwR
          rw [if_pos q, show 300 * i + j - 300 * i = j by omega]
        · rw [le_113]
          unfold lwR
          rw [if_pos q, show 300 * i + j - 300 * i = j by omega]
        · rw [le_114]
          unfold lwR
          rw [if_pos q, show 300 * i + j - 300 * i = j by omega]
        · rw [le_115]
          unfold lwR
          rw [if_pos q, show 300 * i + j - 300 * i = j by omega]
        · rw [le_116]
          unfold lwR
          rw [if_pos q, show 300 * i + j - 300 * i = j by omega]
        · rw [le_117]
          unfold lwR
          rw [if_pos q, show 300 * i + j - 300 * i = j by omega]
    · have il : i < n := by omega
      have ⟨V, S, k1, k2, k3, k4, k5, k6, k7, k8⟩ := h4 i il
      refine ⟨V, S, k1, k2, k3, ?_, ?_, ?_, ?_, fun j hj => ?_⟩
      · rw [le_c ⟨by decide, by decide⟩, kp_12, up_ne e, le_b (by decide) (by decide) (by decide) (by decide)]; exact k4
      · rw [le_110, up_ne e]; exact k5
      · rw [le_c ⟨by decide, by decide⟩, kp_11u, up_ne e, le_b (by decide) (by decide) (by decide) (by decide)]; exact k6
      · rw [le_111, up_ne e]; exact k7
      · have ⟨x, wx, o1, o2, o3, o4, o5, o6, o7⟩ := k8 j hj
        have q : ¬ (300 * n ≤ 300 * i + j ∧ 300 * i + j < 300 * n + k) := by omega
        refine ⟨x, wx, ?_, ?_, ?_, ?_, ?_, ?_, ?_⟩
        · rw [le_c ⟨by decide, by decide⟩, kp_10u]
          unfold va_cpy
          rw [if_neg q, le_b (by decide) (by decide) (by decide) (by decide)]; exact o1
        · rw [le_112]
          unfold lwR
          rw [if_neg q]; exact o2
        · rw [le_113]
          unfold lwR
          rw [if_neg q]; exact o3
        · rw [le_114]
          unfold lwR
          rw [if_neg q]; exact o4
        · rw [le_115]
          unfold lwR
          rw [if_neg q]; exact o5
        · rw [le_116]
          unfold lwR
          rw [if_neg q]; exact o6
        · rw [le_117]
          unfold lwR
          rw [if_neg q]; exact o7
/-- what least has learnt stays learnt -/
theorem le_tt {T : Nat → Nat} (ht : trr f T) (hl : tl T) : le_t (leM M n k F Z f p f2 l) := by
  refine .inr ⟨T, ?_, hl⟩
  have e : (leM M n k F Z f p f2 l).1 78 = f := by
    unfold leM stM
    rw [mm_ne _ _ _ _ (by decide), mm_ne _ _ _ _ (by decide), mm_ne _ _ _ _ (by decide), ly_r _ _ _ _ _ (by decide) (by decide)]
    unfold faM th0
    rw [mm_ne _ _ _ _ (by decide), mm_ne _ _ _ _ (by decide), mm_ne _ _ _ _ (by decide), mm_ne _ _ _ _ (by decide), kp_r _ _ _ _ (by decide), dr_r _ _ _ (by decide) (by decide), mm_ne _ _ _ _ (by decide), mm_i1]
  rw [e]; exact ht
theorem le_ff (hf : ∀ p, isP p → f2 (rkN p) = nI (dp p)) : le_f (leM M n k F Z f p f2 l) := by
  refine .inr ⟨?_, fun q hq => ?_⟩
  · unfold leM stM
    rw [mm_i1, up_ne (by decide), ly_108]
    unfold faM
    rw [mm_ne _ _ _ _ (by decide), mm_ne _ _ _ _ (by decide), mm_i1]
    rfl
  · have e : (leM M n k F Z f p f2 l).1 193 = f2 := by
      unfold leM stM
      rw [mm_ne _ _ _ _ (by decide), mm_ne _ _ _ _ (by decide), mm_ne _ _ _ _ (by decide), ly_r _ _ _ _ _ (by decide) (by decide), fa_3]
    rw [e]; exact hf q hq
end BKO
