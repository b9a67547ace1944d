/-! circuits behind a new one: the invariant stays -/
section BKN
variable {M : mm_M} {n W : Nat} {K : List bk_X}
theorem bkC_r {c : Nat} (h1 : ¬ (9 ≤ c ∧ c ≤ 13)) (h2 : ¬ (108 ≤ c ∧ c ≤ 117)) : (bkC M n W K).1 c = M.1 c := by
  unfold bkC stM
  rw [mm_ne _ _ _ _ (by omega), mm_ne _ _ _ _ (by omega), mm_ne _ _ _ _ (by omega), ll_r _ _ _ (by omega) (by omega)]
  unfold th0
  rw [mm_ne _ _ _ _ (by omega), kp_r _ _ _ _ (by omega), dl_r _ _ (by omega) (by omega)]
/-- the cells of both banks -/
theorem bkC_c {c : Nat} (hc : 9 ≤ c ∧ c ≤ 12) : (bkC M n W K).1 c = (kpM (dlM M K) n K.length W).1 c := by
  unfold bkC stM
  rw [mm_ne _ _ _ _ (by omega), mm_ne _ _ _ _ (by omega), mm_ne _ _ _ _ (by omega), ll_r _ _ _ (by omega) (by omega)]
  unfold th0
  rw [mm_ne _ _ _ _ (by omega)]
theorem kp_12 (D : mm_M) (n k V : Nat) : (kpM D n k V).1 12 = upd (D.1 12) n (nI V) := by
  unfold kpM
  rw [mm_ne _ _ _ _ (by decide), mm_i1]
theorem kp_11u (D : mm_M) (n k V : Nat) : (kpM D n k V).1 11 = upd (D.1 11) n (nI k) := by
  unfold kpM
  rw [mm_ne _ _ _ _ (by decide), mm_ne _ _ _ _ (by decide), mm_i1]
theorem kp_10u (D : mm_M) (n k V : Nat) : (kpM D n k V).1 10 = va_cpy (D.1 13) (D.1 10) 0 (300 * n) k := by
  unfold kpM
  rw [mm_ne _ _ _ _ (by decide), mm_ne _ _ _ _ (by decide), mm_ne _ _ _ _ (by decide), mm_i1]
theorem bkC_110 : (bkC M n W K).1 110 = upd (M.1 110) n (nI W) := by
  unfold bkC stM
  rw [mm_ne _ _ _ _ (by decide), mm_ne _ _ _ _ (by decide), mm_i1, ll_r _ _ _ (by decide) (by decide)]
  unfold th0
  rw [mm_ne _ _ _ _ (by decide), kp_r _ _ _ _ (by decide), dl_r _ _ (by decide) (by decide)]
theorem bkC_111 (ok : okL K) : (bkC M n W K).1 111 = upd (M.1 111) n (nI K.length) := by
  unfold bkC stM
  rw [mm_ne _ _ _ _ (by decide), mm_i1, ll_r _ _ _ (by decide) (by decide), ll_108]
  have p := ly3_p K
  have t0 := p.2.2.2.2.1.mpr ok
  have z := (p.2.2.2.1 t0).1
  rw [show upd (upd (upd ((th0 (kpM (dlM M K) n K.length W)).1 108) 36 (nI (ly3 K).1)) 37 (nI (ly3 K).2.1)) 38 (nI (ly3 K).2.2) 36 = nI (ly3 K).1 from rfl, z]
  unfold th0
  rw [mm_ne _ _ _ _ (by decide), kp_r _ _ _ _ (by decide), dl_r _ _ (by decide) (by decide)]
theorem bkC_112 (ok : okL K) : (bkC M n W K).1 112 = lwR (M.1 112) (fun j => nI (zg K j).1) (300 * n) K.length := by
  unfold bkC stM
  rw [mm_ne _ _ _ _ (by decide), mm_ne _ _ _ _ (by decide), mm_ne _ _ _ _ (by decide)]
  have p := ly3_p K
  have t0 := p.2.2.2.2.1.mpr ok
  have z := (p.2.2.2.1 t0).1
  unfold llM lyT
  rw [mm_ne _ _ _ _ (by decide), ly_112, z]
  unfold th0
  rw [mm_ne _ _ _ _ (by decide), kp_r _ _ _ _ (by decide), dl_r _ _ (by decide) (by decide)]
theorem bkC_113 (ok : okL K) : (bkC M n W K).1 113 = lwR (M.1 113) (fun j => nI (zg K j).2.1) (300 * n) K.length := by
  unfold bkC stM
  rw [mm_ne _ _ _ _ (by decide), mm_ne _ _ _ _ (by decide), mm_ne _ _ _ _ (by decide)]
  have p := ly3_p K
  have t0 := p.2.2.2.2.1.mpr ok
  have z := (p.2.2.2.1 t0).1
  unfold llM lyT
  rw [mm_ne _ _ _ _ (by decide), ly_113, z]
  unfold th0
  rw [mm_ne _ _ _ _ (by decide), kp_r _ _ _ _ (by decide), dl_r _ _ (by decide) (by decide)]
theorem bkC_114 (ok : okL K) : (bkC M n W K).1 114 = lwR (M.1 114) (fun j => nI (zg K j).2.2.1) (300 * n) K.length := by
  unfold bkC stM
  rw [mm_ne _ _ _ _ (by decide), mm_ne _ _ _ _ (by decide), mm_ne _ _ _ _ (by decide)]
  have p := ly3_p K
  have t0 := p.2.2.2.2.1.mpr ok
  have z := (p.2.2.2.1 t0).1
  unfold llM lyT
  rw [mm_ne _ _ _ _ (by decide), ly_114, z]
  unfold th0
  rw [mm_ne _ _ _ _ (by decide), kp_r _ _ _ _ (by decide), dl_r _ _ (by decide) (by decide)]
theorem bkC_115 (ok : okL K) : (bkC M n W K).1 115 = lwR (M.1 115) (fun j => nI (zg K j).2.2.2.1) (300 * n) K.length := by
  unfold bkC stM
  rw [mm_ne _ _ _ _ (by decide), mm_ne _ _ _ _ (by decide), mm_ne _ _ _ _ (by decide)]
  have p := ly3_p K
  have t0 := p.2.2.2.2.1.mpr ok
  have z := (p.2.2.2.1 t0).1
  unfold llM lyT
  rw [mm_ne _ _ _ _ (by decide), ly_115, z]
  unfold th0
  rw [mm_ne _ _ _ _ (by decide), kp_r _ _ _ _ (by decide), dl_r _ _ (by decide) (by decide)]
theorem bkC_116 (ok : okL K) : (bkC M n W K).1 116 = lwR (M.1 116) (fun j => nI (zg K j).2.2.2.2.1) (300 * n) K.length := by
  unfold bkC stM
  rw [mm_ne _ _ _ _ (by decide), mm_ne _ _ _ _ (by decide), mm_ne _ _ _ _ (by decide)]
  have p := ly3_p K
  have t0 := p.2.2.2.2.1.mpr ok
  have z := (p.2.2.2.1 t0).1
  unfold llM lyT
  rw [mm_ne _ _ _ _ (by decide), ly_116, z]
  unfold th0
  rw [mm_ne _ _ _ _ (by decide), kp_r _ _ _ _ (by decide), dl_r _ _ (by decide) (by decide)]
theorem bkC_117 (ok : okL K) : (bkC M n W K).1 117 = lwR (M.1 117) (fun j => nI (zg K j).2.2.2.2.2) (300 * n) K.length := by
  unfold bkC stM
  rw [mm_ne _ _ _ _ (by decide), mm_ne _ _ _ _ (by decide), mm_ne _ _ _ _ (by decide)]
  have p := ly3_p K
  have t0 := p.2.2.2.2.1.mpr ok
  have z := (p.2.2.2.1 t0).1
  unfold llM lyT
  rw [mm_ne _ _ _ _ (by decide), ly_117, z]
  unfold th0
  rw [mm_ne _ _ _ _ (by decide), kp_r _ _ _ _ (by decide), dl_r _ _ (by decide) (by decide)]
theorem bk_new (h : bk_iv M n) (hn : n < 20) (ok : okL K) (w1 : 1 ≤ W) (w8 : W ≤ 8) (hw : ∀ j, j < K.length → bk_w W (zg K j)) : bk_iv (bkC M n W K) (n + 1) := by
  obtain ⟨h1, h2, h3, h4⟩ := h
  refine ⟨by omega, ?_, ?_, fun i hi => ?_⟩
  · rw [bkC_c ⟨by decide, by decide⟩]
    unfold kpM
    rw [mm_i1]
    exact up_at
  · unfold bkC stM
    rw [mm_i1]
    exact up_at
  · by_cases e : i = n
    · subst e
      refine ⟨W, K.length, w1, w8, ok.1, ?_, ?_, ?_, ?_, fun j hj => ⟨zg K j, hw j hj, ?_⟩⟩
      · rw [bkC_c ⟨by decide, by decide⟩, kp_12]; exact up_at
      · rw [bkC_110]; exact up_at
      · rw [bkC_c ⟨by decide, by decide⟩, kp_11u]; exact up_at
      · rw [bkC_111 ok]; exact up_at
      · unfold bk_o
        have q : 300 * i ≤ 300 * i + j ∧ 300 * i + j < 300 * i + K.length := by omega
        refine ⟨?_, ?_, ?_, ?_, ?_, ?_, ?_⟩
        · rw [bkC_c ⟨by decide, by decide⟩, kp_10u]
          unfold va_cpy
          rw [if_pos q, dl_13, Nat.min_eq_left ok.1, show 0 + (300 * i + j - 300 * i) = j by omega]
          exact if_pos hj
        · rw [bkC_112 ok]
          unfold lwR
          rw [if_pos q, show 300 * i + j - 300 * i = j by omega]
        · rw [bkC_113 ok]
          unfold lwR
          rw [if_pos q, show 300 * i + j - 300 * i = j by omega]
        · rw [bkC_114 ok]
          unfold lwR
          rw [if_pos q, show 300 * i + j - 300 * i = j by omega]
        · rw [bkC_115 ok]
          unfold lwR
          rw [if_pos q, show 300 * i + j - 300 * i = j by omega]
        · rw [bkC_116 ok]
          unfold lwR
          rw [if_pos q, show 300 * i + j - 300 * i = j by omega]
        · rw [bkC_117 ok]
          unfold lwR
          rw [if_pos q, show 300 * i + j - 300 * i = j by omega]
    · have il : i < n := by omega
      have ⟨V, S, k⟩ := h4 i il
      obtain ⟨k1, k2, k3, k4, k5, k6, k7, k8⟩ := k
      refine ⟨V, S, k1, k2, k3, ?_, ?_, ?_, ?_, fun j hj => ?_⟩
      · rw [bkC_c ⟨by decide, by decide⟩, kp_12, up_ne e, dl_r _ _ (by decide) (by decide)]; exact k4
      · rw [bkC_110, up_ne e]; exact k5
      · rw [bkC_c ⟨by decide, by decide⟩, kp_11u, up_ne e, dl_r _ _ (by decide) (by decide)]; exact k6
      · rw [bkC_111 ok, up_ne e]; exact k7
      · have ⟨x, wx, o1, o2, o3, o4, o5, o6, o7⟩ := k8 j hj
        have q : ¬ (300 * n ≤ 300 * i + j ∧ 300 * i + j < 300 * n + K.length) := by omega
        refine ⟨x, wx, ?_, ?_, ?_, ?_, ?_, ?_, ?_⟩
        · rw [bkC_c ⟨by decide, by decide⟩, kp_10u]
          unfold va_cpy
          rw [if_neg q, dl_r _ _ (by decide) (by decide)]; exact o1
        · rw [bkC_112 ok]
          unfold lwR
          rw [if_neg q]; exact o2
        · rw [bkC_113 ok]
          unfold lwR
          rw [if_neg q]; exact o3
        · rw [bkC_114 ok]
          unfold lwR
          rw [if_neg q]; exact o4
        · rw [bkC_115 ok]
          unfold lwR
          rw [if_neg q]; exact o5
        · rw [bkC_116 ok]
          unfold lwR
          rw [if_neg q]; exact o6
        · rw [bkC_117 ok]
          unfold lwR
          rw [if_neg q]; exact o7
end BKN
