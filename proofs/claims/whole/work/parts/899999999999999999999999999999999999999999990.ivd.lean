/-! THE INVARIANT is kept: what changes little -/
section IVE
variable {KI : List Nat} {KO : List (Nat × Nat)} {KL : List Nat} {M N K : mm_M}
theorem ko_n {k y z : Nat} (a : KO.contains (k, y) = false) (b : KO.contains (k, z) = true) : y ≠ z := fun e => by
  rw [e, b] at a
  exact absurd a (by decide)
theorem ki_n {k z : Nat} (a : KI.contains k = false) (b : KI.contains z = true) : k ≠ z := fun e => by
  rw [e, b] at a
  exact absurd a (by decide)
theorem ivF_g {k : Nat} {g : Nat → Int32} (h : ∀ y, KO.contains (k, y) = false → g y = M.1 k y) : ivF KI KO KL M (mm_i M k g) := by
  refine ⟨fun q y _ b => ?_, fun _ _ => rfl⟩
  by_cases e : q = k
  · subst e
    rw [mm_i1]
    exact h y b
  · rw [mm_ne _ _ _ _ e]
theorem ivF_o {v : Int64} (h : KL.contains 202 = true) : ivF KI KO KL M (lt_o M v) := ivF_l h
theorem ivF_0 (h : KO.contains (108, 0) = true) : ivF KI KO KL M (th0 M) := ivF_u h
theorem ivF_1 (h : KO.contains (108, 0) = true) : ivF KI KO KL M (th1 M) := ivF_u h
theorem ki_m {L : List Nat} {k : Nat} (a : L.contains k = false) : k ∉ L := fun z => by
  rw [List.contains_iff_mem.mpr z] at a
  exact absurd a (by decide)
theorem ki_q {L : List Nat} {a n k : Nat} (hL : ∀ i, i < n → L.contains (a + i) = true) (h : L.contains k = false) : k < a ∨ a + n ≤ k := by
  apply Classical.byContradiction
  intro z
  have := hL (k - a) (by omega)
  rw [show a + (k - a) = k by omega, h] at this
  exact absurd this (by decide)
theorem ki_b {L : List Nat} {a n k : Nat} (hL : ∀ i, i < n → L.contains (a + i) = true) (h : L.contains k = false) : ¬ (a ≤ k ∧ k < a + n) := by
  have := ki_q hL h
  omega
theorem jv_th0  (h : IV M) : IV (th0 M) := by
  have F : ivF [] [(108, 0)] [] M (th0 M) := ivF_0 rfl
  refine IV_k h F (Or.inl rfl) (Or.inl rfl) (Or.inl rfl) (Or.inl rfl) (Or.inl rfl) (Or.inl rfl) (Or.inl rfl) (Or.inl rfl) (Or.inl rfl) (Or.inl rfl) (Or.inl rfl) (Or.inl rfl) (Or.inl rfl) (Or.inl rfl) (Or.inl rfl) (Or.inl rfl) (Or.inl rfl) (Or.inl rfl) (Or.inl rfl) (Or.inl rfl) (Or.inl rfl) (Or.inl rfl)

theorem jv_th1  (h : IV M) : IV (th1 M) := by
  have F : ivF [] [(108, 0)] [] M (th1 M) := ivF_1 rfl
  refine IV_k h F (Or.inl rfl) (Or.inl rfl) (Or.inl rfl) (Or.inl rfl) (Or.inl rfl) (Or.inl rfl) (Or.inl rfl) (Or.inl rfl) (Or.inl rfl) (Or.inl rfl) (Or.inl rfl) (Or.inl rfl) (Or.inl rfl) (Or.inl rfl) (Or.inl rfl) (Or.inl rfl) (Or.inl rfl) (Or.inl rfl) (Or.inl rfl) (Or.inl rfl) (Or.inl rfl) (Or.inl rfl)

theorem jv_th2  (h : IV M) : IV (th2 M) := by
  have F : ivF [] [(108, 0)] [] M (th2 M) := ivF_u rfl
  refine IV_k h F (Or.inl rfl) (Or.inl rfl) (Or.inl rfl) (Or.inl rfl) (Or.inl rfl) (Or.inl rfl) (Or.inl rfl) (Or.inl rfl) (Or.inl rfl) (Or.inl rfl) (Or.inl rfl) (Or.inl rfl) (Or.inl rfl) (Or.inl rfl) (Or.inl rfl) (Or.inl rfl) (Or.inl rfl) (Or.inl rfl) (Or.inl rfl) (Or.inl rfl) (Or.inl rfl) (Or.inl rfl)

theorem jv_thv {v : Int32} (h : IV M) : IV (thv M v) := by
  have F : ivF [] [(108, 0)] [] M (thv M v) := ivF_u rfl
  refine IV_k h F (Or.inl rfl) (Or.inl rfl) (Or.inl rfl) (Or.inl rfl) (Or.inl rfl) (Or.inl rfl) (Or.inl rfl) (Or.inl rfl) (Or.inl rfl) (Or.inl rfl) (Or.inl rfl) (Or.inl rfl) (Or.inl rfl) (Or.inl rfl) (Or.inl rfl) (Or.inl rfl) (Or.inl rfl) (Or.inl rfl) (Or.inl rfl) (Or.inl rfl) (Or.inl rfl) (Or.inl rfl)

theorem jv_game {v : Int32} (h : IV M) : IV (mm_i (mm_i M 0 (upd (M.1 0) 18 v)) 108 (upd (upd (M.1 108) 0 0) 147 v)) := by
  have F : ivF [] [(0, 18), (108, 0), (108, 147)] [] M (mm_i (mm_i M 0 (upd (M.1 0) 18 v)) 108 (upd (upd (M.1 108) 0 0) 147 v)) := ivF_t (ivF_u (k := 0) (y := 18) rfl) (ivF_g (fun y hy => by rw [up_ne (ko_n hy rfl), up_ne (ko_n hy rfl), mm_ne _ _ _ _ (by decide)]))
  refine IV_k h F (Or.inl rfl) (Or.inl rfl) (Or.inl rfl) (Or.inl rfl) (Or.inl rfl) (Or.inr ?_) (Or.inl rfl) (Or.inl rfl) (Or.inl rfl) (Or.inl rfl) (Or.inl rfl) (Or.inl rfl) (Or.inl rfl) (Or.inl rfl) (Or.inl rfl) (Or.inl rfl) (Or.inl rfl) (Or.inl rfl) (Or.inl rfl) (Or.inl rfl) (Or.inl rfl) (Or.inl rfl)
  · show _ = _
    rw [mm_ne _ _ _ _ (by decide), mm_i1, mm_i1, up_at, up_at]

theorem jv_tensor {i : Nat} {v : Int32} (hi : i < 9) (h0 : ¬ v < 0) (h6 : ¬ 65535 < v) (h : IV M) : IV (mm_i (th0 (mm_i M 71 (upd (M.1 71) i v))) 166 (upd (M.1 166) i v)) := by
  have F : ivF [71, 166] [(108, 0)] [] M (mm_i (th0 (mm_i M 71 (upd (M.1 71) i v))) 166 (upd (M.1 166) i v)) := ivF_t (ivF_i (k := 71) rfl) (ivF_t (ivF_0 rfl) (ivF_i rfl))
  refine IV_k h F (Or.inl rfl) (Or.inl rfl) (Or.inl rfl) (Or.inl rfl) (Or.inl rfl) (Or.inl rfl) (Or.inr ?_) (Or.inl rfl) (Or.inl rfl) (Or.inl rfl) (Or.inl rfl) (Or.inl rfl) (Or.inl rfl) (Or.inl rfl) (Or.inl rfl) (Or.inl rfl) (Or.inl rfl) (Or.inl rfl) (Or.inl rfl) (Or.inl rfl) (Or.inl rfl) (Or.inl rfl)
  · obtain ⟨a, b⟩ := h.2.2.2.2.2.2.1
    refine ⟨a, fun j hj => ?_⟩
    have e1 : (mm_i (th0 (mm_i M 71 (upd (M.1 71) i v))) 166 (upd (M.1 166) i v)).1 71 = upd (M.1 71) i v := by
      rw [mm_ne _ _ _ _ (by decide)]
      unfold th0
      rw [mm_ne _ _ _ _ (by decide), mm_i1]
    rw [e1, mm_i1]
    by_cases q : j = i
    · subst q
      obtain ⟨g, g1, rfl⟩ := nI_of h0
      refine ⟨g, ?_, up_at, up_at⟩
      apply Classical.byContradiction
      intro z
      exact h6 (nI_lt (a := 65535) (by omega) (by omega))
    · rw [up_ne q, up_ne q]
      exact b j hj

theorem jv_cost {f g f' g' : Nat → Int32} (h0 : f 0 = 0) (h : IV M) : IV (mm_i (mm_i (th0 (mm_i (mm_i M 81 f) 82 g)) 167 f') 168 g') := by
  have F : ivF [81, 82, 167, 168] [(108, 0)] [] M (mm_i (mm_i (th0 (mm_i (mm_i M 81 f) 82 g)) 167 f') 168 g') := ivF_t (ivF_i (k := 81) rfl) (ivF_t (ivF_i (k := 82) rfl) (ivF_t (ivF_0 rfl) (ivF_t (ivF_i (k := 167) rfl) (ivF_i rfl))))
  refine IV_k h F (Or.inl rfl) (Or.inl rfl) (Or.inl rfl) (Or.inl rfl) (Or.inl rfl) (Or.inl rfl) (Or.inr ?_) (Or.inl rfl) (Or.inl rfl) (Or.inl rfl) (Or.inl rfl) (Or.inl rfl) (Or.inl rfl) (Or.inl rfl) (Or.inl rfl) (Or.inl rfl) (Or.inl rfl) (Or.inl rfl) (Or.inl rfl) (Or.inl rfl) (Or.inl rfl) (Or.inl rfl)
  · exact ⟨h0, h.2.2.2.2.2.2.1.2⟩

theorem jv_told {v : Int64} (h : IV M) : IV (th0 (lt_o M v)) := by
  have F : ivF [] [(108, 0)] [202] M (th0 (lt_o M v)) := ivF_t (ivF_o rfl) (ivF_0 rfl)
  refine IV_k h F (Or.inl rfl) (Or.inl rfl) (Or.inl rfl) (Or.inl rfl) (Or.inl rfl) (Or.inl rfl) (Or.inl rfl) (Or.inl rfl) (Or.inl rfl) (Or.inl rfl) (Or.inl rfl) (Or.inl rfl) (Or.inl rfl) (Or.inl rfl) (Or.inl rfl) (Or.inl rfl) (Or.inl rfl) (Or.inl rfl) (Or.inl rfl) (Or.inl rfl) (Or.inl rfl) (Or.inl rfl)

theorem jv_kin {f g : Nat → Int64} {a b : Nat → Int32} (h : IV M) : IV (mm_i (mm_i (th0 (mm_l (mm_l M 79 f) 80 g)) 164 a) 165 b) := by
  have F : ivF [164, 165] [(108, 0)] [79, 80] M (mm_i (mm_i (th0 (mm_l (mm_l M 79 f) 80 g)) 164 a) 165 b) := ivF_t (ivF_l (k := 79) rfl) (ivF_t (ivF_l (k := 80) rfl) (ivF_t (ivF_0 rfl) (ivF_t (ivF_i (k := 164) rfl) (ivF_i rfl))))
  refine IV_k h F (Or.inl rfl) (Or.inl rfl) (Or.inl rfl) (Or.inl rfl) (Or.inl rfl) (Or.inl rfl) (Or.inl rfl) (Or.inl rfl) (Or.inl rfl) (Or.inl rfl) (Or.inl rfl) (Or.inl rfl) (Or.inl rfl) (Or.inl rfl) (Or.inl rfl) (Or.inl rfl) (Or.inl rfl) (Or.inl rfl) (Or.inl rfl) (Or.inl rfl) (Or.inl rfl) (Or.inl rfl)

theorem jv_amp {f : Nat → Int64} {v : Int64} (h : IV M) : IV (th0 (mm_l (lt_o M v) 118 f)) := by
  have F : ivF [] [(108, 0)] [118, 202] M (th0 (mm_l (lt_o M v) 118 f)) := ivF_t (ivF_o rfl) (ivF_t (ivF_l (k := 118) rfl) (ivF_0 rfl))
  refine IV_k h F (Or.inl rfl) (Or.inl rfl) (Or.inl rfl) (Or.inl rfl) (Or.inl rfl) (Or.inl rfl) (Or.inl rfl) (Or.inl rfl) (Or.inl rfl) (Or.inl rfl) (Or.inl rfl) (Or.inl rfl) (Or.inl rfl) (Or.inl rfl) (Or.inl rfl) (Or.inl rfl) (Or.inl rfl) (Or.inl rfl) (Or.inl rfl) (Or.inl rfl) (Or.inl rfl) (Or.inl rfl)

theorem jv_amp1 {f : Nat → Int64} (h : IV M) : IV (th1 (mm_l M 118 f)) := by
  have F : ivF [] [(108, 0)] [118] M (th1 (mm_l M 118 f)) := ivF_t (ivF_l (k := 118) rfl) (ivF_1 rfl)
  refine IV_k h F (Or.inl rfl) (Or.inl rfl) (Or.inl rfl) (Or.inl rfl) (Or.inl rfl) (Or.inl rfl) (Or.inl rfl) (Or.inl rfl) (Or.inl rfl) (Or.inl rfl) (Or.inl rfl) (Or.inl rfl) (Or.inl rfl) (Or.inl rfl) (Or.inl rfl) (Or.inl rfl) (Or.inl rfl) (Or.inl rfl) (Or.inl rfl) (Or.inl rfl) (Or.inl rfl) (Or.inl rfl)

theorem ivF_w4 {q o f s : Nat → Int64} (h1 : KL.contains 152 = true) (h2 : KL.contains 119 = true) (h3 : KL.contains 118 = true) (h4 : KL.contains 153 = true) : ivF KI KO KL M (w4 M q o f s) := ivF_t (ivF_l h1) (ivF_t (ivF_l h2) (ivF_t (ivF_l h3) (ivF_l h4)))
theorem jv_wt {g q o f s : Nat → Int64} {v : Int64} (h : IV M) : IV (th0 (w4 (lt_o (mm_l M 19 g) v) q o f s)) := by
  have F : ivF [] [(108, 0)] [19, 202, 152, 119, 118, 153] M (th0 (w4 (lt_o (mm_l M 19 g) v) q o f s)) := ivF_t (ivF_l (k := 19) rfl) (ivF_t (ivF_o rfl) (ivF_t (ivF_w4 rfl rfl rfl rfl) (ivF_0 rfl)))
  refine IV_k h F (Or.inl rfl) (Or.inl rfl) (Or.inl rfl) (Or.inl rfl) (Or.inl rfl) (Or.inl rfl) (Or.inl rfl) (Or.inl rfl) (Or.inl rfl) (Or.inl rfl) (Or.inl rfl) (Or.inl rfl) (Or.inl rfl) (Or.inl rfl) (Or.inl rfl) (Or.inl rfl) (Or.inl rfl) (Or.inl rfl) (Or.inl rfl) (Or.inl rfl) (Or.inl rfl) (Or.inl rfl)

theorem jv_wt1 {q o f s : Nat → Int64} (h : IV M) : IV (th1 (w4 M q o f s)) := by
  have F : ivF [] [(108, 0)] [152, 119, 118, 153] M (th1 (w4 M q o f s)) := ivF_t (ivF_w4 rfl rfl rfl rfl) (ivF_1 rfl)
  refine IV_k h F (Or.inl rfl) (Or.inl rfl) (Or.inl rfl) (Or.inl rfl) (Or.inl rfl) (Or.inl rfl) (Or.inl rfl) (Or.inl rfl) (Or.inl rfl) (Or.inl rfl) (Or.inl rfl) (Or.inl rfl) (Or.inl rfl) (Or.inl rfl) (Or.inl rfl) (Or.inl rfl) (Or.inl rfl) (Or.inl rfl) (Or.inl rfl) (Or.inl rfl) (Or.inl rfl) (Or.inl rfl)

theorem jv_nodes {kf : Nat → Int32} {f q o : Nat → Int64} (h : IV M) : IV (v2 (th0 (mm_l (mm_i M 24 kf) 19 f)) q o) := by
  have F : ivF [24] [(108, 0)] [19, 152, 118] M (v2 (th0 (mm_l (mm_i M 24 kf) 19 f)) q o) := ivF_t (ivF_i (k := 24) rfl) (ivF_t (ivF_l (k := 19) rfl) (ivF_t (ivF_0 rfl) (ivF_t (ivF_l (k := 152) rfl) (ivF_l rfl))))
  refine IV_k h F (Or.inl rfl) (Or.inl rfl) (Or.inl rfl) (Or.inl rfl) (Or.inl rfl) (Or.inl rfl) (Or.inl rfl) (Or.inl rfl) (Or.inl rfl) (Or.inl rfl) (Or.inl rfl) (Or.inl rfl) (Or.inl rfl) (Or.inl rfl) (Or.inl rfl) (Or.inl rfl) (Or.inl rfl) (Or.inl rfl) (Or.inl rfl) (Or.inl rfl) (Or.inl rfl) (Or.inl rfl)

theorem jv_faulty {y : RW} {y' : PZ} {s : Int32} (h : IV M) : IV (rG (th0 (wD (n29 M) 0 y)) y' s) := by
  have F : ivF [30, 31, 32] [(29, 3), (29, 4), (108, 0), (108, 45), (108, 46), (108, 47)] [] M (rG (th0 (wD (n29 M) 0 y)) y' s) := ivF_t (ivF_g (k := 29) (fun z hz => by rw [up_ne (ko_n hz rfl), up_ne (ko_n hz rfl)])) (ivF_t (ivF_i (k := 30) rfl) (ivF_t (ivF_i (k := 31) rfl) (ivF_t (ivF_i (k := 32) rfl) (ivF_t (ivF_0 rfl) (ivF_g (fun z hz => by
    unfold g3
    rw [if_neg (ko_n hz rfl), if_neg (ko_n hz rfl), if_neg (ko_n hz rfl)]
    rfl))))))
  refine IV_k h F (Or.inl rfl) (Or.inl rfl) (Or.inl rfl) (Or.inl rfl) (Or.inl rfl) (Or.inl rfl) (Or.inl rfl) (Or.inl rfl) (Or.inl rfl) (Or.inl rfl) (Or.inl rfl) (Or.inl rfl) (Or.inl rfl) (Or.inl rfl) (Or.inl rfl) (Or.inl rfl) (Or.inl rfl) (Or.inl rfl) (Or.inl rfl) (Or.inl rfl) (Or.inl rfl) (Or.inr ?_)
  · exact ⟨1, Nat.le_refl _, rfl⟩

theorem jv_look0 {f : Nat → Int32} (h : IV M) : IV (th0 (mm_i M 14 f)) := by
  have F : ivF [14] [(108, 0)] [] M (th0 (mm_i M 14 f)) := ivF_t (ivF_i (k := 14) rfl) (ivF_0 rfl)
  refine IV_k h F (Or.inl rfl) (Or.inl rfl) (Or.inl rfl) (Or.inl rfl) (Or.inl rfl) (Or.inl rfl) (Or.inl rfl) (Or.inl rfl) (Or.inl rfl) (Or.inl rfl) (Or.inl rfl) (Or.inl rfl) (Or.inl rfl) (Or.inl rfl) (Or.inl rfl) (Or.inl rfl) (Or.inl rfl) (Or.inl rfl) (Or.inl rfl) (Or.inl rfl) (Or.inl rfl) (Or.inl rfl)

theorem jv_look1 {f : Nat → Int32} {l : List Nat} (h : IV M) : IV (wrW (th0 (mm_i M 14 f)) l) := by
  have F : ivF [14, 132] [(108, 0), (108, 40)] [] M (wrW (th0 (mm_i M 14 f)) l) := ivF_t (ivF_i (k := 14) rfl) (ivF_t (ivF_0 rfl) (ivF_t (ivF_i (k := 132) rfl) (ivF_g (fun y hy => by rw [up_ne (ko_n hy rfl), mm_ne _ _ _ _ (by decide)]))))
  refine IV_k h F (Or.inl rfl) (Or.inl rfl) (Or.inl rfl) (Or.inl rfl) (Or.inl rfl) (Or.inl rfl) (Or.inl rfl) (Or.inl rfl) (Or.inl rfl) (Or.inl rfl) (Or.inl rfl) (Or.inl rfl) (Or.inl rfl) (Or.inl rfl) (Or.inl rfl) (Or.inl rfl) (Or.inl rfl) (Or.inl rfl) (Or.inl rfl) (Or.inl rfl) (Or.inl rfl) (Or.inl rfl)

theorem jv_clear  (h : IV M) : IV (mm_i (mm_i (mm_i (mm_i M 9 (upd (M.1 9) 7 0)) 17 (upd (M.1 17) 5 (-1))) 39 (upd (M.1 39) 6 0)) 108 (upd (upd (upd (upd (M.1 108) 0 0) 6 0) 65 0) 98 0)) := by
  have F : ivF [] [(9, 7), (17, 5), (39, 6), (108, 0), (108, 6), (108, 65), (108, 98)] [] M (mm_i (mm_i (mm_i (mm_i M 9 (upd (M.1 9) 7 0)) 17 (upd (M.1 17) 5 (-1))) 39 (upd (M.1 39) 6 0)) 108 (upd (upd (upd (upd (M.1 108) 0 0) 6 0) 65 0) 98 0)) := ivF_t (ivF_u (k := 9) (y := 7) rfl) (ivF_t (ivF_g (k := 17) (fun y hy => by rw [up_ne (ko_n hy rfl), mm_ne _ _ _ _ (by decide)])) (ivF_t (ivF_g (k := 39) (fun y hy => by rw [up_ne (ko_n hy rfl), mm_ne _ _ _ _ (by decide), mm_ne _ _ _ _ (by decide)])) (ivF_g (fun y hy => by rw [up_ne (ko_n hy rfl), up_ne (ko_n hy rfl), up_ne (ko_n hy rfl), up_ne (ko_n hy rfl), mm_ne _ _ _ _ (by decide), mm_ne _ _ _ _ (by decide), mm_ne _ _ _ _ (by decide)]))))
  refine IV_k h F (Or.inl rfl) (Or.inr ?_) (Or.inl rfl) (Or.inl rfl) (Or.inl rfl) (Or.inl rfl) (Or.inl rfl) (Or.inl rfl) (Or.inl rfl) (Or.inl rfl) (Or.inl rfl) (Or.inr ?_) (Or.inl rfl) (Or.inl rfl) (Or.inl rfl) (Or.inl rfl) (Or.inl rfl) (Or.inl rfl) (Or.inl rfl) (Or.inl rfl) (Or.inl rfl) (Or.inl rfl)
  · exact ⟨0, fun _ => (0, []), ⟨by decide, rfl, rfl, fun c hc => absurd hc (Nat.not_lt_zero _)⟩, Or.inl ⟨rfl, rfl⟩⟩
  · exact Or.inl ⟨rfl, rfl⟩

theorem jv_type {x : Int64} {t n : Nat} (ht : ty_iv M t) (n8 : n ≤ 8) (hn : t + n ≤ 400) (hk : ∀ i, 0 ≤ i → i < n → ty_k x i) (h : IV M) : IV (ty_M2 (th0 (ty_M1 M x t n)) x t n) := by
  have F : ivF [1, 109] [(0, 14), (108, 0), (108, 2)] [] M (ty_M2 (th0 (ty_M1 M x t n)) x t n) := ivF_t (ivF_i (k := 1) rfl) (ivF_t (ivF_g (k := 0) (fun y hy => by rw [up_ne (ko_n hy rfl), mm_ne _ _ _ _ (by decide)])) (ivF_t (ivF_0 rfl) (ivF_t (ivF_i (k := 109) rfl) (ivF_g (fun y hy => by
    rw [up_ne (ko_n hy rfl)]
    rfl)))))
  refine IV_k h F (Or.inr ?_) (Or.inl rfl) (Or.inl rfl) (Or.inl rfl) (Or.inl rfl) (Or.inl rfl) (Or.inl rfl) (Or.inl rfl) (Or.inl rfl) (Or.inl rfl) (Or.inl rfl) (Or.inl rfl) (Or.inl rfl) (Or.inl rfl) (Or.inl rfl) (Or.inl rfl) (Or.inl rfl) (Or.inl rfl) (Or.inl rfl) (Or.inl rfl) (Or.inl rfl) (Or.inl rfl)
  · exact ⟨_, ty_iv_step ht n8 hn hk⟩

theorem jv_link {a b : Nat} {v : Int32} (hv : v = 0 ∨ v = 1) (ha : a < 6) (hb : b < 6) (hab : a ≠ b) (h : IV M) : IV (li_2 (li_1 M (min a b) (max a b) v) a b v) := by
  have F : ivF [72, 195] [(70, 12), (108, 0)] [] M (li_2 (li_1 M (min a b) (max a b) v) a b v) := ivF_t (ivF_u (k := 70) (y := 12) rfl) (ivF_t (ivF_i (k := 72) rfl) (ivF_t (ivF_0 rfl) (ivF_i rfl)))
  refine IV_k h F (Or.inl rfl) (Or.inl rfl) (Or.inl rfl) (Or.inl rfl) (Or.inl rfl) (Or.inl rfl) (Or.inl rfl) (Or.inl rfl) (Or.inl rfl) (Or.inl rfl) (Or.inl rfl) (Or.inl rfl) (Or.inl rfl) (Or.inr ?_) (Or.inl rfl) (Or.inl rfl) (Or.inl rfl) (Or.inl rfl) (Or.inl rfl) (Or.inl rfl) (Or.inl rfl) (Or.inl rfl)
  · obtain ⟨Lk, hC⟩ := h.2.2.2.2.2.2.2.2.2.2.2.2.2.1
    exact ⟨_, chJ_link hv ha hb hab hC⟩

theorem jv_sum {M' : mm_M} (h1 : csF M N) (h2 : rsF N M') (h3 : smI M') (h : IV M) : IV (M') := by
  have F : ivF [83, 84, 85, 86, 87, 88, 89, 90, 91, 92, 93, 94, 95, 96, 97, 98, 99, 100, 101, 102, 103, 141, 142, 143, 144, 145, 146, 147, 148, 149] [(108, 64), (108, 0)] [99, 100, 101, 102, 146, 147] M (M') := by
    refine ⟨fun k y a b => ?_, fun k a => ?_⟩
    · by_cases e : k = 108
      · subst e
        rw [h2.2.2 y (ko_n b rfl) (ko_n b rfl), h1.1 108 (by decide)]
      · rw [h2.1 k e (by have := ki_q (a := 141) (n := 9) (by decide) a; omega), h1.1 k (by have := ki_q (a := 83) (n := 21) (by decide) a; omega)]
    · rw [h2.2.1 k (ki_n a rfl) (ki_n a rfl), h1.2.1 k (by have := ki_q (a := 99) (n := 4) (by decide) a; omega)]
  refine IV_k h F (Or.inl rfl) (Or.inl rfl) (Or.inl rfl) (Or.inl rfl) (Or.inl rfl) (Or.inl rfl) (Or.inl rfl) (Or.inl rfl) (Or.inl rfl) (Or.inl rfl) (Or.inl rfl) (Or.inl rfl) (Or.inl rfl) (Or.inl rfl) (Or.inl rfl) (Or.inr ?_) (Or.inl rfl) (Or.inl rfl) (Or.inl rfl) (Or.inl rfl) (Or.inl rfl) (Or.inl rfl)
  · exact h3

theorem jv_rewr {M' : mm_M} (h1 : cwF M N) (h2 : rwF (th0 N) M') (h3 : wvJ M') (h : IV M) : IV (M') := by
  have F : ivF [42, 169, 170, 171] [(39, 9), (108, 0)] [39, 40, 41] M (M') := by
    refine ⟨fun k y a b => ?_, fun k a => ?_⟩
    · rw [h2.1 k (ki_n a rfl) (ki_n a rfl) (ki_n a rfl)]
      by_cases e : k = 108
      · subst e
        unfold th0
        rw [mm_i1, up_ne (ko_n b rfl), h1.1 108 (by decide) (by decide)]
      · unfold th0
        rw [mm_ne _ _ _ _ e]
        by_cases e : k = 39
        · subst e
          rw [h1.2.2.1 y (ko_n b rfl)]
        · rw [h1.1 k e (ki_n a rfl)]
    · rw [h2.2]
      exact h1.2.1 k (ki_n a rfl) (ki_n a rfl) (ki_n a rfl)
  refine IV_k h F (Or.inl rfl) (Or.inl rfl) (Or.inl rfl) (Or.inl rfl) (Or.inl rfl) (Or.inl rfl) (Or.inl rfl) (Or.inl rfl) (Or.inl rfl) (Or.inl rfl) (Or.inl rfl) (Or.inr ?_) (Or.inl rfl) (Or.inl rfl) (Or.inl rfl) (Or.inl rfl) (Or.inl rfl) (Or.inl rfl) (Or.inl rfl) (Or.inl rfl) (Or.inl rfl) (Or.inl rfl)
  · exact h3

theorem jv_mean {K M' : mm_M} (h1 : cmF M N) (h2 : K = N ∨ ∃ v, K = lt_o N v) (h3 : rmG K M') (h4 : wvJ M') (h : IV M) : IV (M') := by
  have F : ivF [44, 174, 175] [(39, 9), (108, 0)] [45, 118, 153, 202] M (M') := by
    have k1 : ∀ q, K.1 q = N.1 q := fun q => by
      rcases h2 with z | ⟨v, z⟩ <;> rw [z] <;> rfl
    have k2 : ∀ q, q ≠ 202 → K.2 q = N.2 q := fun q hq => by
      rcases h2 with z | ⟨v, z⟩
      · rw [z]
      · rw [z]
        exact if_neg hq
    refine ⟨fun k y a b => ?_, fun k a => ?_⟩
    · by_cases e : k = 108
      · subst e
        rw [h3.2.1 y (ko_n b rfl), k1, h1.1 108 (by decide) (by decide)]
      · rw [h3.1 k e (ki_n a rfl) (ki_n a rfl), k1]
        by_cases e : k = 39
        · subst e
          rw [h1.2.1 y (ko_n b rfl)]
        · rw [h1.1 k e (ki_n a rfl)]
    · rw [h3.2.2 k (ki_n a rfl) (ki_n a rfl), k2 k (ki_n a rfl), h1.2.2 k (ki_n a rfl)]
  refine IV_k h F (Or.inl rfl) (Or.inl rfl) (Or.inl rfl) (Or.inl rfl) (Or.inl rfl) (Or.inl rfl) (Or.inl rfl) (Or.inl rfl) (Or.inl rfl) (Or.inl rfl) (Or.inl rfl) (Or.inr ?_) (Or.inl rfl) (Or.inl rfl) (Or.inl rfl) (Or.inl rfl) (Or.inl rfl) (Or.inl rfl) (Or.inl rfl) (Or.inl rfl) (Or.inl rfl) (Or.inl rfl)
  · exact h4

theorem jv_diag {M' : mm_M} (h1 : dwF M N) (h2 : dgF (th0 N) M') (h3 : wvJ M') (h : IV M) : IV (M') := by
  have F : ivF [42, 43, 169, 170, 171, 172, 173] [(39, 6), (39, 7), (39, 8), (39, 9), (108, 0), (108, 98), (108, 99), (108, 100), (108, 106)] [39, 40, 41] M (M') := by
    refine ⟨fun k y a b => ?_, fun k a => ?_⟩
    · by_cases e : k = 108
      · subst e
        rw [h2.2.1 y (ko_n b rfl) (ko_n b rfl) (ko_n b rfl) (ko_n b rfl)]
        unfold th0
        rw [mm_i1, up_ne (ko_n b rfl), h1.1 108 (by decide) (by decide) (by decide)]
      · rw [h2.1 k e (ki_q (a := 169) (n := 5) (by decide) a)]
        unfold th0
        rw [mm_ne _ _ _ _ e]
        by_cases e9 : k = 39
        · subst e9
          have q6 : y ≠ 6 := (ko_n b rfl)
          have q7 : y ≠ 7 := (ko_n b rfl)
          have q8 : y ≠ 8 := (ko_n b rfl)
          have q9 : y ≠ 9 := (ko_n b rfl)
          rw [h1.2.2.1 y (by omega)]
        · rw [h1.1 k e9 (ki_n a rfl) (ki_n a rfl)]
    · rw [h2.2.2]
      exact h1.2.1 k (ki_n a rfl) (ki_n a rfl) (ki_n a rfl)
  refine IV_k h F (Or.inl rfl) (Or.inl rfl) (Or.inl rfl) (Or.inl rfl) (Or.inl rfl) (Or.inl rfl) (Or.inl rfl) (Or.inl rfl) (Or.inl rfl) (Or.inl rfl) (Or.inl rfl) (Or.inr ?_) (Or.inl rfl) (Or.inl rfl) (Or.inl rfl) (Or.inl rfl) (Or.inl rfl) (Or.inl rfl) (Or.inl rfl) (Or.inl rfl) (Or.inl rfl) (Or.inl rfl)
  · exact h3

theorem jv_codes (h1 : N = M ∨ caG M N) (h2 : cdI (th0 N)) (h : IV M) : IV (th0 N) := by
  have F : ivF [53, 54, 55, 56] [(46, 17), (108, 0)] [] M (th0 N) := by
    refine ivF_t (N := N) ?_ (ivF_0 rfl)
    rcases h1 with z | h1
    · rw [z]
      exact ivF_r
    · refine ⟨fun k y a b => ?_, fun k _ => by rw [h1.2.2]⟩
      by_cases e : k = 46
      · subst e
        rw [h1.2.1 y (ko_n b rfl)]
      · rw [h1.1 k e (ki_q (a := 53) (n := 4) (by decide) a)]
  refine IV_k h F (Or.inl rfl) (Or.inl rfl) (Or.inl rfl) (Or.inl rfl) (Or.inl rfl) (Or.inl rfl) (Or.inl rfl) (Or.inl rfl) (Or.inl rfl) (Or.inl rfl) (Or.inl rfl) (Or.inl rfl) (Or.inr ?_) (Or.inl rfl) (Or.inl rfl) (Or.inl rfl) (Or.inl rfl) (Or.inl rfl) (Or.inl rfl) (Or.inl rfl) (Or.inl rfl) (Or.inl rfl)
  · exact h2

theorem jv_code (h1 : cdF M N) (h2 : ty_iv N 0) (h3 : N.1 0 15 = N.1 108 4) (h4 : N.1 0 16 = N.1 108 5) (h5 : cdI N) (h : IV M) : IV (N) := by
  have F : ivF [46, 47, 48, 49, 50, 51, 52, 176, 177, 178, 179, 180, 181, 182, 183, 184, 185] [(0, 14), (0, 15), (0, 16), (108, 0), (108, 2), (108, 3), (108, 4), (108, 5), (108, 109), (108, 110), (108, 111), (108, 114), (108, 115), (108, 124)] [202] M (N) := by
    refine ⟨fun k y a b => ?_, fun k a => ?_⟩
    · by_cases e : k = 108
      · subst e
        exact h1.2.2.2 y (ko_n b rfl) (ko_n b rfl) (ko_n b rfl) (ko_n b rfl) (ko_n b rfl) (ko_n b rfl) (ko_n b rfl) (ko_n b rfl) (ko_n b rfl) (ko_n b rfl) (ko_n b rfl)
      · by_cases e0 : k = 0
        · subst e0
          exact h1.2.2.1 y (ko_n b rfl) (ko_n b rfl) (ko_n b rfl)
        · rw [h1.1 k e0 e (ki_q (a := 46) (n := 7) (by decide) a) (ki_q (a := 176) (n := 10) (by decide) a)]
    · exact h1.2.1 k (ki_n a rfl)
  refine IV_k h F (Or.inr ?_) (Or.inl rfl) (Or.inl rfl) (Or.inr ?_) (Or.inl rfl) (Or.inl rfl) (Or.inl rfl) (Or.inl rfl) (Or.inl rfl) (Or.inl rfl) (Or.inl rfl) (Or.inl rfl) (Or.inr ?_) (Or.inl rfl) (Or.inl rfl) (Or.inl rfl) (Or.inl rfl) (Or.inl rfl) (Or.inl rfl) (Or.inl rfl) (Or.inl rfl) (Or.inl rfl)
  · exact ⟨0, h2⟩
  · exact ⟨h3, h4⟩
  · exact h5

end IVE
