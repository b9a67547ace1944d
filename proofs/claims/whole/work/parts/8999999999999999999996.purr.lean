/-! purity, the reference -/
section PUE
variable {d : Nat} {M : mm_M} {g : Nat → Int64}
theorem ct_ld162 {a k : Nat} {x : R4} (ha : a + 5 ≤ 320) (h : at5 (M.2 162) a x k) : am_M (d + 1) false nm_X12_load [aR 108, aR 162, aI (nI a)] M (am_q0 (mm_l M 118 (ov (M.2 118) x k))) := by
  obtain ⟨h0, h1, h2, h3, h4⟩ := h
  rw [← ov_of (g := M.2 118) h0 h1 h2 h3 h4]
  exact ct_load162 ha
set_option maxRecDepth 100000 in
theorem ct_mul162 {a k l : Nat} {x y : R4} (ha : a + 5 ≤ 320) (hk : k < 2 ^ 30) (hl : l < 2 ^ 30) (h : at5 (M.2 162) a y l) (hb : bd (mu x y)) : am_M (d + 2) false nm_X12_multiply [aR 108, aR 162, aI (nI a)] (mm_l M 118 (ov g x k)) (am_q0 (mm_l M 118 (ov g (red (k + l) (mu x y)).1 (red (k + l) (mu x y)).2))) := by
  obtain ⟨h0, h1, h2, h3, h4⟩ := h
  have e1 : nI a + 1 = nI (a + 1) := nI_1 a
  have e2 : nI a + 2 = nI (a + 2) := by rw [show (2 : Int32) = nI 2 from rfl, nI_add]
  have e3 : nI a + 3 = nI (a + 3) := by rw [show (3 : Int32) = nI 3 from rfl, nI_add]
  have e4 : nI a + 4 = nI (a + 4) := by rw [show (4 : Int32) = nI 4 from rfl, nI_add]
  refine ⟨rfl, rfl, rfl, fun X hX => am_run hX 200 _ _ _ _ ?_⟩
  conv => whnf
  refine ⟨by first | exact i5_0 | exact i5_1 | exact i5_2 | exact i5_3 | exact i5_4 | exact i5_01 | exact i5_02 | exact i5_03 | exact i5_04 | exact i4_0 | exact i4_1 | exact i4_2 | exact i4_3 | exact i5_11 | exact i5_111 | decide, ?_⟩
  conv => whnf
  refine ⟨by first | exact i5_0 | exact i5_1 | exact i5_2 | exact i5_3 | exact i5_4 | exact i5_01 | exact i5_02 | exact i5_03 | exact i5_04 | exact i4_0 | exact i4_1 | exact i4_2 | exact i4_3 | exact i5_11 | exact i5_111 | decide, ?_⟩
  conv => whnf
  refine ⟨by first | exact i5_0 | exact i5_1 | exact i5_2 | exact i5_3 | exact i5_4 | exact i5_01 | exact i5_02 | exact i5_03 | exact i5_04 | exact i4_0 | exact i4_1 | exact i4_2 | exact i4_3 | exact i5_11 | exact i5_111 | decide, ?_⟩
  conv => whnf
  refine ⟨by first | exact i5_0 | exact i5_1 | exact i5_2 | exact i5_3 | exact i5_4 | exact i5_01 | exact i5_02 | exact i5_03 | exact i5_04 | exact i4_0 | exact i4_1 | exact i4_2 | exact i4_3 | exact i5_11 | exact i5_111 | decide, ?_⟩
  conv => whnf
  refine ⟨vp_in_nI (by show _ < 320; omega) (by decide), ?_⟩
  conv => whnf
  rw [e1]
  refine ⟨vp_in_nI (by show _ < 320; omega) (by decide), ?_⟩
  conv => whnf
  rw [e2]
  refine ⟨vp_in_nI (by show _ < 320; omega) (by decide), ?_⟩
  conv => whnf
  rw [e3]
  refine ⟨vp_in_nI (by show _ < 320; omega) (by decide), ?_⟩
  conv => whnf
  rw [nI_clamp (n := a) (by omega), nI_clamp (n := a + 1) (by omega), nI_clamp (n := a + 2) (by omega), nI_clamp (n := a + 3) (by omega)]
  simp only [mm_l2, k_0, k_1, k_2, k_3, k_4, k0_1, k0_2, k0_3, k0_4, ov_0, ov_1, ov_2, ov_3, ov_4, mm_lne _ 118 162 _ (by decide), h0, h1, h2, h3, lI_mul, lI_add, lI_sub]
  refine ⟨by first | exact i5_0 | exact i5_1 | exact i5_2 | exact i5_3 | exact i5_4 | exact i5_01 | exact i5_02 | exact i5_03 | exact i5_04 | exact i4_0 | exact i4_1 | exact i4_2 | exact i4_3 | exact i5_11 | exact i5_111 | decide, ?_⟩
  conv => whnf
  refine ⟨by first | exact i5_0 | exact i5_1 | exact i5_2 | exact i5_3 | exact i5_4 | exact i5_01 | exact i5_02 | exact i5_03 | exact i5_04 | exact i4_0 | exact i4_1 | exact i4_2 | exact i4_3 | exact i5_11 | exact i5_111 | decide, ?_⟩
  conv => whnf
  refine ⟨by first | exact i5_0 | exact i5_1 | exact i5_2 | exact i5_3 | exact i5_4 | exact i5_01 | exact i5_02 | exact i5_03 | exact i5_04 | exact i4_0 | exact i4_1 | exact i4_2 | exact i4_3 | exact i5_11 | exact i5_111 | decide, ?_⟩
  conv => whnf
  refine ⟨by first | exact i5_0 | exact i5_1 | exact i5_2 | exact i5_3 | exact i5_4 | exact i5_01 | exact i5_02 | exact i5_03 | exact i5_04 | exact i4_0 | exact i4_1 | exact i4_2 | exact i4_3 | exact i5_11 | exact i5_111 | decide, ?_⟩
  conv => whnf
  refine ⟨by first | exact i5_0 | exact i5_1 | exact i5_2 | exact i5_3 | exact i5_4 | exact i5_01 | exact i5_02 | exact i5_03 | exact i5_04 | exact i4_0 | exact i4_1 | exact i4_2 | exact i4_3 | exact i5_11 | exact i5_111 | decide, ?_⟩
  conv => whnf
  rw [e4]
  refine ⟨vp_in_nI (by show _ < 320; omega) (by decide), ?_⟩
  conv => whnf
  refine ⟨by first | exact i5_0 | exact i5_1 | exact i5_2 | exact i5_3 | exact i5_4 | exact i5_01 | exact i5_02 | exact i5_03 | exact i5_04 | exact i4_0 | exact i4_1 | exact i4_2 | exact i4_3 | exact i5_11 | exact i5_111 | decide, ?_⟩
  conv => whnf
  rw [nI_clamp (n := a + 4) (by omega)]
  simp only [mm_l2, mm_ll, k_0, k_1, k_2, k_3, k_4, k0_1, k0_2, k0_3, k0_4, ov_0, ov_1, ov_2, ov_3, ov_4, mm_lne _ 118 162 _ (by decide), h4, lI_mul, lI_sub, lI_add, ov_u0, ov_u1, ov_u2, ov_u3]
  rw [show ((k : Nat) : Int) + ((l : Nat) : Int) = ((k + l : Nat) : Int) by omega, ov_u4]
  refine am_c0 (ct_red (d := d) (x := mu x y) (by omega) hb) ?_
  conv => whnf
  exact ⟨trivial, rfl, rfl⟩
end PUE
