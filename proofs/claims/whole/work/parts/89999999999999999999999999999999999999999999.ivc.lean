/-! THE INVARIANT: what it gives -/
section IVD
variable {M : mm_M}
theorem gBX (h : IV M) : ∃ n F, bkX M n F := by
  obtain ⟨n, F, hB, _⟩ := h.2.1
  exact ⟨n, F, hB⟩
theorem gBK (h : IV M) : ∃ n, bk_iv M n := by
  obtain ⟨n, F, hB⟩ := gBX h
  exact ⟨n, bkX_i hB⟩
theorem gCI (h : IV M) : ∃ n, bk_iv M n ∧ ∀ c, c < n → ∃ W S op, cir M n c W S op := by
  obtain ⟨n, F, hB⟩ := gBX h
  exact ⟨n, bkX_i hB, fun c hc => ⟨_, _, _, bkX_cir hB hc⟩⟩
theorem gRX (h : IV M) : ru_x M := by
  obtain ⟨n, F, hB, hR⟩ := h.2.1
  rcases hR with z | ⟨c, k, xs, dn, tk, b, hc, ⟨h1, h2⟩, _⟩
  · exact Or.inl z
  · exact Or.inr ⟨c, _, k, xs, h1, h2⟩
theorem gRI (h : IV M) : ru_iv M := by
  obtain ⟨n, F, hB, hR⟩ := h.2.1
  rcases hR with z | ⟨c, k, xs, dn, tk, b, hc, ⟨h1, h2⟩, _⟩
  · exact Or.inl z
  · exact Or.inr ⟨c, _, k, h1⟩
theorem gRF (h : IV M) : ru_f M := h.2.2.1
theorem ru_nF {n : Nat} {F : Nat → Nat × List bk_X} (hB : bkX M n F) {c k dn tk b : Nat} {xs : Nat → R4} (hc : c < n) (h1 : ru_s M c (F c).1 k ∧ ru_n M (F c).1 k xs) (h2 : M.1 17 7 = nI dn ∧ M.1 108 67 = nI dn ∧ M.1 17 8 = nI tk ∧ M.1 108 68 = nI tk ∧ M.1 17 9 = nI b ∧ M.1 108 70 = nI b ∧ M.2 17 11 = M.2 108 69) (h3 : dn ≤ (F c).2.length) (h4 : tk ≤ dn) (h5 : b < 2 ^ 8) (h6 : k ≤ hcn (zg (F c).2) dn) : run_iv M n c (F c).1 (F c).2.length (zg (F c).2) k xs dn tk b := by
  obtain ⟨a1, a2, a3, a4, hl, ok, hg⟩ := hB.2.2.2 c hc
  exact ⟨⟨bkX_i hB, hc, bkX_c hB hc, fun j hj => ⟨hg j hj, (hl.2.2.2 j hj).2⟩⟩, h1, h2, h3, h4, h5, h6, by rw [hcl_n]; exact ok.2⟩
theorem gRN (h : IV M) : (M.1 17 5 = -1 ∧ M.1 108 65 = 0) ∨ ∃ n c W S op k xs dn tk b, run_iv M n c W S op k xs dn tk b := by
  obtain ⟨n, F, hB, hR⟩ := h.2.1
  rcases hR with z | ⟨c, k, xs, dn, tk, b, hc, h1, h2, h3, h4, h5, h6, _⟩
  · exact Or.inl z
  · exact Or.inr ⟨n, c, _, _, _, k, xs, dn, tk, b, ru_nF hB hc h1 h2 h3 h4 h5 h6⟩
theorem gGP (h : IV M) : gp_iv M := by
  obtain ⟨n, F, hB, hR⟩ := h.2.1
  rcases hR with z | ⟨c, k, xs, dn, tk, b, hc, ⟨h1, h2⟩, _, _, _, _, _, h7, h8, h9⟩
  · exact Or.inl z
  · exact Or.inr ⟨c, _, k, xs, h1, h2, h7, h8, h9⟩
theorem gDZ (h : iDED M) : de_z M := by
  rcases h with z | ⟨w, k, xs, h1, h2, _⟩
  · exact Or.inl z
  · exact Or.inr ⟨w, k, xs, h1, h2⟩
theorem gDX (h : iDED M) : de_x M := by
  rcases h with z | ⟨w, k, xs, h1, h2, _⟩
  · exact Or.inl z
  · exact Or.inr ⟨w, k, xs, h1⟩
theorem nrm_bd2 {x : R4} (h : nrm x ≤ 2 ^ 120) : bd x := by
  have e := nrm_2 (x := x) (y := (0, 0, 0, 0)) h (by decide)
  have e2 : ra x (0, 0, 0, 0) = x := by
    unfold ra
    obtain ⟨a, b, c, d⟩ := x
    simp
  rw [e2] at e
  exact e
theorem gDI (h : iDED M) : de_iv M := by
  rcases h with z | ⟨w, k, xs, ⟨h1, h2, h3, h4, h5, h6, h7, h8, h9, h10, h11, h12⟩, _, _⟩
  · exact Or.inl z
  · refine Or.inr ⟨w, k, h1, h2, h3, h4, h5, h6, h7, h8, h9, fun i j hi hj => ?_⟩
    have ij : i + 2 ^ w * j < 2 ^ (2 * w) := by
      rw [show 2 * w = w + w by omega, Nat.pow_add]
      have : 2 ^ w * j + 2 ^ w ≤ 2 ^ w * 2 ^ w := by
        rw [← Nat.mul_succ]
        exact Nat.mul_le_mul_left _ (by omega)
      omega
    refine ⟨xs (i + 2 ^ w * j), nrm_bd2 ?_, h10 _ ij, h11 i j hi hj⟩
    have p := sI_at (F := fun c => nrm (xs c)) (2 ^ (2 * w)) (fun c _ => nrm0 (xs c)) _ ij
    have q : (2 : Int) ^ k ≤ 2 ^ 120 := by
      have := Nat.pow_le_pow_right (n := 2) (by decide) h3
      exact_mod_cast this
    have p : nrm (xs (i + 2 ^ w * j)) ≤ sI (fun c => nrm (xs c)) (2 ^ (2 * w)) := p
    omega
theorem gTB (h : iTBD M) : ∃ n A B, tb_g M n A B := by
  obtain ⟨n, A, B, h1, _⟩ := h
  exact ⟨n, A, B, h1⟩
theorem gWB (h : wvJ M) : wb_iv M := wvI_wb (wvJ_I h)
theorem gTD (h : smI M) : ∃ a b s h, sm_r M a b ∧ sm_s M a 0 s h 0 := by
  obtain ⟨a, b, s, g, s', g', h1, h2, _⟩ := sm_cm h
  exact ⟨a, b, s, g, h1, h2⟩
theorem gTO (h : IV M) : M.1 9 7 = M.1 108 6 ∧ M.1 0 14 = M.1 108 2 ∧ M.1 25 3 = M.1 108 81 ∧ wb_iv M ∧ ch_iv M ∧ M.1 70 13 = M.1 108 139 ∧ M.1 96 0 = M.1 141 0 ∧ M.1 96 1 = M.1 141 1 := by
  obtain ⟨h0, h1, h2, h3, h4, h5, h6, h7, h8, h9, h10, h11, h12, h13, h14, h15, _⟩ := h
  obtain ⟨n, F, hB, _⟩ := h1
  obtain ⟨t, t1, t2, t3, _⟩ := h0
  obtain ⟨m, A, B, hT, _⟩ := h10
  obtain ⟨Lk, hC⟩ := h13
  obtain ⟨a, b, S1, S2, _, c1, c2, r1, r2, _⟩ := h15
  exact ⟨hB.2.1.trans hB.2.2.1.symm, t2.trans t3.symm, hT.2.1.trans hT.2.2.1.symm, gWB h11, chJ_iv hC, h14, c1.1.trans r1.1.symm, c2.1.trans r2.1.symm⟩
end IVD
