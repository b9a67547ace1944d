/-! row: the pair -/
section ROP
variable {n : Nat} {M N : mm_M} {A B : Nat → RW}
theorem tb_th (h : tb_g M n A B) : tb_g (th0 M) n A B := h
theorem tb_st (h : tb_g M n A B) : tb_g (strM M n A) n (redR n A) B := by
  obtain ⟨n20, h3, h81, hr, cA, cB, eAB, h4⟩ := h
  refine ⟨n20, h3, h81, fun j hj => ⟨rd_n' (fun j hj => (hr j hj).1) hj, (hr j hj).2.1, gA_row (M := M) (Y := redR n A) hj, (hr j hj).2.2.2⟩, rd_c' cA, cB, ?_, Or.inr ⟨rfl, ?_⟩⟩
  · rw [red_id]
    exact eAB
  · rw [red_id]
theorem tb_rr (h : tb_g M n A B) : tb_g (gB M (redR n B) n) n A (redR n B) := by
  obtain ⟨n20, h3, h81, hr, cA, cB, eAB, h4⟩ := h
  refine ⟨n20, h3, h81, fun j hj => ⟨(hr j hj).1, rd_n' (fun j hj => (hr j hj).2.1) hj, (hr j hj).2.2.1, gB_row (M := M) (Y := redR n B) hj⟩, cA, rd_c' cB, ?_, h4⟩
  rw [red_id]
  exact eAB
end ROP
section ROQ
variable {ac : Nat → ClassId} {lo : Nat} {ad as : Nat → Nat} {b L : Nat} {xs : Nat → Int32} {hp : mm_M → Nat → xm_H} {I J : mm_M → Prop}
theorem pr_row (H : mm_L ac lo hp) (h1 : ∀ M, I M → ∃ n A B, tb_g M n A B) (hJ : ∀ M N M' n A B A' B', I M → tb_g M n A B → (A' = A ∧ N = M ∨ A' = redR n A ∧ N = strM M n A) → (B' = B ∧ M' = th0 N ∨ B' = redR n B ∧ M' = gB (th0 N) (redR n B) n) → tb_g M' n A' B' → J M') (p q : Int32) : la_I ac lo ad as b L xs hp I J nm_X11_row nm_X12_row [.int p, .int q] := by
  refine am_la_I (us := [aI p, aI q]) H fun M hI => ?_
  obtain ⟨n, A, B, h⟩ := h1 M hI
  have n20 := h.1
  have off : ∀ j, j < n → ¬ (nI j < 0 ∨ nI n ≤ nI j) := fun j hj => bk_yes n20 hj
  refine am_wk (roX (d := 995) (p := p) (q := q) h) ?_
  rintro t M1 (⟨z, rfl, rfl⟩ | ⟨j, hj, rfl, rfl, hN⟩)
  · refine ⟨_, rfl, am_wk (roR (d := 996) (p := p) (q := q) n20 h.2.2.1 (fun j hj => ⟨(h.2.2.2.1 j hj).2.1, (h.2.2.2.1 j hj).2.2.2⟩) h.2.2.2.2.2.1) ?_⟩
    rintro t M2 (⟨_, rfl, rfl⟩ | ⟨j, hj, rfl, _⟩)
    · exact ⟨rfl, hJ M1 M1 _ n A B A B hI h (Or.inl ⟨rfl, rfl⟩) (Or.inl ⟨rfl, rfl⟩) (tb_th h)⟩
    · exact absurd z (off j hj)
  · have fin : ∀ A', (A' = A ∧ M1 = M ∨ A' = redR n A ∧ M1 = strM M n A) → tb_g M1 n A' B → am_M 1000 false nm_X12_row [aR 108, aI (nI j), aI q] M1 (fun r M2 => r = .inl (some (aI (roV (redR n A j) q))) ∧ J M2) := fun A' hA g => by
      refine am_wk (roR (d := 996) (p := nI j) (q := q) n20 g.2.2.1 (fun j hj => ⟨(g.2.2.2.1 j hj).2.1, (g.2.2.2.1 j hj).2.2.2⟩) g.2.2.2.2.2.1) ?_
      rintro t M2 (⟨z, _⟩ | ⟨i, hi, e, rfl, hM⟩)
      · exact absurd z (off j hj)
      · have := (nI_eq (by omega) (by omega)).mp e
        subst this
        refine ⟨by rw [h.2.2.2.2.2.2.1], ?_⟩
        rcases hM with rfl | rfl
        · exact hJ M M1 _ n A B A' B hI h hA (Or.inl ⟨rfl, rfl⟩) (tb_th g)
        · exact hJ M M1 _ n A B A' (redR n B) hI h hA (Or.inr ⟨rfl, rfl⟩) (tb_rr (tb_th g))
    refine ⟨_, rfl, ?_⟩
    rcases hN with ⟨rfl, _, _⟩ | rfl
    · exact fin A (Or.inl ⟨rfl, rfl⟩) h
    · exact fin (redR n A) (Or.inr ⟨rfl, rfl⟩) (tb_st h)
end ROQ
