/-! long tables, out of their pieces -/
theorem xv_cut {f : Nat × xm_I → Bool} : ∀ (m : Nat) (l : List (Nat × xm_I)), (∀ k, k < m → ((l.drop (100 * k)).take 100).all f = true) → l.length ≤ 100 * m → l.all f = true := by
  intro m l h hl
  rw [List.all_eq_true]
  intro x hx
  obtain ⟨j, hj, rfl⟩ := List.getElem_of_mem hx
  have h1 := h (j / 100) (by omega)
  rw [List.all_eq_true] at h1
  refine h1 _ (List.mem_of_getElem? (i := j % 100) ?_)
  rw [List.getElem?_take_of_lt (by omega), List.getElem?_drop, List.getElem?_eq_getElem (by omega)]
  congr 1
  congr 1
  omega
theorem vc_X12_init : xl_X12_init.all (xm_ckb vwCl RX12 cX12_init true xk_X12 xt []) = true := by
  refine xv_cut 4 xl_X12_init (fun k hk => ?_) (by decide +kernel)
  rcases (by omega : k = 0 ∨ k = 1 ∨ k = 2 ∨ k = 3) with rfl | rfl | rfl | rfl
  · exact vc_X12_init_q0
  · exact vc_X12_init_q1
  · exact vc_X12_init_q2
  · exact vc_X12_init_q3
