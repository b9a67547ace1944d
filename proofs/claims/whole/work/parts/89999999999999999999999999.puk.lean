/-! purity leaves a DENSITY with its powers counted -/
theorem pu_k {M N : mm_M} {v : Int64} (h : puM M N v) (hz : de_z M) (q o f s : Nat → Int64) : de_z (th0 (w4 N q o f s)) := by
  obtain ⟨w, k, x, g, hd, rfl⟩ := h
  have k120 := hd.2.2.1
  have w1 := hd.1
  have w3 := hd.2.1
  rcases hz with ⟨h104, _⟩ | ⟨w', k', x', hd', a, b, a24, b6, ka, kb, kK⟩
  · have e := hd.2.2.2.1
    rw [h104] at e
    have := (nI_eq (a := 0) (b := w) (by decide) (by omega)).mp e
    omega
  · have k120' := hd'.2.2.1
    have e : k = k' := (nI_eq (by omega) (by omega)).mp (hd.2.2.2.2.2.2.1.symm.trans hd'.2.2.2.2.2.2.1)
    subst e
    have l := (low_d hd).1
    have D := lwM_d hd g
    exact Or.inr ⟨w, _, _, D, a, b, a24, b6, ka, kb, by omega⟩
/-- spoil and mix (all but a reset) leave one too -/
theorem mx_z {M N : mm_M} {W K a : Nat} {y : Nat → R4} {x : bk_X} (h : de_d M W K y) (hg : ogd W x) (hx : ¬ x.1 = 10) (h0 : de_0 N W (mxK x K) (mxN W x y)) (hk : de_k N (mxK x K)) : de_z N := Or.inr ⟨W, _, _, de_0d h0 (mx_sum h.2.1 hg hx h.2.2.2.2.2.2.2.2.2.2.2), hk⟩
