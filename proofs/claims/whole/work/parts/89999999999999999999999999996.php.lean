/-! code: more things than places: two are alike -/
theorem phb : ∀ (k : Nat) (f : Nat → Nat), (∀ i, i ≤ k → f i < k) → ∃ i j, i < j ∧ j ≤ k ∧ f i = f j
  | 0, f, h => absurd (h 0 (Nat.le_refl _)) (Nat.not_lt_zero _)
  | k + 1, f, h => by
    by_cases c : ∃ i, i ≤ k ∧ f i = f (k + 1)
    · obtain ⟨i, hi, e⟩ := c
      exact ⟨i, k + 1, by omega, Nat.le_refl _, e⟩
    · have hne : ∀ i, i ≤ k → f i ≠ f (k + 1) := fun i hi e => c ⟨i, hi, e⟩
      obtain ⟨i, j, hij, hj, e⟩ := phb k (fun i => if f i = k then f (k + 1) else f i) (fun i hi => by
        have h1 := h i (by omega)
        have h2 := h (k + 1) (Nat.le_refl _)
        have h3 := hne i hi
        show (if f i = k then f (k + 1) else f i) < k
        by_cases q : f i = k
        · rw [if_pos q]; omega
        · rw [if_neg q]; omega)
      refine ⟨i, j, hij, by omega, ?_⟩
      have e : (if f i = k then f (k + 1) else f i) = (if f j = k then f (k + 1) else f j) := e
      by_cases qi : f i = k
      · by_cases qj : f j = k
        · rw [qi, qj]
        · rw [if_pos qi, if_neg qj] at e
          exact absurd e.symm (hne j hj)
      · by_cases qj : f j = k
        · rw [if_neg qi, if_pos qj] at e
          exact absurd e (hne i (by omega))
        · rw [if_neg qi, if_neg qj] at e
          exact e
/-- from more products than there are vectors, two are alike; their product is none -/
theorem php_x {V : Nat → Nat} {k m : Nat} (hkm : m < k) (h : ∀ e, e < 2 ^ k → pxr V e k < 2 ^ m) : ∃ e, 0 < e ∧ e < 2 ^ k ∧ pxr V e k = 0 := by
  have hp : 2 ^ m < 2 ^ k := Nat.pow_lt_pow_right (by decide) hkm
  obtain ⟨i, j, hij, hj, e⟩ := phb (2 ^ m) (fun e => pxr V e k) (fun i hi => h i (by omega))
  refine ⟨i ^^^ j, ?_, Nat.xor_lt_two_pow (by omega) (by omega), ?_⟩
  · rcases Nat.eq_zero_or_pos (i ^^^ j) with q | q
    · exact absurd (xor_0.mp q) (by omega)
    · exact q
  · rw [pxr_x]
    have e : pxr V i k = pxr V j k := e
    rw [e, Nat.xor_self]
