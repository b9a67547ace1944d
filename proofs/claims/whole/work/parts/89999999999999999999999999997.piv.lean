/-! code: a later reducer has 0 at an earlier one's lowest bit -/
theorem rdV_b {V R : Nat → Nat} {s : Nat} (hR : ∀ j, j < s → R j = rdV R (V j) j) (hV : ∀ j, j < s → V j < 65536) (hl : ∀ j, j < s → R j < 65536) : ∀ i, i ≤ s → ∀ v, v < 65536 → ∀ j, j < i → (rdV R v i).testBit (rdP (R j)) = false := by
  intro i
  induction i with
  | zero => intro _ v _ j hj; exact absurd hj (Nat.not_lt_zero _)
  | succ i ih =>
    intro hi v hv j hj
    have hw : rdV R v i < 65536 := rdV_l hv (fun k hk => hl k (by omega))
    show (rdV R v i ^^^ (if (rdV R v i).testBit (rdP (R i)) = true then R i else 0)).testBit (rdP (R j)) = false
    by_cases e : j = i
    · subst e
      by_cases h0 : R j = 0
      · have e16 : rdP (R j) = 16 := by rw [h0]; decide
        have ef : (rdV R v j).testBit (rdP (R j)) = false := by
          rw [e16]
          exact Nat.testBit_lt_two_pow hw
        rw [ef]
        simp [ef]
      · have hp := (rdP_t (hl j (by omega)) h0).1
        by_cases c : (rdV R v j).testBit (rdP (R j)) = true
        · rw [if_pos c, Nat.testBit_xor, c, hp]
          rfl
        · rw [if_neg c, Nat.xor_zero]
          exact Bool.eq_false_iff.mpr c
    · have h1 := ih (by omega) v hv j (by omega)
      have h2 := ih (by omega) (V i) (hV i (by omega)) j (by omega)
      rw [← hR i (by omega)] at h2
      split
      · rw [Nat.testBit_xor, h1, h2]
        rfl
      · rw [Nat.xor_zero]
        exact h1
/-- so of the reducers themselves -/
theorem rdT_b {V : Nat → Nat} {s : Nat} (hV : ∀ j, j < s → V j < 65536) {i j : Nat} (hij : i < j) (hj : j < s) : (rdT V s j).testBit (rdP (rdT V s i)) = false := by
  have h := rdV_b (V := V) (R := rdT V s) (s := s) (fun k hk => rdT_r hk) hV (fun k _ => rdT_l hV s (Nat.le_refl _) k) j (by omega) (V j) (hV j hj) i hij
  rw [← rdT_r hj] at h
  exact h
