/-! the reference's has: the bit of a ROW at a column -/
def hb (n : Nat) (y : RW) (c : Nat) : Nat := if c < n then bt y.1 c else bt y.2.1 (c - n)
section HAS
variable {d : Nat} {M : mm_M}
theorem bt_1 (m a : Nat) : (nI (bt m a) = 1 → bt m a = 1) ∧ (¬ nI (bt m a) = 1 → bt m a = 0) := by
  have h := bt_lt m a
  rcases (by omega : bt m a = 0 ∨ bt m a = 1) with e | e
  · rw [e]; exact ⟨fun c => absurd c (by decide), fun _ => rfl⟩
  · rw [e]; exact ⟨fun _ => rfl, fun c => absurd rfl c⟩
set_option maxRecDepth 100000 in
theorem ct_has {n c : Nat} {y : RW} (hy : rw_ok y) (hn : n ≤ 20) (hc : c < 2 * n) : am_M (d + 1) false nm_X12_has [aI (nI y.1), aI (nI y.2.1), aI (nI c), aI (nI n)] M (am_q1 (aI (nI (hb n y c))) M) := by
  refine ⟨rfl, rfl, rfl, fun X hX => am_run hX 40 _ _ _ _ ?_⟩
  conv => whnf
  by_cases h : c < n
  · refine ⟨fun q => absurd q (nI_ge h (by omega)), fun _ => ?_⟩
    conv => whnf
    rw [nI_bt hy.1 (by omega), show hb n y c = bt y.1 c from if_pos h]
    refine ⟨fun q => ?_, fun q => ?_⟩
    · conv => whnf
      rw [(bt_1 _ _).2 q]
      exact ⟨rfl, rfl, rfl⟩
    · conv => whnf
      rw [(bt_1 _ _).1 (Decidable.byContradiction q)]
      exact ⟨rfl, rfl, rfl⟩
  · refine ⟨fun _ => ?_, fun q => absurd (nI_le (by omega) (by omega)) q⟩
    conv => whnf
    rw [nI_sub (by omega), nI_bt hy.2.1 (by omega), show hb n y c = bt y.2.1 (c - n) from if_neg h]
    refine ⟨fun q => ?_, fun q => ?_⟩
    · conv => whnf
      rw [(bt_1 _ _).2 q]
      exact ⟨rfl, rfl, rfl⟩
    · conv => whnf
      rw [(bt_1 _ _).1 (Decidable.byContradiction q)]
      exact ⟨rfl, rfl, rfl⟩
end HAS
