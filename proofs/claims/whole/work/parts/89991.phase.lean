/-! the reference's phaseOf; numbers stand for their rest by 2^32 -/
def phN (a b c e : Nat) : Nat := if a = 0 ∧ b = 0 then 0 else if a = 1 ∧ b = 1 then e + 4294967295 * c else if a = 1 then e * (if c = 1 then 1 else 4294967295) else c * (if e = 1 then 4294967295 else 1)
section PHS
variable {d : Nat} {M : mm_M}
set_option maxRecDepth 100000 in
theorem ct_phase {a b c e : Nat} (ha : a < 2) (hb : b < 2) (hc : c < 2) (he : e < 2) : am_M (d + 1) false nm_X12_phaseOf [aI (nI a), aI (nI b), aI (nI c), aI (nI e)] M (am_q1 (aI (nI (phN a b c e))) M) := by
  rcases (by omega : a = 0 ∨ a = 1) with rfl | rfl <;> rcases (by omega : b = 0 ∨ b = 1) with rfl | rfl <;> rcases (by omega : c = 0 ∨ c = 1) with rfl | rfl <;> rcases (by omega : e = 0 ∨ e = 1) with rfl | rfl
  all_goals
    refine ⟨rfl, rfl, rfl, fun X hX => am_run hX 40 _ _ _ _ ?_⟩
    conv => whnf
    repeat' first
      | exact ⟨trivial, congrArg (fun v => Sum.inl (some (aI v))) (by decide), rfl⟩
      | (refine ⟨fun c => absurd c (by decide), fun _ => ?_⟩; conv => whnf)
      | (refine ⟨fun _ => ?_, fun c => absurd (by decide) c⟩; conv => whnf)
end PHS
