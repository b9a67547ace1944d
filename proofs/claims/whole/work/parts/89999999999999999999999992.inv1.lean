/-! what holds at the start, more -/
theorem z_nw : nw_iv mm_0 := ⟨rfl, fun i hi => ⟨0, by decide, rfl, rfl⟩⟩
theorem z_let : le_t mm_0 := Or.inl fun i hi => rfl
theorem z_ch : ch_iv mm_0 := ⟨0, by decide, rfl, fun i hi h => by
  have z : bt (0 : Nat) (kkN i) = 0 := by
    unfold bt
    rw [Nat.zero_div]
  rw [z]
  rfl⟩
def zSU : SU := (0, 0, fun _ => 0, fun _ => 0, fun _ => 0)
theorem z_ok : okS zSU := ⟨by decide, by decide, fun i j _ h => absurd h (Nat.not_lt_zero _), fun i h => absurd h (Nat.not_lt_zero _), fun _ => rfl, Or.inl rfl⟩
theorem z_sm : smI mm_0 := ⟨0, 1, zSU, zSU, ⟨Or.inl ⟨rfl, rfl⟩, ⟨rfl, rfl, rfl⟩, ⟨rfl, rfl, rfl⟩, ⟨rfl, rfl, rfl⟩⟩, ⟨rfl, rfl, fun i h => absurd h (Nat.not_lt_zero _)⟩, ⟨rfl, rfl, fun i h => absurd h (Nat.not_lt_zero _)⟩, ⟨rfl, rfl, fun i h => absurd h (Nat.not_lt_zero _)⟩, ⟨rfl, rfl, fun i h => absurd h (Nat.not_lt_zero _)⟩, z_ok, z_ok, ⟨0, fun _ => 0, rfl, by decide, fun j h => absurd h (Nat.not_lt_zero _), fun a b h => absurd h (Nat.not_lt_zero _), fun j h => absurd h (Nat.not_lt_zero _), fun k _ _ => ⟨rfl, rfl, rfl⟩⟩, fun z _ => ⟨rfl, rfl⟩⟩
/-- what told and commutes want -/
theorem sm_s0 {M : mm_M} {a o x : Nat} {S : SU} (c : csS M a x S) (r : rsS M x S) (ok : okS S) (ho : o = 150 * x) : sm_s M a o S.1 S.2.1 x := ⟨ok.1, ok.2.1, c.1, r.1, c.2.1, r.2.1, fun i hi => by
  obtain ⟨c1, c2, c3⟩ := c.2.2 i hi
  obtain ⟨r1, r2, r3⟩ := r.2.2 i hi
  rw [ho]
  exact ⟨c1.trans r1.symm, c2.trans r2.symm, c3.trans r3.symm⟩⟩
theorem sm_cm {M : mm_M} (h : smI M) : ∃ a b s h s' h', sm_r M a b ∧ sm_s M a 0 s h 0 ∧ sm_s M b 150 s' h' 1 ∧ (∀ i, i < s → ∃ k, k < 65536 ∧ M.1 143 i = nI k) ∧ ∀ i, i < s' → ∃ k, k < 65536 ∧ M.1 143 (150 + i) = nI k := by
  obtain ⟨a, b, A, B, hr, c1, c2, r1, r2, o1, o2, _, _⟩ := h
  refine ⟨a, b, A.1, A.2.1, B.1, B.2.1, hr, sm_s0 c1 r1 o1 rfl, sm_s0 c2 r2 o2 rfl, fun i hi => ⟨A.2.2.1 i, (o1.2.2.2.1 i hi).1, ?_⟩, fun i hi => ⟨B.2.2.1 i, (o2.2.2.2.1 i hi).1, ?_⟩⟩
  · have := (r1.2.2 i hi).1
    rw [Nat.mul_zero, Nat.zero_add] at this
    exact this
  · exact (r2.2.2 i hi).1
