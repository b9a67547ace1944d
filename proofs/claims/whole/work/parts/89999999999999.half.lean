/-! HALVES: the reference's way and the class's; both halve as often -/
theorem hv_b {v : Int64} (h : evJ v = true) : v / (2 : Int64) = v >>> (1 : Int64) := by
  have h1 := Int64.le_toInt v
  have h2 := Int64.toInt_lt v
  have e : lI v.toInt = v := Int64.ofInt_toInt v
  have a := lI_h h1 h2 ((par_i v).mpr ((ev_b v).mp h))
  have b := lI_sh h1 h2
  rw [e] at a b
  exact a.trans b.symm
/-- the same numbers, by keys (reference) and by places (class) -/
def alkS (kk κ : Nat → Nat) (n c : Nat) (f g F G : Nat → Int64) : Prop := (∀ j, j < c → ∃ i, i < n ∧ kk i = κ j) ∧ (∀ i, i < n → nzJ (f (kk i)) (g (kk i)) = true → ∃ j, j < c ∧ κ j = kk i) ∧ ∀ j, j < c → F j = f (κ j) ∧ G j = g (κ j)
theorem ev_0 : evJ 0 = true := by decide
theorem alk_e {kk κ : Nat → Nat} {n c : Nat} {f g F G : Nat → Int64} (h : alkS kk κ n c f g F G) : allN (fun j => evJ (f (kk j)) && evJ (g (kk j))) n = allN (fun j => e1J (F j) (G j)) c := by
  obtain ⟨h1, h2, h3⟩ := h
  rw [Bool.eq_iff_iff, all_iff, all_iff]
  constructor
  · intro z j hj
    obtain ⟨i, hi, e⟩ := h1 j hj
    have := z i hi
    rw [e] at this
    rw [← ev_e1, (h3 j hj).1, (h3 j hj).2]
    exact this
  · intro z i hi
    cases hz : nzJ (f (kk i)) (g (kk i)) with
    | true =>
      obtain ⟨j, hj, e⟩ := h2 i hi hz
      have := z j hj
      rw [← ev_e1, (h3 j hj).1, (h3 j hj).2, e] at this
      exact this
    | false =>
      have q : f (kk i) = 0 ∧ g (kk i) = 0 := Decidable.byContradiction fun y => by
        unfold nzJ at hz
        rw [decide_eq_true y] at hz
        exact absurd hz (by decide)
      rw [q.1, q.2, ev_0]
      rfl
