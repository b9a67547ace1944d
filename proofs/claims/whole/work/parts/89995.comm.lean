/-! ROWS that commute: the turns keep it -/
theorem sm_at (c a : Nat) : ∀ n, sm (fun t => if t = a then c else 0) n = if a < n then c else 0
  | 0 => rfl
  | n + 1 => by
    simp only [sm]
    rw [sm_at c a n]
    by_cases h : a < n
    · rw [if_pos h, if_neg (by omega), if_pos (by omega), Nat.add_zero]
    · by_cases e : n = a
      · rw [if_neg h, if_pos e, if_pos (by omega)]
        omega
      · rw [if_neg h, if_neg e, if_neg (by omega)]
theorem cmt_H {n a : Nat} {y w : RW} (h : cmt n y w) : cmt n (nH a y) (nH a w) := by
  obtain ⟨X, Z, S⟩ := y
  obtain ⟨U, V, T⟩ := w
  unfold cmt at *
  rw [← h]
  refine sm_m2 (fun t => ?_) n
  simp only [nH, bt_t, Nat.testBit_xor, Nat.testBit_and, tb_p]
  by_cases e : t = a
  · simp only [e, decide_true, Bool.and_true]
    cases X.testBit a <;> cases Z.testBit a <;> cases U.testBit a <;> cases V.testBit a <;> rfl
  · simp only [e, decide_false, Bool.and_false, Bool.xor_false]
theorem cmt_S {n a : Nat} {y w : RW} (h : cmt n y w) : cmt n (nS a y) (nS a w) := by
  obtain ⟨X, Z, S⟩ := y
  obtain ⟨U, V, T⟩ := w
  unfold cmt at *
  rw [← h]
  refine sm_m2 (fun t => ?_) n
  simp only [nS, bt_t, Nat.testBit_xor, Nat.testBit_and, tb_p]
  by_cases e : t = a
  · simp only [e, decide_true, Bool.and_true]
    cases X.testBit a <;> cases Z.testBit a <;> cases U.testBit a <;> cases V.testBit a <;> rfl
  · simp only [e, decide_false, Bool.and_false, Bool.xor_false]
theorem cmt_C {n p q : Nat} {y w : RW} (hp : p < n) (hq : q < n) (hpq : p ≠ q) (h : cmt n y w) : cmt n (nC p q y) (nC p q w) := by
  obtain ⟨X, Z, S⟩ := y
  obtain ⟨U, V, T⟩ := w
  unfold cmt at *
  have hqp : ¬ q = p := fun e => hpq e.symm
  have key : sm (fun t => bt (nC p q (X, Z, S)).1 t * bt (nC p q (U, V, T)).2.1 t + bt (nC p q (X, Z, S)).2.1 t * bt (nC p q (U, V, T)).1 t) n % 2 = sm (fun t => (bt X t * bt V t + bt Z t * bt U t) + ((if t = p then bt X p * bt U q + bt X q * bt U p else 0) + (if t = q then bt X p * bt U q + bt X q * bt U p else 0))) n % 2 := by
    refine sm_m2 (fun t => ?_) n
    simp only [nC, bt_t X t, bt_t U t, bt_t Z t, bt_t V t, bt_t (_ ^^^ _) t, Nat.testBit_xor, Nat.testBit_or, tb_sh]
    by_cases e : t = p
    · subst e
      rw [if_pos rfl, if_neg hpq]
      simp only [hpq, decide_true, decide_false, Bool.true_and, Bool.false_and, Bool.false_or, bt_t]
      cases X.testBit t <;> cases Z.testBit t <;> cases U.testBit t <;> cases V.testBit t <;> cases X.testBit q <;> cases U.testBit q <;> rfl
    · by_cases e2 : t = q
      · subst e2
        rw [if_pos rfl, if_neg e]
        simp only [e, decide_true, decide_false, Bool.true_and, Bool.false_and, Bool.or_false, bt_t]
        cases X.testBit t <;> cases Z.testBit t <;> cases U.testBit t <;> cases V.testBit t <;> cases X.testBit p <;> cases U.testBit p <;> rfl
      · rw [if_neg e, if_neg e2]
        simp only [e, e2, decide_false, Bool.false_and, Bool.or_false, Bool.xor_false]
        omega
  rw [key, sm_pl, sm_pl, sm_pl, sm_at, sm_at, if_pos hp, if_pos hq]
  have h : sm (fun t => bt X t * bt V t + bt Z t * bt U t) n % 2 = 0 := h
  rw [sm_pl] at h
  omega
