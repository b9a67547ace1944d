/-! ROWS that commute: an exchange of two WIRES keeps it, and so does gate -/
theorem bt_exg {a b n t : Nat} (hab : a ≠ b) : bt (exg b a n) t = if t = a then bt n b else if t = b then bt n a else bt n t := by
  have e := congrArg (fun w : RW => w.1) (e_W (a := a) (b := b) (n, n, 0))
  have e : exg b a n = (n ^^^ (n &&& (2 ^ a ||| 2 ^ b))) ||| bt n b * 2 ^ a ||| bt n a * 2 ^ b := e
  have hba : ¬ b = a := fun q => hab q.symm
  rw [e, bt_t, Nat.testBit_or, Nat.testBit_or, tb_sh, tb_sh, Nat.testBit_xor, Nat.testBit_and, Nat.testBit_or, tb_p, tb_p]
  by_cases h1 : t = a
  · rw [if_pos h1, bt_t]
    subst h1
    simp only [hab, decide_true, decide_false, Bool.true_and, Bool.false_and, Bool.or_false, Bool.and_true]
    cases n.testBit t <;> cases n.testBit b <;> rfl
  · rw [if_neg h1]
    by_cases h2 : t = b
    · rw [if_pos h2, bt_t]
      subst h2
      simp only [h1, decide_true, decide_false, Bool.true_and, Bool.false_and, Bool.false_or, Bool.or_false, Bool.and_true]
      cases n.testBit t <;> cases n.testBit a <;> rfl
    · rw [if_neg h2, bt_t]
      simp [h1, h2]
theorem sm_x {f g : Nat → Nat} {a b : Nat} (hab : a ≠ b) (h : ∀ t, g t = if t = a then f b else if t = b then f a else f t) (n : Nat) (ha : a < n) (hb : b < n) : sm g n = sm f n := by
  have key : ∀ n, sm g n + ((if a < n then f a else 0) + (if b < n then f b else 0)) = sm f n + ((if a < n then f b else 0) + (if b < n then f a else 0)) := by
    intro n
    have e1 : sm (fun t => g t + ((if t = a then f a else 0) + (if t = b then f b else 0))) n = sm (fun t => f t + ((if t = a then f b else 0) + (if t = b then f a else 0))) n := by
      congr 1
      funext t
      rw [h t]
      by_cases h1 : t = a
      · rw [if_pos h1, if_pos h1, if_pos h1, if_neg (by omega), if_neg (by omega), h1]
        omega
      · by_cases h2 : t = b
        · rw [if_neg h1, if_neg h1, if_neg h1, if_pos h2, if_pos h2, if_pos h2, h2]
          omega
        · rw [if_neg h1, if_neg h1, if_neg h1, if_neg h2, if_neg h2, if_neg h2]
    rw [sm_pl, sm_pl, sm_pl, sm_pl, sm_at, sm_at, sm_at, sm_at] at e1
    exact e1
  have := key n
  rw [if_pos ha, if_pos ha, if_pos hb, if_pos hb] at this
  omega
theorem cmt_W {n a b : Nat} {y w : RW} (ha : a < n) (hb : b < n) (hab : a ≠ b) (h : cmt n y w) : cmt n (cpl 7 a b y) (cpl 7 a b w) := by
  rw [← e_W, ← e_W]
  unfold cmt at *
  rw [← h]
  refine congrArg (· % 2) (sm_x hab (fun t => ?_) n ha hb)
  show bt (exg b a y.1) t * bt (exg b a w.2.1) t + bt (exg b a y.2.1) t * bt (exg b a w.1) t = _
  rw [bt_exg hab, bt_exg hab, bt_exg hab, bt_exg hab]
  by_cases h1 : t = a
  · simp only [if_pos h1]
  · by_cases h2 : t = b
    · simp only [if_neg h1, if_pos h2]
    · simp only [if_neg h1, if_neg h2]
theorem cmt_gr {n k a b : Nat} {y w : RW} (ha : a < n) (hk : k < 5 ∨ ((k = 5 ∨ k = 6 ∨ k = 7) ∧ b < n ∧ a ≠ b)) (h : cmt n y w) : cmt n (gr k a b y) (gr k a b w) := by
  rcases hk with hk | ⟨hk, hb, hab⟩
  · rw [show gr k a b y = sg k a y from if_pos hk, show gr k a b w = sg k a w from if_pos hk]
    rcases (by omega : k = 0 ∨ k = 1 ∨ k = 2 ∨ k = 3 ∨ k = 4) with rfl | rfl | rfl | rfl | rfl
    · exact h
    · exact h
    · exact h
    · rw [← e_H, ← e_H]; exact cmt_H h
    · rw [← e_S, ← e_S]; exact cmt_S h
  · rw [show gr k a b y = cpl k a b y from if_neg (by omega), show gr k a b w = cpl k a b w from if_neg (by omega)]
    rcases hk with rfl | rfl | rfl
    · rw [← e_N hab, ← e_N hab]; exact cmt_H (cmt_C hb ha (fun q => hab q.symm) (cmt_H h))
    · rw [← e_Z, ← e_Z]; exact cmt_C hb ha (fun q => hab q.symm) h
    · exact cmt_W ha hb hab h
