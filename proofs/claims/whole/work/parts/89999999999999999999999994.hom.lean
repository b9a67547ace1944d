/-! gates and products: one WIRE -/
theorem smt_z {P : Nat → Nat} {a : Nat} : ∀ n, a < n → sm P n = P a + sm (fun t => if t = a then 0 else P t) n
  | 0, h => absurd h (Nat.not_lt_zero _)
  | n + 1, h => by
    show sm P n + P n = P a + (sm (fun t => if t = a then 0 else P t) n + (if n = a then 0 else P n))
    by_cases e : n = a
    · have z : ∀ m, m ≤ a → sm (fun t => if t = a then 0 else P t) m = sm P m := fun m => by
        induction m with
        | zero => intro _; rfl
        | succ m ih =>
          intro hm
          show sm (fun t => if t = a then 0 else P t) m + (if m = a then 0 else P m) = sm P m + P m
          rw [ih (by omega), if_neg (by omega)]
      rw [if_pos e, e, z a (Nat.le_refl _)]
      omega
    · rw [if_neg e, smt_z (P := P) (a := a) n (by omega)]
      omega
theorem sm_ex {P Q : Nat → Nat} : ∀ n, (∀ t, t < n → P t = Q t) → sm P n = sm Q n
  | 0, _ => rfl
  | n + 1, h => by
    show sm P n + P n = sm Q n + Q n
    rw [sm_ex n fun t ht => h t (by omega), h n (by omega)]
def phT (y z : RW) (t : Nat) : Nat := phN (bt z.1 t) (bt z.2.1 t) (bt y.1 t) (bt y.2.1 t)
theorem ac_sm (y z : RW) : ∀ n, acN y z n = 2 * (y.2.2 + z.2.2) + sm (phT y z) n
  | 0 => rfl
  | n + 1 => by
    show acN y z n + phT y z n = 2 * (y.2.2 + z.2.2) + (sm (phT y z) n + phT y z n)
    rw [ac_sm y z n]
    omega
theorem acw_1 {y z y' z' : RW} {n a e e' : Nat} (ha : a < n) (ho : ∀ t, t < n → t ≠ a → phT y' z' t = phT y z t) (hp : (phT y' z' a + 2 * (y'.2.2 + z'.2.2) + e') % 4 = (phT y z a + 2 * (y.2.2 + z.2.2) + e) % 4) : (acN y' z' n + e') % 4 = (acN y z n + e) % 4 := by
  rw [ac_sm, ac_sm, smt_z n ha, smt_z (P := phT y z) n ha]
  have r : sm (fun t => if t = a then 0 else phT y' z' t) n = sm (fun t => if t = a then 0 else phT y z t) n := sm_ex n fun t ht => by
    by_cases c : t = a
    · rw [if_pos c, if_pos c]
    · rw [if_neg c, if_neg c, ho t ht c]
  rw [r]
  omega
theorem acw_2 {y z y' z' : RW} {n a b e e' : Nat} (ha : a < n) (hb : b < n) (hab : a ≠ b) (ho : ∀ t, t < n → t ≠ a → t ≠ b → phT y' z' t = phT y z t) (hp : (phT y' z' a + phT y' z' b + 2 * (y'.2.2 + z'.2.2) + e') % 4 = (phT y z a + phT y z b + 2 * (y.2.2 + z.2.2) + e) % 4) : (acN y' z' n + e') % 4 = (acN y z n + e) % 4 := by
  have s : ∀ y z, sm (phT y z) n = phT y z a + (phT y z b + sm (fun t => if t = b then 0 else if t = a then 0 else phT y z t) n) := fun y z => by
    rw [smt_z n ha, smt_z (P := fun t => if t = a then 0 else phT y z t) n hb, if_neg (fun q => hab q.symm)]
  rw [ac_sm, ac_sm, s, s]
  have r : sm (fun t => if t = b then 0 else if t = a then 0 else phT y' z' t) n = sm (fun t => if t = b then 0 else if t = a then 0 else phT y z t) n := sm_ex n fun t ht => by
    by_cases c : t = b
    · rw [if_pos c, if_pos c]
    · rw [if_neg c, if_neg c]
      by_cases c2 : t = a
      · rw [if_pos c2, if_pos c2]
      · rw [if_neg c2, if_neg c2, ho t ht c2 c]
  rw [r]
  omega
theorem bt_2 {m a t : Nat} (hm : m < 2) : bt (m * 2 ^ a) t = if t = a then m else 0 := by
  rcases (by omega : m = 0 ∨ m = 1) with e | e
  · rw [e, Nat.zero_mul, ite_self]
    unfold bt
    rw [Nat.zero_div]
  · rw [e, Nat.one_mul, bt_t, Nat.testBit_two_pow]
    by_cases c : t = a
    · rw [if_pos c, decide_eq_true c.symm]
      rfl
    · rw [if_neg c, decide_eq_false (fun z => c z.symm)]
      rfl
theorem bt_h {x m a t : Nat} (hm : m < 2) : bt ((x ^^^ (x &&& 2 ^ a)) ||| m * 2 ^ a) t = if t = a then m else bt x t := by
  have h := bt_2 (m := m) (a := a) (t := t) hm
  rw [bt_t] at h
  rw [bt_t, Nat.testBit_or, Nat.testBit_xor, Nat.testBit_and, Nat.testBit_two_pow]
  by_cases c : t = a
  · rw [if_pos c] at h ⊢
    rw [decide_eq_true c.symm, Bool.and_true, Bool.xor_self, Bool.false_or]
    exact h
  · rw [if_neg c] at h ⊢
    have f : (m * 2 ^ a).testBit t = false := by
      cases q : (m * 2 ^ a).testBit t with
      | false => rfl
      | true =>
        rw [q] at h
        exact absurd h (by decide)
    rw [decide_eq_false (fun z => c z.symm), Bool.and_false, Bool.xor_false, f, Bool.or_false, ← bt_t]
