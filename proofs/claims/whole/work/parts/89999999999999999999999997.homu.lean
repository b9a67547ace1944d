/-! gates and products: one CONTROL at z -/
section HMU
variable {n a b : Nat} {y z : RW}
theorem bt_o {p q t : Nat} (hab : a ≠ b) (hp : p < 2) (hq : q < 2) : bt (p * 2 ^ a ||| q * 2 ^ b) t = if t = a then p else if t = b then q else 0 := by
  have A := bt_2 (a := a) (t := t) hp
  have B := bt_2 (a := b) (t := t) hq
  rw [bt_t] at A B
  rw [bt_t, Nat.testBit_or]
  by_cases c1 : t = a
  · rw [if_pos c1] at A ⊢
    rw [if_neg (by omega)] at B
    have f : (q * 2 ^ b).testBit t = false := by
      cases u : (q * 2 ^ b).testBit t with
      | false => rfl
      | true =>
        rw [u] at B
        exact absurd B (by decide)
    rw [f, Bool.or_false]
    exact A
  · rw [if_neg c1] at A ⊢
    have f : (p * 2 ^ a).testBit t = false := by
      cases u : (p * 2 ^ a).testBit t with
      | false => rfl
      | true =>
        rw [u] at A
        exact absurd A (by decide)
    rw [f, Bool.false_or]
    exact B
theorem hom_cz (ha : a < n) (hb : b < n) (hab : a ≠ b) (ys : y.2.2 < 2) (zs : z.2.2 < 2) (hc : cmt n y z) : cpl 6 a b (mulB n y z) = mulB n (cpl 6 a b y) (cpl 6 a b z) := by
  have b1 : ∀ w : RW, (cpl 6 a b w).1 = w.1 := fun _ => rfl
  have b2 : ∀ (w : RW) t, bt (cpl 6 a b w).2.1 t = bt w.2.1 t ^^^ (if t = a then bt w.1 b else if t = b then bt w.1 a else 0) := fun w t => by
    show bt (w.2.1 ^^^ (bt w.1 b * 2 ^ a ||| bt w.1 a * 2 ^ b)) t = _
    rw [bt_xor, bt_o hab (bt_lt _ _) (bt_lt _ _)]
  refine Prod.ext rfl (Prod.ext ?_ ?_)
  · refine nat_bt fun t => ?_
    show bt (cpl 6 a b (mulB n y z)).2.1 t = bt ((cpl 6 a b y).2.1 ^^^ (cpl 6 a b z).2.1) t
    rw [b2, bt_xor, b2, b2, xr_4]
    show bt (y.2.1 ^^^ z.2.1) t ^^^ (if t = a then bt (y.1 ^^^ z.1) b else if t = b then bt (y.1 ^^^ z.1) a else 0) = _
    rw [bt_xor, bt_xor, bt_xor]
    by_cases c : t = a
    · rw [if_pos c, if_pos c, if_pos c]
    · rw [if_neg c, if_neg c, if_neg c]
      by_cases c2 : t = b
      · rw [if_pos c2, if_pos c2, if_pos c2]
      · rw [if_neg c2, if_neg c2, if_neg c2]
        rfl
  · have l : ∀ p q r : Nat, p < 2 → (p &&& q) &&& r < 2 := fun p q r h => Nat.lt_of_le_of_lt Nat.and_le_left (Nat.lt_of_le_of_lt Nat.and_le_left h)
    have g := hom_2 (y' := cpl 6 a b y) (z' := cpl 6 a b z) (p := (bt y.1 a &&& bt y.1 b) &&& (bt y.2.1 a ^^^ bt y.2.1 b)) (q := (bt z.1 a &&& bt z.1 b) &&& (bt z.2.1 a ^^^ bt z.2.1 b)) (r := ((bt y.1 a ^^^ bt z.1 a) &&& (bt y.1 b ^^^ bt z.1 b)) &&& ((bt y.2.1 a ^^^ bt z.2.1 a) ^^^ (bt y.2.1 b ^^^ bt z.2.1 b))) ha hb hab ys zs (l _ _ _ (bt_lt _ _)) (l _ _ _ (bt_lt _ _)) (l _ _ _ (Nat.xor_lt_two_pow (n := 1) (bt_lt _ _) (bt_lt _ _))) rfl rfl (fun t _ c1 c2 => ?_) ?_ hc
    · rw [g]
      show (mulB n y z).2.2 ^^^ ((bt (y.1 ^^^ z.1) a &&& bt (y.1 ^^^ z.1) b) &&& (bt (y.2.1 ^^^ z.2.1) a ^^^ bt (y.2.1 ^^^ z.2.1) b)) = _
      rw [bt_xor, bt_xor, bt_xor, bt_xor]
    · unfold phT
      rw [b1, b2, b1, b2, if_neg c1, if_neg c1, if_neg c2, if_neg c2, Nat.xor_zero, Nat.xor_zero]
    · unfold phT
      have ba : ¬ b = a := fun q => hab q.symm
      rw [b1, b2, b1, b2, b2, b2, if_pos rfl, if_pos rfl, if_neg ba, if_pos rfl, if_neg ba, if_pos rfl]
      exact phs_6 (bt_lt _ _) (bt_lt _ _) (bt_lt _ _) (bt_lt _ _) (bt_lt _ _) (bt_lt _ _) (bt_lt _ _) (bt_lt _ _)
theorem bt_w7 {x t : Nat} (hab : a ≠ b) : bt ((x ^^^ (x &&& (2 ^ a ||| 2 ^ b))) ||| bt x b * 2 ^ a ||| bt x a * 2 ^ b) t = if t = a then bt x b else if t = b then bt x a else bt x t := by
  have o := bt_o (t := t) hab (bt_lt x b) (bt_lt x a)
  rw [bt_t, Nat.testBit_or] at o
  rw [bt_t, Nat.testBit_or, Nat.testBit_or, Bool.or_assoc, Nat.testBit_xor, Nat.testBit_and, Nat.testBit_or, Nat.testBit_two_pow, Nat.testBit_two_pow]
  by_cases c1 : t = a
  · rw [if_pos c1] at o ⊢
    rw [decide_eq_true c1.symm, Bool.true_or, Bool.and_true, Bool.xor_self, Bool.false_or]
    exact o
  · rw [if_neg c1] at o ⊢
    by_cases c2 : t = b
    · rw [if_pos c2] at o ⊢
      rw [decide_eq_true c2.symm, Bool.or_true, Bool.and_true, Bool.xor_self, Bool.false_or]
      exact o
    · rw [if_neg c2] at o ⊢
      rw [decide_eq_false (fun z => c1 z.symm), decide_eq_false (fun z => c2 z.symm), Bool.or_false, Bool.and_false, Bool.xor_false]
      have f : ((bt x b * 2 ^ a).testBit t || (bt x a * 2 ^ b).testBit t) = false := by
        cases u : ((bt x b * 2 ^ a).testBit t || (bt x a * 2 ^ b).testBit t) with
        | false => rfl
        | true =>
          rw [u] at o
          exact absurd o (by decide)
      rw [f, Bool.or_false, ← bt_t]
theorem hom_w (ha : a < n) (hb : b < n) (hab : a ≠ b) (ys : y.2.2 < 2) (zs : z.2.2 < 2) (hc : cmt n y z) : cpl 7 a b (mulB n y z) = mulB n (cpl 7 a b y) (cpl 7 a b z) := by
  have b1 : ∀ (w : RW) t, bt (cpl 7 a b w).1 t = if t = a then bt w.1 b else if t = b then bt w.1 a else bt w.1 t := fun w t => bt_w7 hab
  have b2 : ∀ (w : RW) t, bt (cpl 7 a b w).2.1 t = if t = a then bt w.2.1 b else if t = b then bt w.2.1 a else bt w.2.1 t := fun w t => bt_w7 hab
  have ba : ¬ b = a := fun q => hab q.symm
  refine Prod.ext ?_ (Prod.ext ?_ ?_)
  · refine nat_bt fun t => ?_
    show bt (cpl 7 a b (mulB n y z)).1 t = bt ((cpl 7 a b y).1 ^^^ (cpl 7 a b z).1) t
    rw [b1, bt_xor, b1, b1]
    by_cases c : t = a
    · rw [if_pos c, if_pos c, if_pos c]
      exact bt_xor _ _ _
    · rw [if_neg c, if_neg c, if_neg c]
      by_cases c2 : t = b
      · rw [if_pos c2, if_pos c2, if_pos c2]
        exact bt_xor _ _ _
      · rw [if_neg c2, if_neg c2, if_neg c2]
        exact bt_xor _ _ _
  · refine nat_bt fun t => ?_
    show bt (cpl 7 a b (mulB n y z)).2.1 t = bt ((cpl 7 a b y).2.1 ^^^ (cpl 7 a b z).2.1) t
    rw [b2, bt_xor, b2, b2]
    by_cases c : t = a
    · rw [if_pos c, if_pos c, if_pos c]
      exact bt_xor _ _ _
    · rw [if_neg c, if_neg c, if_neg c]
      by_cases c2 : t = b
      · rw [if_pos c2, if_pos c2, if_pos c2]
        exact bt_xor _ _ _
      · rw [if_neg c2, if_neg c2, if_neg c2]
        exact bt_xor _ _ _
  · have g := hom_2 (y' := cpl 7 a b y) (z' := cpl 7 a b z) (p := 0) (q := 0) (r := 0) ha hb hab ys zs (by decide) (by decide) (by decide) (Nat.xor_zero _).symm (Nat.xor_zero _).symm (fun t _ c1 c2 => ?_) ?_ hc
    · rw [g, Nat.xor_zero]
      rfl
    · unfold phT
      rw [b1, b2, b1, b2, if_neg c1, if_neg c1, if_neg c1, if_neg c1, if_neg c2, if_neg c2, if_neg c2, if_neg c2]
    · unfold phT
      rw [b1, b2, b1, b2, b1, b2, b1, b2]
      simp only [if_true, if_neg ba]
      omega
end HMU
