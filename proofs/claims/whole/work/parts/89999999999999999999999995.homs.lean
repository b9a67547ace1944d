/-! gates and products: the sign of a product -/
theorem ac_ev {n : Nat} {y z : RW} (h : cmt n y z) : acN y z n % 2 = 0 := by
  have a := acN_sm y z n
  have b := (sm_z y z n).2
  unfold cmt at h
  omega
theorem sgn_x {A A' e : Nat} (hA : A % 2 = 0) (he : e < 2) (h : A' % 4 = (A + 2 * e) % 4) : (if A' % 4 = 2 then 1 else 0) = (if A % 4 = 2 then 1 else 0) ^^^ e := by
  rcases (by omega : e = 0 ∨ e = 1) with rfl | rfl
  · rw [show A' % 4 = A % 4 by omega, Nat.xor_zero]
  · by_cases c : A % 4 = 2
    · rw [if_pos c, if_neg (by omega)]
      rfl
    · rw [if_neg c, if_pos (by omega)]
      rfl
theorem xr_2 {s e : Nat} (hs : s < 2) (he : e < 2) : (2 * (s ^^^ e)) % 4 = (2 * s + 2 * e) % 4 := by
  have : ∀ s, s < 2 → ∀ e, e < 2 → (2 * (s ^^^ e)) % 4 = (2 * s + 2 * e) % 4 := by decide
  exact this s hs e he
theorem hom_1 {n a : Nat} {y z y' z' : RW} {p q r : Nat} (ha : a < n) (ys : y.2.2 < 2) (zs : z.2.2 < 2) (hp : p < 2) (hq : q < 2) (hr : r < 2) (ey : y'.2.2 = y.2.2 ^^^ p) (ez : z'.2.2 = z.2.2 ^^^ q) (ho : ∀ t, t < n → t ≠ a → phT y' z' t = phT y z t) (h : (phT y' z' a + 2 * p + 2 * q) % 4 = (phT y z a + 2 * r) % 4) (hc : cmt n y z) : (mulB n y' z').2.2 = (mulB n y z).2.2 ^^^ r := by
  have k1 := xr_2 ys hp
  have k2 := xr_2 zs hq
  have g := acw_1 (e := 2 * r) (e' := 0) ha ho (by rw [ey, ez]; omega)
  exact sgn_x (ac_ev hc) hr (by rw [Nat.add_zero] at g; exact g)
theorem hom_2 {n a b : Nat} {y z y' z' : RW} {p q r : Nat} (ha : a < n) (hb : b < n) (hab : a ≠ b) (ys : y.2.2 < 2) (zs : z.2.2 < 2) (hp : p < 2) (hq : q < 2) (hr : r < 2) (ey : y'.2.2 = y.2.2 ^^^ p) (ez : z'.2.2 = z.2.2 ^^^ q) (ho : ∀ t, t < n → t ≠ a → t ≠ b → phT y' z' t = phT y z t) (h : (phT y' z' a + phT y' z' b + 2 * p + 2 * q) % 4 = (phT y z a + phT y z b + 2 * r) % 4) (hc : cmt n y z) : (mulB n y' z').2.2 = (mulB n y z).2.2 ^^^ r := by
  have k1 := xr_2 ys hp
  have k2 := xr_2 zs hq
  have g := acw_2 (e := 2 * r) (e' := 0) ha hb hab ho (by rw [ey, ez]; omega)
  exact sgn_x (ac_ev hc) hr (by rw [Nat.add_zero] at g; exact g)
theorem nat_bt {x y : Nat} (h : ∀ t, bt x t = bt y t) : x = y := Nat.eq_of_testBit_eq fun t => by
  have := h t
  rw [bt_t, bt_t] at this
  cases p : x.testBit t <;> cases q : y.testBit t <;> first | rfl | (rw [p, q] at this; exact absurd this (by decide))
/-- h takes products to products -/
theorem hom_h {n a : Nat} {y z : RW} (ha : a < n) (ys : y.2.2 < 2) (zs : z.2.2 < 2) (hc : cmt n y z) : sg 3 a (mulB n y z) = mulB n (sg 3 a y) (sg 3 a z) := by
  have e : ∀ w : RW, sg 3 a w = ((w.1 ^^^ (w.1 &&& 2 ^ a)) ||| bt w.2.1 a * 2 ^ a, (w.2.1 ^^^ (w.2.1 &&& 2 ^ a)) ||| bt w.1 a * 2 ^ a, w.2.2 ^^^ (bt w.1 a &&& bt w.2.1 a)) := fun _ => rfl
  have b1 : ∀ (w : RW) t, bt (sg 3 a w).1 t = if t = a then bt w.2.1 a else bt w.1 t := fun w t => bt_h (bt_lt _ _)
  have b2 : ∀ (w : RW) t, bt (sg 3 a w).2.1 t = if t = a then bt w.1 a else bt w.2.1 t := fun w t => bt_h (bt_lt _ _)
  have x1 : ∀ w v : RW, bt (w.1 ^^^ v.1) a = bt w.1 a ^^^ bt v.1 a := fun w v => bt_xor _ _ _
  refine Prod.ext ?_ (Prod.ext ?_ ?_)
  · refine nat_bt fun t => ?_
    show bt (sg 3 a (mulB n y z)).1 t = bt ((sg 3 a y).1 ^^^ (sg 3 a z).1) t
    rw [b1, bt_xor, b1, b1]
    by_cases c : t = a
    · rw [if_pos c, if_pos c, if_pos c]
      exact bt_xor _ _ _
    · rw [if_neg c, if_neg c, if_neg c]
      exact bt_xor _ _ _
  · refine nat_bt fun t => ?_
    show bt (sg 3 a (mulB n y z)).2.1 t = bt ((sg 3 a y).2.1 ^^^ (sg 3 a z).2.1) t
    rw [b2, bt_xor, b2, b2]
    by_cases c : t = a
    · rw [if_pos c, if_pos c, if_pos c]
      exact bt_xor _ _ _
    · rw [if_neg c, if_neg c, if_neg c]
      exact bt_xor _ _ _
  · have l : ∀ w : RW, bt w.1 a &&& bt w.2.1 a < 2 := fun w => Nat.lt_of_le_of_lt Nat.and_le_left (bt_lt _ _)
    have g := hom_1 (y' := sg 3 a y) (z' := sg 3 a z) (p := bt y.1 a &&& bt y.2.1 a) (q := bt z.1 a &&& bt z.2.1 a) (r := (bt y.1 a ^^^ bt z.1 a) &&& (bt y.2.1 a ^^^ bt z.2.1 a)) ha ys zs (l y) (l z) (Nat.lt_of_le_of_lt Nat.and_le_left (Nat.xor_lt_two_pow (n := 1) (bt_lt _ _) (bt_lt _ _))) rfl rfl (fun t _ c => ?_) ?_ hc
    · rw [g]
      show (mulB n y z).2.2 ^^^ (bt (y.1 ^^^ z.1) a &&& bt (y.2.1 ^^^ z.2.1) a) = _
      rw [bt_xor, bt_xor]
    · unfold phT
      rw [b1, b2, b1, b2, if_neg c, if_neg c, if_neg c, if_neg c]
    · unfold phT
      rw [b1, b2, b1, b2, if_pos rfl, if_pos rfl, if_pos rfl, if_pos rfl]
      exact phs_3 _ (bt_lt _ _) _ (bt_lt _ _) _ (bt_lt _ _) _ (bt_lt _ _)
