/-! gates and products: x, y, z, s, and one CONTROL at x -/
section HMT
variable {n a b : Nat} {y z : RW}
theorem hom_p {f : RW → Nat} (ha : a < n) (ys : y.2.2 < 2) (zs : z.2.2 < 2) (hc : cmt n y z) (hf : ∀ w, f w < 2) (hx : f (mulB n y z) = f y ^^^ f z) : (fun w : RW => ((w.1, w.2.1, w.2.2 ^^^ f w) : RW)) (mulB n y z) = mulB n ((fun w : RW => ((w.1, w.2.1, w.2.2 ^^^ f w) : RW)) y) ((fun w : RW => ((w.1, w.2.1, w.2.2 ^^^ f w) : RW)) z) := by
  refine Prod.ext rfl (Prod.ext rfl ?_)
  have g := hom_1 (y' := (y.1, y.2.1, y.2.2 ^^^ f y)) (z' := (z.1, z.2.1, z.2.2 ^^^ f z)) (p := f y) (q := f z) (r := f y ^^^ f z) ha ys zs (hf y) (hf z) (Nat.xor_lt_two_pow (n := 1) (hf y) (hf z)) rfl rfl (fun t _ _ => rfl) (by
    have := xr_2 (hf y) (hf z)
    show (phT y z a + 2 * f y + 2 * f z) % 4 = _
    omega) hc
  show (mulB n y z).2.2 ^^^ f (mulB n y z) = _
  rw [hx]
  exact g.symm
theorem hom_x (ha : a < n) (ys : y.2.2 < 2) (zs : z.2.2 < 2) (hc : cmt n y z) : sg 0 a (mulB n y z) = mulB n (sg 0 a y) (sg 0 a z) := hom_p (f := fun w => bt w.2.1 a) ha ys zs hc (fun _ => bt_lt _ _) (bt_xor _ _ _)
theorem hom_y (ha : a < n) (ys : y.2.2 < 2) (zs : z.2.2 < 2) (hc : cmt n y z) : sg 1 a (mulB n y z) = mulB n (sg 1 a y) (sg 1 a z) := hom_p (f := fun w => bt w.1 a ^^^ bt w.2.1 a) ha ys zs hc (fun _ => Nat.xor_lt_two_pow (n := 1) (bt_lt _ _) (bt_lt _ _)) (by
  show bt (y.1 ^^^ z.1) a ^^^ bt (y.2.1 ^^^ z.2.1) a = (bt y.1 a ^^^ bt y.2.1 a) ^^^ (bt z.1 a ^^^ bt z.2.1 a)
  rw [bt_xor, bt_xor, Nat.xor_assoc, Nat.xor_assoc]
  congr 1
  rw [← Nat.xor_assoc, Nat.xor_comm (bt z.1 a), Nat.xor_assoc])
theorem hom_z (ha : a < n) (ys : y.2.2 < 2) (zs : z.2.2 < 2) (hc : cmt n y z) : sg 2 a (mulB n y z) = mulB n (sg 2 a y) (sg 2 a z) := hom_p (f := fun w => bt w.1 a) ha ys zs hc (fun _ => bt_lt _ _) (bt_xor _ _ _)
theorem xr_4 (p q r s : Nat) : (p ^^^ q) ^^^ (r ^^^ s) = (p ^^^ r) ^^^ (q ^^^ s) := by
  rw [Nat.xor_assoc, Nat.xor_assoc, ← Nat.xor_assoc q, Nat.xor_comm q r, Nat.xor_assoc r]
theorem hom_s (ha : a < n) (ys : y.2.2 < 2) (zs : z.2.2 < 2) (hc : cmt n y z) : sg 4 a (mulB n y z) = mulB n (sg 4 a y) (sg 4 a z) := by
  have b1 : ∀ w : RW, (sg 4 a w).1 = w.1 := fun _ => rfl
  have b2 : ∀ (w : RW) t, bt (sg 4 a w).2.1 t = bt w.2.1 t ^^^ (if t = a then bt w.1 a else 0) := fun w t => by
    show bt (w.2.1 ^^^ bt w.1 a * 2 ^ a) t = _
    rw [bt_xor, bt_2 (bt_lt _ _)]
  refine Prod.ext rfl (Prod.ext ?_ ?_)
  · refine nat_bt fun t => ?_
    show bt (sg 4 a (mulB n y z)).2.1 t = bt ((sg 4 a y).2.1 ^^^ (sg 4 a z).2.1) t
    rw [b2, bt_xor, b2, b2, xr_4]
    show bt (y.2.1 ^^^ z.2.1) t ^^^ (if t = a then bt (y.1 ^^^ z.1) a else 0) = _
    rw [bt_xor, bt_xor]
    by_cases c : t = a
    · rw [if_pos c, if_pos c, if_pos c]
    · rw [if_neg c, if_neg c, if_neg c]
      rfl
  · have l : ∀ w : RW, bt w.1 a &&& bt w.2.1 a < 2 := fun w => Nat.lt_of_le_of_lt Nat.and_le_left (bt_lt _ _)
    have g := hom_1 (y' := sg 4 a y) (z' := sg 4 a z) (p := bt y.1 a &&& bt y.2.1 a) (q := bt z.1 a &&& bt z.2.1 a) (r := (bt y.1 a ^^^ bt z.1 a) &&& (bt y.2.1 a ^^^ bt z.2.1 a)) ha ys zs (l y) (l z) (Nat.lt_of_le_of_lt Nat.and_le_left (Nat.xor_lt_two_pow (n := 1) (bt_lt _ _) (bt_lt _ _))) rfl rfl (fun t _ c => ?_) ?_ hc
    · rw [g]
      show (mulB n y z).2.2 ^^^ (bt (y.1 ^^^ z.1) a &&& bt (y.2.1 ^^^ z.2.1) a) = _
      rw [bt_xor, bt_xor]
    · unfold phT
      rw [b1, b2, b1, b2, if_neg c, if_neg c, Nat.xor_zero, Nat.xor_zero]
    · unfold phT
      rw [b1, b2, b1, b2, if_pos rfl, if_pos rfl]
      exact phs_4 _ (bt_lt _ _) _ (bt_lt _ _) _ (bt_lt _ _) _ (bt_lt _ _)
theorem hom_c (ha : a < n) (hb : b < n) (hab : a ≠ b) (ys : y.2.2 < 2) (zs : z.2.2 < 2) (hc : cmt n y z) : cpl 5 a b (mulB n y z) = mulB n (cpl 5 a b y) (cpl 5 a b z) := by
  have b1 : ∀ (w : RW) t, bt (cpl 5 a b w).1 t = bt w.1 t ^^^ (if t = b then bt w.1 a else 0) := fun w t => by
    show bt (w.1 ^^^ bt w.1 a * 2 ^ b) t = _
    rw [bt_xor, bt_2 (bt_lt _ _)]
  have b2 : ∀ (w : RW) t, bt (cpl 5 a b w).2.1 t = bt w.2.1 t ^^^ (if t = a then bt w.2.1 b else 0) := fun w t => by
    show bt (w.2.1 ^^^ bt w.2.1 b * 2 ^ a) t = _
    rw [bt_xor, bt_2 (bt_lt _ _)]
  refine Prod.ext ?_ (Prod.ext ?_ ?_)
  · refine nat_bt fun t => ?_
    show bt (cpl 5 a b (mulB n y z)).1 t = bt ((cpl 5 a b y).1 ^^^ (cpl 5 a b z).1) t
    rw [b1, bt_xor, b1, b1, xr_4]
    show bt (y.1 ^^^ z.1) t ^^^ (if t = b then bt (y.1 ^^^ z.1) a else 0) = _
    rw [bt_xor, bt_xor]
    by_cases c : t = b
    · rw [if_pos c, if_pos c, if_pos c]
    · rw [if_neg c, if_neg c, if_neg c]
      rfl
  · refine nat_bt fun t => ?_
    show bt (cpl 5 a b (mulB n y z)).2.1 t = bt ((cpl 5 a b y).2.1 ^^^ (cpl 5 a b z).2.1) t
    rw [b2, bt_xor, b2, b2, xr_4]
    show bt (y.2.1 ^^^ z.2.1) t ^^^ (if t = a then bt (y.2.1 ^^^ z.2.1) b else 0) = _
    rw [bt_xor, bt_xor]
    by_cases c : t = a
    · rw [if_pos c, if_pos c, if_pos c]
    · rw [if_neg c, if_neg c, if_neg c]
      rfl
  · have l : ∀ p q r : Nat, p < 2 → (p &&& q) &&& r < 2 := fun p q r h => Nat.lt_of_le_of_lt Nat.and_le_left (Nat.lt_of_le_of_lt Nat.and_le_left h)
    have g := hom_2 (y' := cpl 5 a b y) (z' := cpl 5 a b z) (p := (bt y.1 a &&& bt y.2.1 b) &&& (bt y.1 b ^^^ bt y.2.1 a ^^^ 1)) (q := (bt z.1 a &&& bt z.2.1 b) &&& (bt z.1 b ^^^ bt z.2.1 a ^^^ 1)) (r := ((bt y.1 a ^^^ bt z.1 a) &&& (bt y.2.1 b ^^^ bt z.2.1 b)) &&& ((bt y.1 b ^^^ bt z.1 b) ^^^ (bt y.2.1 a ^^^ bt z.2.1 a) ^^^ 1)) ha hb hab ys zs (l _ _ _ (bt_lt _ _)) (l _ _ _ (bt_lt _ _)) (l _ _ _ (Nat.xor_lt_two_pow (n := 1) (bt_lt _ _) (bt_lt _ _))) rfl rfl (fun t _ c1 c2 => ?_) ?_ hc
    · rw [g]
      show (mulB n y z).2.2 ^^^ ((bt (y.1 ^^^ z.1) a &&& bt (y.2.1 ^^^ z.2.1) b) &&& (bt (y.1 ^^^ z.1) b ^^^ bt (y.2.1 ^^^ z.2.1) a ^^^ 1)) = _
      rw [bt_xor, bt_xor, bt_xor, bt_xor]
    · unfold phT
      rw [b1, b2, b1, b2, if_neg c1, if_neg c1, if_neg c2, if_neg c2, Nat.xor_zero, Nat.xor_zero, Nat.xor_zero, Nat.xor_zero]
    · unfold phT
      rw [b1, b2, b1, b2, b1, b2, b1, b2, if_pos rfl, if_pos rfl, if_pos rfl, if_pos rfl, if_neg hab, if_neg hab, if_neg (fun q => hab q.symm), if_neg (fun q => hab q.symm), Nat.xor_zero, Nat.xor_zero, Nat.xor_zero, Nat.xor_zero]
      exact phs_5 (bt_lt _ _) (bt_lt _ _) (bt_lt _ _) (bt_lt _ _) (bt_lt _ _) (bt_lt _ _) (bt_lt _ _) (bt_lt _ _)
end HMT
