/-! gates take products of rows to products -/
theorem grB {n k a b : Nat} {y z : RW} (ha : a < n) (hk : k < 5 ∨ ((k = 5 ∨ k = 6 ∨ k = 7) ∧ b < n ∧ a ≠ b)) (ys : y.2.2 < 2) (zs : z.2.2 < 2) (hc : cmt n y z) : gr k a b (mulB n y z) = mulB n (gr k a b y) (gr k a b z) := by
  rcases hk with hk | ⟨hk, hb, hab⟩
  · have e : ∀ w, gr k a b w = sg k a w := fun w => if_pos hk
    rw [e, e, e]
    rcases (by omega : k = 0 ∨ k = 1 ∨ k = 2 ∨ k = 3 ∨ k = 4) with rfl | rfl | rfl | rfl | rfl
    · exact hom_x ha ys zs hc
    · exact hom_y ha ys zs hc
    · exact hom_z ha ys zs hc
    · exact hom_h ha ys zs hc
    · exact hom_s ha ys zs hc
  · have e : ∀ w, gr k a b w = cpl k a b w := fun w => if_neg (by omega)
    rw [e, e, e]
    rcases hk with rfl | rfl | rfl
    · exact hom_c ha hb hab ys zs hc
    · exact hom_cz ha hb hab ys zs hc
    · exact hom_w ha hb hab ys zs hc
theorem grA {n k a b : Nat} {y z : RW} (n20 : n ≤ 20) (ha : a < n) (hk : k < 5 ∨ ((k = 5 ∨ k = 6 ∨ k = 7) ∧ b < n ∧ a ≠ b)) (hy : rw_n n y) (hz : rw_n n z) (hy' : rw_n n (gr k a b y)) (hz' : rw_n n (gr k a b z)) (hc : cmt n y z) : gr k a b (mulA y z) = mulA (gr k a b y) (gr k a b z) := by
  rw [mul_eq (by omega) hy.1 hy.2.1 hz.1 hy.2.2 hz.2.2 hc, mul_eq (by omega) hy'.1 hy'.2.1 hz'.1 hy'.2.2 hz'.2.2 (cmt_gr ha hk hc)]
  exact grB ha hk hy.2.2 hz.2.2 hc
