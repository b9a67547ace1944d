/-! rows below 2^n stay so -/
def rw_n (n : Nat) (y : RW) : Prop := y.1 < 2 ^ n ∧ y.2.1 < 2 ^ n ∧ y.2.2 < 2
theorem rw_20 {n : Nat} {y : RW} (hn : n ≤ 20) (h : rw_n n y) : rw_ok y := by
  have : 2 ^ n ≤ 2 ^ 20 := Nat.pow_le_pow_right (by decide) hn
  exact ⟨by have := h.1; omega, by have := h.2.1; omega, h.2.2⟩
theorem btn {m a c n : Nat} (hc : c < n) : bt m a * 2 ^ c < 2 ^ n := by
  have h1 := bt_lt m a
  have h2 : 2 ^ c < 2 ^ n := Nat.pow_lt_pow_right (by decide) hc
  have h3 : bt m a * 2 ^ c ≤ 1 * 2 ^ c := Nat.mul_le_mul (by omega) (Nat.le_refl _)
  omega
theorem andn {a b n : Nat} (h : a < 2 ^ n) : a &&& b < 2 ^ n := Nat.lt_of_le_of_lt Nat.and_le_left h
theorem n_nH {n a : Nat} {y : RW} (h : rw_n n y) : rw_n n (nH a y) := ⟨Nat.xor_lt_two_pow h.1 (andn (Nat.xor_lt_two_pow h.1 h.2.1)), Nat.xor_lt_two_pow h.2.1 (andn (Nat.xor_lt_two_pow h.1 h.2.1)), Nat.xor_lt_two_pow (n := 1) h.2.2 (bt_lt _ _)⟩
theorem n_nS {n a : Nat} {y : RW} (h : rw_n n y) : rw_n n (nS a y) := ⟨h.1, Nat.xor_lt_two_pow h.2.1 (andn h.1), Nat.xor_lt_two_pow (n := 1) h.2.2 (bt_lt _ _)⟩
theorem n_nC {n p q : Nat} {y : RW} (hp : p < n) (hq : q < n) (h : rw_n n y) : rw_n n (nC p q y) := ⟨h.1, Nat.xor_lt_two_pow h.2.1 (Nat.or_lt_two_pow (btn hq) (btn hp)), Nat.xor_lt_two_pow (n := 1) h.2.2 (Nat.lt_of_le_of_lt Nat.and_le_left (Nat.lt_of_le_of_lt Nat.and_le_left (bt_lt _ _)))⟩
theorem n_exg {a b n m : Nat} (ha : a < n) (hb : b < n) (h : m < 2 ^ n) : exg a b m < 2 ^ n := by
  have e (x c : Nat) (hc : c < n) : x % 2 * 2 ^ c < 2 ^ n := by
    have h1 : x % 2 < 2 := Nat.mod_lt _ (by decide)
    have h2 : 2 ^ c < 2 ^ n := Nat.pow_lt_pow_right (by decide) hc
    have h3 : x % 2 * 2 ^ c ≤ 1 * 2 ^ c := Nat.mul_le_mul (by omega) (Nat.le_refl _)
    omega
  exact Nat.xor_lt_two_pow h (Nat.or_lt_two_pow (e _ _ ha) (e _ _ hb))
theorem n_gr {n k a b : Nat} {y : RW} (ha : a < n) (hk : k < 5 ∨ ((k = 5 ∨ k = 6 ∨ k = 7) ∧ b < n ∧ a ≠ b)) (h : rw_n n y) : rw_n n (gr k a b y) := by
  have x2 : ∀ m n, m < 2 → n < 2 → m ^^^ n < 2 := fun m n h1 h2 => Nat.xor_lt_two_pow (n := 1) h1 h2
  rcases hk with hk | ⟨hk, hb, hab⟩
  · rw [show gr k a b y = sg k a y from if_pos hk]
    rcases (by omega : k = 0 ∨ k = 1 ∨ k = 2 ∨ k = 3 ∨ k = 4) with rfl | rfl | rfl | rfl | rfl
    · exact ⟨h.1, h.2.1, x2 _ _ h.2.2 (bt_lt _ _)⟩
    · exact ⟨h.1, h.2.1, x2 _ _ h.2.2 (x2 _ _ (bt_lt _ _) (bt_lt _ _))⟩
    · exact ⟨h.1, h.2.1, x2 _ _ h.2.2 (bt_lt _ _)⟩
    · rw [← e_H]; exact n_nH h
    · rw [← e_S]; exact n_nS h
  · rw [show gr k a b y = cpl k a b y from if_neg (by omega)]
    rcases hk with rfl | rfl | rfl
    · rw [← e_N hab]; exact n_nH (n_nC hb ha (n_nH h))
    · rw [← e_Z]; exact n_nC hb ha h
    · rw [← e_W]; exact ⟨n_exg hb ha h.1, n_exg hb ha h.2.1, h.2.2⟩
theorem n_mul {n : Nat} {y z : RW} (hy : rw_n n y) (hz : rw_n n z) : rw_n n (mulA y z) := by
  have q4 : qp y z < 4 := Nat.mod_lt _ (by decide)
  exact ⟨Nat.xor_lt_two_pow hy.1 hz.1, Nat.xor_lt_two_pow hy.2.1 hz.2.1, Nat.xor_lt_two_pow (n := 1) hy.2.2 (Nat.xor_lt_two_pow (n := 1) hz.2.2 (by omega))⟩
