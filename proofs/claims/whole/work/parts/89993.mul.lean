/-! ROWS that commute: class and reference multiply them alike -/
def sm (f : Nat → Nat) : Nat → Nat
  | 0 => 0
  | t + 1 => sm f t + f t
theorem pcn_up : ∀ (k n : Nat), pcn (k + 1) n = pcn k n + bt n k
  | 0, n => by
    simp only [pcn, bt]
    omega
  | k + 1, n => by
    have e : bt (n / 2) k = bt n (k + 1) := by
      unfold bt
      rw [Nat.div_div_eq_div_mul, Nat.pow_succ, Nat.mul_comm]
    show n % 2 + pcn (k + 1) (n / 2) = n % 2 + pcn k (n / 2) + bt n (k + 1)
    rw [pcn_up k (n / 2), e]
    omega
theorem pcn_sm (n : Nat) : ∀ k, pcn k n = sm (bt n) k
  | 0 => rfl
  | k + 1 => by
    rw [pcn_up, pcn_sm n k]
    rfl
theorem pc_sm {n k : Nat} (hk : k ≤ 32) (h : n < 2 ^ k) : pc n = sm (bt n) k := by
  unfold pc
  rw [show (32 : Nat) = k + (32 - k) by omega, pcn_le k n h, pcn_sm]
theorem sm_4 (a b c e : Nat → Nat) : ∀ k, sm a k + sm b k + 2 * sm c k + 3 * sm e k = sm (fun t => a t + b t + 2 * c t + 3 * e t) k
  | 0 => rfl
  | k + 1 => by
    simp only [sm]
    rw [← sm_4 a b c e k]
    omega
/-- a bit's quarter, as the class counts -/
def gq (a b c e : Nat) : Nat := (a &&& b) + (c &&& e) + 2 * (b &&& c) + 3 * ((a ^^^ c) &&& (b ^^^ e))
theorem gq_ph : ∀ a, a < 2 → ∀ b, b < 2 → ∀ c, c < 2 → ∀ e, e < 2 → (gq a b c e + phN c e a b) % 4 = 0 ∧ phN c e a b % 2 = (a * e + b * c) % 2 := by decide +kernel
/-- two ROWS commute -/
def cmt (n : Nat) (y z : RW) : Prop := sm (fun t => bt y.1 t * bt z.2.1 t + bt y.2.1 t * bt z.1 t) n % 2 = 0
theorem acN_sm (y z : RW) : ∀ n, acN y z n = 2 * (y.2.2 + z.2.2) + sm (fun t => phN (bt z.1 t) (bt z.2.1 t) (bt y.1 t) (bt y.2.1 t)) n
  | 0 => rfl
  | n + 1 => by
    simp only [acN, sm]
    rw [acN_sm y z n]
    omega
theorem sm_z (y z : RW) : ∀ n, (sm (fun t => gq (bt y.1 t) (bt y.2.1 t) (bt z.1 t) (bt z.2.1 t)) n + sm (fun t => phN (bt z.1 t) (bt z.2.1 t) (bt y.1 t) (bt y.2.1 t)) n) % 4 = 0 ∧ sm (fun t => phN (bt z.1 t) (bt z.2.1 t) (bt y.1 t) (bt y.2.1 t)) n % 2 = sm (fun t => bt y.1 t * bt z.2.1 t + bt y.2.1 t * bt z.1 t) n % 2
  | 0 => ⟨rfl, rfl⟩
  | n + 1 => by
    have h := sm_z y z n
    have g := gq_ph _ (bt_lt y.1 n) _ (bt_lt y.2.1 n) _ (bt_lt z.1 n) _ (bt_lt z.2.1 n)
    simp only [sm]
    omega
theorem qp_sm {n : Nat} {y z : RW} (hn : n ≤ 32) (y1 : y.1 < 2 ^ n) (y2 : y.2.1 < 2 ^ n) (z1 : z.1 < 2 ^ n) : qp y z = sm (fun t => gq (bt y.1 t) (bt y.2.1 t) (bt z.1 t) (bt z.2.1 t)) n % 4 := by
  have lt {a b : Nat} (h : a < 2 ^ n) : a &&& b < 2 ^ n := Nat.lt_of_le_of_lt Nat.and_le_left h
  unfold qp
  rw [pc_sm hn (lt y1), pc_sm hn (lt z1), pc_sm hn (lt y2), pc_sm hn (lt (Nat.xor_lt_two_pow y1 z1)), sm_4]
  congr 2
  funext t
  unfold gq
  rw [bt_and, bt_and, bt_and, bt_and, bt_xor, bt_xor]
theorem mul_eq {n : Nat} {y z : RW} (hn : n ≤ 32) (y1 : y.1 < 2 ^ n) (y2 : y.2.1 < 2 ^ n) (z1 : z.1 < 2 ^ n) (ys : y.2.2 < 2) (zs : z.2.2 < 2) (h : cmt n y z) : mulA y z = mulB n y z := by
  unfold mulA mulB
  congr 2
  rw [acN_sm, qp_sm hn y1 y2 z1]
  obtain ⟨g1, g2⟩ := sm_z y z n
  unfold cmt at h
  rw [h] at g2
  generalize sm (fun t => gq (bt y.1 t) (bt y.2.1 t) (bt z.1 t) (bt z.2.1 t)) n = G at *
  generalize sm (fun t => phN (bt z.1 t) (bt z.2.1 t) (bt y.1 t) (bt y.2.1 t)) n = Q at *
  rcases (by omega : G % 4 = 0 ∨ G % 4 = 2) with e | e <;> rcases (by omega : y.2.2 = 0 ∨ y.2.2 = 1) with a | a <;> rcases (by omega : z.2.2 = 0 ∨ z.2.2 = 1) with b | b <;> rw [e, a, b] <;> split <;> first | rfl | (exfalso; omega)
