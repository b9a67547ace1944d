/-! ROWS that commute: what keeps it -/
theorem sm_m2 {f g : Nat → Nat} (h : ∀ t, f t % 2 = g t % 2) : ∀ n, sm f n % 2 = sm g n % 2
  | 0 => rfl
  | n + 1 => by
    have a := sm_m2 h n
    have b := h n
    simp only [sm]
    omega
theorem sm_pl (f g : Nat → Nat) : ∀ n, sm (fun t => f t + g t) n = sm f n + sm g n
  | 0 => rfl
  | n + 1 => by
    simp only [sm]
    rw [sm_pl f g n]
    omega
theorem cmt_c {n : Nat} {y z : RW} (h : cmt n y z) : cmt n z y := by
  unfold cmt at *
  rw [← h]
  refine sm_m2 (fun t => ?_) n
  rw [Nat.mul_comm (bt z.1 t), Nat.mul_comm (bt z.2.1 t)]
  omega
theorem cmt_s (n : Nat) (y : RW) : cmt n y y := by
  unfold cmt
  have : ∀ n, sm (fun _ => 0) n = 0 := by
    intro n
    induction n with
    | zero => rfl
    | succ n ih => simp only [sm]; omega
  rw [show (0 : Nat) = sm (fun _ => 0) n % 2 by rw [this]]
  refine sm_m2 (fun t => ?_) n
  rw [Nat.mul_comm (bt y.2.1 t)]
  omega
theorem xm_b : ∀ a, a < 2 → ∀ b, b < 2 → ∀ c, c < 2 → ((a ^^^ b) * c) % 2 = (a * c + b * c) % 2 := by decide
theorem cmt_m {n : Nat} {y z w : RW} (h1 : cmt n y w) (h2 : cmt n z w) : cmt n (mulA y z) w := by
  unfold cmt at *
  have key : sm (fun t => bt (mulA y z).1 t * bt w.2.1 t + bt (mulA y z).2.1 t * bt w.1 t) n % 2 = sm (fun t => (bt y.1 t * bt w.2.1 t + bt y.2.1 t * bt w.1 t) + (bt z.1 t * bt w.2.1 t + bt z.2.1 t * bt w.1 t)) n % 2 := by
    refine sm_m2 (fun t => ?_) n
    show (bt (y.1 ^^^ z.1) t * bt w.2.1 t + bt (y.2.1 ^^^ z.2.1) t * bt w.1 t) % 2 = _
    rw [bt_xor, bt_xor]
    have a := xm_b _ (bt_lt y.1 t) _ (bt_lt z.1 t) _ (bt_lt w.2.1 t)
    have b := xm_b _ (bt_lt y.2.1 t) _ (bt_lt z.2.1 t) _ (bt_lt w.1 t)
    omega
  rw [key, sm_pl]
  omega
theorem cmt_z {n : Nat} {y z : RW} (h1 : y.1 = 0) (h2 : z.1 = 0) : cmt n y z := by
  unfold cmt
  have : ∀ n, sm (fun _ => 0) n = 0 := by
    intro n
    induction n with
    | zero => rfl
    | succ n ih => simp only [sm]; omega
  rw [show (0 : Nat) = sm (fun _ => 0) n % 2 by rw [this]]
  refine sm_m2 (fun t => ?_) n
  rw [h1, h2]
  simp [bt]
