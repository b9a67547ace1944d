/-! Long.bitCount counts -/
/-- byte by byte -/
def bmN (g : Nat → Nat) : Nat → Nat → Nat
  | 0, _ => 0
  | k + 1, n => 256 * bmN g k (n / 256) + g (n % 256)
def rpN (b : Nat) : Nat → Nat
  | 0 => 0
  | k + 1 => 256 * rpN b k + b
theorem b_1 : ∀ v, v < 256 → ∀ p, p < 2 → ((128 * p + v / 2) &&& 85) ≤ v ∧ v - ((128 * p + v / 2) &&& 85) = f1 v := by decide +kernel
theorem b_2 : ∀ v, v < 256 → f1 v < 256 ∧ ∀ p, p < 4 → (f1 v &&& 51) + ((64 * p + f1 v / 4) &&& 51) = f2 (f1 v) := by decide +kernel
theorem b_3 : ∀ v, v < 256 → f2 (f1 v) ≤ 68 ∧ f2 (f1 v) % 16 ≤ 4 ∧ f3 (f2 (f1 v)) ≤ 8 ∧ ∀ p, p < 16 → (16 * p + f2 (f1 v) + f2 (f1 v) / 16) % 16 = f3 (f2 (f1 v)) ∧ f3 (f2 (f1 v)) = pcn 8 v := by decide +kernel
theorem s_1 : ∀ k n, n < 256 ^ k → (n / 2 &&& rpN 85 k) ≤ n ∧ n - (n / 2 &&& rpN 85 k) = bmN f1 k n
  | 0, n, h => by
    have : n = 0 := by simpa using h
    subst this
    exact ⟨by decide, rfl⟩
  | k + 1, n, h => by
    have hq : n / 256 < 256 ^ k := by
      rw [Nat.pow_succ] at h
      exact Nat.div_lt_of_lt_mul (by rw [Nat.mul_comm]; exact h)
    have ⟨i1, i2⟩ := s_1 k (n / 256) hq
    have ⟨j1, j2⟩ := b_1 (n % 256) (Nat.mod_lt _ (by decide)) (n / 256 % 2) (Nat.mod_lt _ (by decide))
    have e : n / 2 = 2 ^ 8 * (n / 256 / 2) + (128 * (n / 256 % 2) + n % 256 / 2) := by omega
    have e2 : n / 2 &&& rpN 85 (k + 1) = 256 * (n / 256 / 2 &&& rpN 85 k) + ((128 * (n / 256 % 2) + n % 256 / 2) &&& 85) := by
      rw [e, show rpN 85 (k + 1) = 2 ^ 8 * rpN 85 k + 85 from rfl, land_sp 8 _ _ _ _ (by omega) (by decide)]
    rw [e2]
    refine ⟨by omega, ?_⟩
    show _ = 256 * bmN f1 k (n / 256) + f1 (n % 256)
    rw [← i2, ← j2]
    omega
theorem bm_lt {g : Nat → Nat} (hg : ∀ v, v < 256 → g v < 256) : ∀ k n, bmN g k n < 256 ^ k
  | 0, _ => by show 0 < 1; decide
  | k + 1, n => by
    have a := bm_lt hg k (n / 256)
    have b := hg (n % 256) (Nat.mod_lt _ (by decide))
    show 256 * bmN g k (n / 256) + g (n % 256) < 256 ^ (k + 1)
    rw [Nat.pow_succ]
    omega
theorem s_2 : ∀ k n, (bmN f1 k n &&& rpN 51 k) + (bmN f1 k n / 4 &&& rpN 51 k) = bmN (fun v => f2 (f1 v)) k n
  | 0, n => by
    show (0 &&& 0) + (0 / 4 &&& 0) = 0
    decide
  | k + 1, n => by
    have i := s_2 k (n / 256)
    have ⟨j0, j⟩ := b_2 (n % 256) (Nat.mod_lt _ (by decide))
    have j := j (bmN f1 k (n / 256) % 4) (Nat.mod_lt _ (by decide))
    have e : bmN f1 (k + 1) n = 2 ^ 8 * bmN f1 k (n / 256) + f1 (n % 256) := rfl
    have e4 : bmN f1 (k + 1) n / 4 = 2 ^ 8 * (bmN f1 k (n / 256) / 4) + (64 * (bmN f1 k (n / 256) % 4) + f1 (n % 256) / 4) := by rw [e]; omega
    rw [e4, e, show rpN 51 (k + 1) = 2 ^ 8 * rpN 51 k + 51 from rfl, land_sp 8 _ _ _ _ (by omega) (by decide), land_sp 8 _ _ _ _ (by omega) (by decide)]
    show _ = 256 * bmN (fun v => f2 (f1 v)) k (n / 256) + f2 (f1 (n % 256))
    rw [← i, ← j]
    omega
theorem s_3 : ∀ k n, bmN (fun v => f2 (f1 v)) k n + bmN (fun v => f2 (f1 v)) k n / 16 &&& rpN 15 k = bmN (fun v => f3 (f2 (f1 v))) k n
  | 0, n => by
    show (0 + 0 / 16) &&& 0 = 0
    decide
  | k + 1, n => by
    have i := s_3 k (n / 256)
    have ⟨j0, j1, j2, j⟩ := b_3 (n % 256) (Nat.mod_lt _ (by decide))
    have j := (j (bmN (fun v => f2 (f1 v)) k (n / 256) % 16) (Nat.mod_lt _ (by decide))).1
    have e : bmN (fun v => f2 (f1 v)) (k + 1) n = 256 * bmN (fun v => f2 (f1 v)) k (n / 256) + f2 (f1 (n % 256)) := rfl
    have l4 : bmN (fun v => f2 (f1 v)) k (n / 256) % 16 ≤ 4 := by
      cases k with
      | zero => exact Nat.zero_le _
      | succ k =>
        show (256 * bmN (fun v => f2 (f1 v)) k (n / 256 / 256) + f2 (f1 (n / 256 % 256))) % 16 ≤ 4
        have := (b_3 (n / 256 % 256) (Nat.mod_lt _ (by decide))).2.1
        omega
    generalize bmN (fun v => f2 (f1 v)) k (n / 256) = a at *
    generalize hw : f2 (f1 (n % 256)) = w at *
    have e2 : bmN (fun v => f2 (f1 v)) (k + 1) n + bmN (fun v => f2 (f1 v)) (k + 1) n / 16 = 2 ^ 8 * (a + a / 16) + (16 * (a % 16) + w + w / 16) := by rw [e]; omega
    rw [e2, show rpN 15 (k + 1) = 2 ^ 8 * rpN 15 k + 15 from rfl, land_sp 8 _ _ _ _ (by omega) (by decide), i]
    show _ = 256 * bmN (fun v => f3 (f2 (f1 v))) k (n / 256) + f3 (f2 (f1 (n % 256)))
    rw [show (15 : Nat) = 2 ^ 4 - 1 from rfl, Nat.and_two_pow_sub_one_eq_mod, hw, ← j]
theorem bm_8 (n : Nat) : ∃ a0 a1 a2 a3 a4 a5 a6 a7 : Nat, (a0 ≤ 8 ∧ a1 ≤ 8 ∧ a2 ≤ 8 ∧ a3 ≤ 8 ∧ a4 ≤ 8 ∧ a5 ≤ 8 ∧ a6 ≤ 8 ∧ a7 ≤ 8) ∧ bmN (fun v => f3 (f2 (f1 v))) 8 n = a0 + 256 * a1 + 65536 * a2 + 16777216 * a3 + 4294967296 * a4 + 1099511627776 * a5 + 281474976710656 * a6 + 72057594037927936 * a7 ∧ (n < 256 ^ 8 → pcn 64 n = a0 + a1 + a2 + a3 + a4 + a5 + a6 + a7) := by
  have g : ∀ v, v < 256 → f3 (f2 (f1 v)) ≤ 8 ∧ f3 (f2 (f1 v)) = pcn 8 v := fun v hv => by
    have ⟨_, _, j2, j⟩ := b_3 v hv
    exact ⟨j2, (j 0 (by decide)).2⟩
  have m := fun x : Nat => g (x % 256) (Nat.mod_lt _ (by decide))
  refine ⟨_, _, _, _, _, _, _, _, ⟨(m n).1, (m (n / 256)).1, (m (n / 256 / 256)).1, (m (n / 256 / 256 / 256)).1, (m (n / 256 / 256 / 256 / 256)).1, (m (n / 256 / 256 / 256 / 256 / 256)).1, (m (n / 256 / 256 / 256 / 256 / 256 / 256)).1, (m (n / 256 / 256 / 256 / 256 / 256 / 256 / 256)).1⟩, ?_, fun hn => ?_⟩
  · simp only [bmN]
    generalize f3 (f2 (f1 (n % 256))) = a0
    generalize f3 (f2 (f1 (n / 256 % 256))) = a1
    generalize f3 (f2 (f1 (n / 256 / 256 % 256))) = a2
    generalize f3 (f2 (f1 (n / 256 / 256 / 256 % 256))) = a3
    generalize f3 (f2 (f1 (n / 256 / 256 / 256 / 256 % 256))) = a4
    generalize f3 (f2 (f1 (n / 256 / 256 / 256 / 256 / 256 % 256))) = a5
    generalize f3 (f2 (f1 (n / 256 / 256 / 256 / 256 / 256 / 256 % 256))) = a6
    generalize f3 (f2 (f1 (n / 256 / 256 / 256 / 256 / 256 / 256 / 256 % 256))) = a7
    clear m g
    omega
  · rw [(m n).2, (m (n / 256)).2, (m (n / 256 / 256)).2, (m (n / 256 / 256 / 256)).2, (m (n / 256 / 256 / 256 / 256)).2, (m (n / 256 / 256 / 256 / 256 / 256)).2, (m (n / 256 / 256 / 256 / 256 / 256 / 256)).2, (m (n / 256 / 256 / 256 / 256 / 256 / 256 / 256)).2]
    have sp : ∀ j x, pcn (8 + j) x = pcn 8 (x % 256) + pcn j (x / 256) := fun j x => by
      have := pcn_sp 8 (x / 256) (x % 256) (Nat.mod_lt _ (by decide)) j
      rw [show 2 ^ 8 * (x / 256) + x % 256 = x from Nat.div_add_mod x 256] at this
      exact this
    have l : n / 256 / 256 / 256 / 256 / 256 / 256 / 256 < 256 := by
      simp only [Nat.div_div_eq_div_mul]
      exact Nat.div_lt_of_lt_mul hn
    rw [show (64 : Nat) = 8 + 56 from rfl, sp, show (56 : Nat) = 8 + 48 from rfl, sp, show (48 : Nat) = 8 + 40 from rfl, sp, show (40 : Nat) = 8 + 32 from rfl, sp, show (32 : Nat) = 8 + 24 from rfl, sp, show (24 : Nat) = 8 + 16 from rfl, sp, show (16 : Nat) = 8 + 8 from rfl, sp, Nat.mod_eq_of_lt l]
    simp only [Nat.add_assoc]
/-- the sum of eight bytes -/
theorem s_f {a0 a1 a2 a3 a4 a5 a6 a7 c : Nat} (h : a0 ≤ 8 ∧ a1 ≤ 8 ∧ a2 ≤ 8 ∧ a3 ≤ 8 ∧ a4 ≤ 8 ∧ a5 ≤ 8 ∧ a6 ≤ 8 ∧ a7 ≤ 8) (hc : c = a0 + 256 * a1 + 65536 * a2 + 16777216 * a3 + 4294967296 * a4 + 1099511627776 * a5 + 281474976710656 * a6 + 72057594037927936 * a7) : ((c + c / 256) + (c + c / 256) / 65536 + ((c + c / 256) + (c + c / 256) / 65536) / 4294967296) % 128 = a0 + a1 + a2 + a3 + a4 + a5 + a6 + a7 := by
  obtain ⟨b0, b1, b2, b3, b4, b5, b6, b7⟩ := h
  have dv : ∀ x q m, 0 < m → x < m → (x + m * q) / m = q := fun x q m hm hx => by
    rw [Nat.add_mul_div_left _ _ hm, Nat.div_eq_of_lt hx, Nat.zero_add]
  have e1 : c / 256 = a1 + 256 * a2 + 65536 * a3 + 16777216 * a4 + 4294967296 * a5 + 1099511627776 * a6 + 281474976710656 * a7 := by
    rw [hc, ← dv a0 (a1 + 256 * a2 + 65536 * a3 + 16777216 * a4 + 4294967296 * a5 + 1099511627776 * a6 + 281474976710656 * a7) 256 (by decide) (by omega)]
    congr 1
    omega
  generalize c / 256 = q1 at *
  subst hc e1
  have e2 : (a0 + 256 * a1 + 65536 * a2 + 16777216 * a3 + 4294967296 * a4 + 1099511627776 * a5 + 281474976710656 * a6 + 72057594037927936 * a7 + (a1 + 256 * a2 + 65536 * a3 + 16777216 * a4 + 4294967296 * a5 + 1099511627776 * a6 + 281474976710656 * a7)) / 65536 = (a2 + a3) + 256 * (a3 + a4) + 65536 * (a4 + a5) + 16777216 * (a5 + a6) + 4294967296 * (a6 + a7) + 1099511627776 * a7 := by
    rw [← dv ((a0 + a1) + 256 * (a1 + a2)) ((a2 + a3) + 256 * (a3 + a4) + 65536 * (a4 + a5) + 16777216 * (a5 + a6) + 4294967296 * (a6 + a7) + 1099511627776 * a7) 65536 (by decide) (by omega)]
    congr 1
    omega
  rw [e2]
  have e3 : (a0 + 256 * a1 + 65536 * a2 + 16777216 * a3 + 4294967296 * a4 + 1099511627776 * a5 + 281474976710656 * a6 + 72057594037927936 * a7 + (a1 + 256 * a2 + 65536 * a3 + 16777216 * a4 + 4294967296 * a5 + 1099511627776 * a6 + 281474976710656 * a7) + ((a2 + a3) + 256 * (a3 + a4) + 65536 * (a4 + a5) + 16777216 * (a5 + a6) + 4294967296 * (a6 + a7) + 1099511627776 * a7)) / 4294967296 = (a4 + a5 + a6 + a7) + 256 * (a5 + a6 + a7) + 65536 * (a6 + a7) + 16777216 * a7 := by
    rw [← dv ((a0 + a1 + a2 + a3) + 256 * (a1 + a2 + a3 + a4) + 65536 * (a2 + a3 + a4 + a5) + 16777216 * (a3 + a4 + a5 + a6)) ((a4 + a5 + a6 + a7) + 256 * (a5 + a6 + a7) + 65536 * (a6 + a7) + 16777216 * a7) 4294967296 (by decide) (by omega)]
    congr 1
    omega
  rw [e3]
  have fin : ∀ s q : Nat, s < 128 → (s + 128 * q) % 128 = s := fun s q hs => by
    rw [Nat.add_mul_mod_self_left, Nat.mod_eq_of_lt hs]
  rw [← fin (a0 + a1 + a2 + a3 + a4 + a5 + a6 + a7) (2 * (a1 + a2 + a3 + a4) + 512 * (a2 + a3 + a4 + a5) + 131072 * (a3 + a4 + a5 + a6) + 33554432 * (a4 + a5 + a6 + a7) + 8589934592 * (a5 + a6 + a7) + 2199023255552 * (a6 + a7) + 562949953421312 * a7 + (2 * (a5 + a6 + a7) + 512 * (a6 + a7) + 131072 * a7)) (by omega)]
  congr 1
  omega
