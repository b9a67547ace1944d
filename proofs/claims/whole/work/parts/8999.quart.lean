/-! counting the bits of 24; the factors i of a product of two ROWS, as the class counts them -/
theorem lnd {x m p : Nat} (hx : x < 2 ^ 16) (hm : m < 2 ^ 22) : x &&& (2 ^ 22 * p + m) = x &&& m := by
  have := land_sp 22 x 0 m p (by omega) hm
  rw [Nat.mul_zero, Nat.zero_add, Nat.zero_and, Nat.mul_zero, Nat.zero_add] at this
  exact this
theorem sw1_r {m l : Nat} (hm : m < 65536) (hl : l < 256) : sw1 (256 * m + l) = 256 * sw1 m + f1 l := by
  unfold sw1
  have e1 : (256 * m + l) / 2 ^ 1 = 2 ^ 8 * (m / 2) + (2 ^ 7 * (m % 2) + l / 2) := by omega
  have e2 : (1431655765 : Nat) = 2 ^ 8 * 5592405 + (2 ^ 7 * 0 + 85) := by decide
  have e3 : m / 2 ^ 1 &&& 1431655765 = m / 2 &&& 5592405 := by
    rw [show (1431655765 : Nat) = 2 ^ 22 * 341 + 1398101 by decide, show (5592405 : Nat) = 2 ^ 22 * 1 + 1398101 by decide, lnd (by omega) (by decide), lnd (by omega) (by decide)]
  rw [e3, e1, e2, land_sp 8 _ _ _ _ (by omega) (by decide), land_sp 7 _ _ _ _ (by omega) (by decide), Nat.and_zero]
  have a1 : m / 2 &&& 5592405 ≤ m / 2 := Nat.and_le_left
  have a2 := (f_a l hl).2.2.2.2.2.2.2.2
  unfold f1
  omega
theorem sw2_r {u v : Nat} (hu : u < 65536) (hv : v < 256) : sw2 (256 * u + v) = 256 * sw2 u + f2 v := by
  unfold sw2
  have e0 : 256 * u + v = 2 ^ 8 * u + v := by omega
  have e1 : (256 * u + v) / 2 ^ 2 = 2 ^ 8 * (u / 4) + (2 ^ 6 * (u % 4) + v / 4) := by omega
  have e2 : (858993459 : Nat) = 2 ^ 8 * 3355443 + 51 := by decide
  have e3 : (858993459 : Nat) = 2 ^ 8 * 3355443 + (2 ^ 6 * 0 + 51) := by decide
  have m1 : ∀ x, x < 2 ^ 16 → x &&& 858993459 = x &&& 3355443 := fun x hx => by
    rw [show (858993459 : Nat) = 2 ^ 22 * 204 + 3355443 by decide, lnd hx (by decide)]
  have e4 : (256 * u + v) &&& 858993459 = 2 ^ 8 * (u &&& 858993459) + (v &&& 51) := by
    rw [m1 u (by omega), e0, e2, land_sp 8 _ _ _ _ (by omega) (by decide)]
  have e5 : (256 * u + v) / 2 ^ 2 &&& 858993459 = 2 ^ 8 * (u / 2 ^ 2 &&& 858993459) + (v / 4 &&& 51) := by
    rw [m1 (u / 2 ^ 2) (by omega), e1, e3, land_sp 8 _ _ _ _ (by omega) (by decide), land_sp 6 _ _ _ _ (by omega) (by decide), Nat.and_zero, show u / 2 ^ 2 = u / 4 from rfl]
    omega
  rw [e4, e5]
  unfold f2
  omega
theorem sw3_r {u v : Nat} (hu : u ≤ 17476) (hv : v ≤ 68) (hn : u % 16 ≤ 4) : sw3 (256 * u + v) = 256 * sw3 u + f3 v := by
  unfold sw3
  have e1 : 256 * u + v + (256 * u + v) / 2 ^ 4 = 2 ^ 8 * (u + u / 16) + (16 * (u % 16) + v + v / 16) := by omega
  have e2 : (252645135 : Nat) = 2 ^ 8 * 986895 + 15 := by decide
  have e4 : (u + u / 2 ^ 4) &&& 252645135 = (u + u / 16) &&& 986895 := by
    rw [show (252645135 : Nat) = 2 ^ 22 * 60 + 986895 by decide, lnd (by omega) (by decide)]
  rw [e4, e1, e2, land_sp 8 _ _ _ _ (by omega) (by decide)]
  have e3 : (16 * (u % 16) + v + v / 16) &&& 15 = (v + v / 16) &&& 15 := by
    rw [show (15 : Nat) = 2 ^ 4 - 1 from rfl, Nat.and_two_pow_sub_one_eq_mod, Nat.and_two_pow_sub_one_eq_mod]
    omega
  rw [e3]
  rfl
theorem swr24 {n : Nat} (hn : n < 2 ^ 24) : swr n = pc n := by
  have en : n = 256 * (256 * (n / 65536) + n / 256 % 256) + n % 256 := by omega
  have hg : n / 65536 < 256 := by omega
  have hh : n / 256 % 256 < 256 := by omega
  have hl : n % 256 < 256 := by omega
  obtain ⟨_, _, _, g4, g5, g6, g7, g8, _⟩ := f_a _ hg
  obtain ⟨_, _, _, h4, h5, h6, h7, h8, _⟩ := f_a _ hh
  obtain ⟨_, _, _, l4, l5, l6, l7, l8, _⟩ := f_a _ hl
  have e3 : sw3 (sw2 (sw1 n)) = 256 * (256 * f3 (f2 (f1 (n / 65536))) + f3 (f2 (f1 (n / 256 % 256)))) + f3 (f2 (f1 (n % 256))) := by
    rw [congrArg sw1 en, sw1_r (by omega) hl, sw1_s hg hh, sw2_r (by omega) l4, sw2_s g4 h4, sw3_r (by omega) l5 (by omega), sw3_s g5 h5 g6]
  have e5 : swr n = f3 (f2 (f1 (n / 65536))) + f3 (f2 (f1 (n / 256 % 256))) + f3 (f2 (f1 (n % 256))) := by
    unfold swr sw5 sw4
    rw [e3, show (63 : Nat) = 2 ^ 6 - 1 from rfl, Nat.and_two_pow_sub_one_eq_mod]
    have key : ∀ a u v : Nat, a ≤ 8 → u ≤ 8 → v ≤ 8 → (256 * (256 * a + u) + v + (256 * (256 * a + u) + v) / 2 ^ 8 + (256 * (256 * a + u) + v + (256 * (256 * a + u) + v) / 2 ^ 8) / 2 ^ 16) % 2 ^ 6 = a + u + v := by
      intro a u v ha hu hv
      have a1 : (256 * (256 * a + u) + v) / 2 ^ 8 = 256 * a + u := by omega
      rw [a1]
      have a2 : (256 * (256 * a + u) + v + (256 * a + u)) / 2 ^ 16 = a := by omega
      rw [a2]
      omega
    exact key _ _ _ g8 h8 l8
  have e6 : pc n = pcn 8 (n % 256) + (pcn 8 (n / 256 % 256) + pcn 16 (n / 65536)) := by
    have := pcn_sp 8 (n / 256) (n % 256) hl 24
    rw [show 2 ^ 8 * (n / 256) + n % 256 = n by omega] at this
    have t2 := pcn_sp 8 (n / 65536) (n / 256 % 256) hh 16
    rw [show 2 ^ 8 * (n / 65536) + n / 256 % 256 = n / 256 by omega] at t2
    rw [show (24 : Nat) = 8 + 16 from rfl, t2] at this
    exact this
  rw [e5, e6, h7, l7, g7, show (16 : Nat) = 8 + 8 from rfl, pcn_le 8 _ hg 8]
  omega
theorem ct_bit24 (d n : Nat) (h : n < 2 ^ 24) (M : mm_M) : am_M (d + 1) false nm_J6_bitCount_0f7a4 [aI (nI n)] M (am_q1 (aI (nI (pc n))) M) := by
  rw [← swr24 h]
  exact ct_bitc d n (by omega) M
theorem nI_m3 (n : Nat) : nI n &&& 3 = nI (n % 4) := by
  rw [show (3 : Int32) = nI 3 from rfl, nI_and, show (3 : Nat) = 2 ^ 2 - 1 from rfl, Nat.and_two_pow_sub_one_eq_mod]
theorem nI_w (a : Nat) : nI (a + 4294967296) = nI a := by
  rw [← nI_add, show nI 4294967296 = 0 by decide, Int32.add_zero]
theorem nI_q {a b : Nat} (hb : b ≤ 4294967296) : (nI a - nI b) &&& 3 = nI ((a + 3 * b) % 4) := by
  rw [← nI_w a, nI_sub (by omega), nI_m3]
  congr 1
  omega
/-- quarters: how many factors i stand ahead of the product -/
def qp (y z : RW) : Nat := (pc (y.1 &&& y.2.1) + pc (z.1 &&& z.2.1) + 2 * pc (y.2.1 &&& z.1) + 3 * pc ((y.1 ^^^ z.1) &&& (y.2.1 ^^^ z.2.1))) % 4
section QRT
variable {d : Nat} {M : mm_M}
set_option maxRecDepth 100000 in
theorem ct_quart {y z : RW} (hy : rw_ok y) (hz : rw_ok z) : am_M (d + 2) false nm_X8_quartersOfProduct [aI (nI y.1), aI (nI y.2.1), aI (nI z.1), aI (nI z.2.1)] M (am_q1 (aI (nI (qp y z))) M) := by
  have lt (a b : Nat) (h : a < 2 ^ 20) : a &&& b < 2 ^ 24 := Nat.lt_of_lt_of_le (and20 h) (by decide)
  refine ⟨rfl, rfl, rfl, fun X hX => am_run hX 60 _ _ _ _ ?_⟩
  conv => whnf
  rw [nI_and]
  refine am_c1 (ct_bit24 d (y.1 &&& y.2.1) (lt _ _ hy.1) M) ?_
  conv => whnf
  rw [nI_and]
  refine am_c1 (ct_bit24 d (z.1 &&& z.2.1) (lt _ _ hz.1) M) ?_
  conv => whnf
  rw [nI_and]
  refine am_c1 (ct_bit24 d (y.2.1 &&& z.1) (lt _ _ hy.2.1) M) ?_
  conv => whnf
  rw [nI_xor, nI_xor, nI_and]
  refine am_c1 (ct_bit24 d ((y.1 ^^^ z.1) &&& (y.2.1 ^^^ z.2.1)) (lt _ _ (Nat.xor_lt_two_pow hy.1 hz.1)) M) ?_
  conv => whnf
  rw [show (2 : Int32) = nI 2 from rfl, nI_mul, nI_add, nI_add, nI_q (Nat.le_trans (pc_b _) (by decide))]
  exact ⟨trivial, rfl, rfl⟩
end QRT
