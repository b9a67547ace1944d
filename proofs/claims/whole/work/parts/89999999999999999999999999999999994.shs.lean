/-! SHORTEST: the class's steps, ranks and signs of a key -/
theorem kK_4 (k : K4) : kK k = k.1 + 32 * k.2.1 + 1024 * k.2.2.1 + 32768 * k.2.2.2 := by
  show 0 + 2 ^ (5 * 0) * k.1 + 2 ^ (5 * 1) * k.2.1 + 2 ^ (5 * 2) * k.2.2.1 + 2 ^ (5 * 3) * k.2.2.2 = _
  omega
/-- the gates of the class's table: five steps, then s's inverses -/
def sgT (t : Nat) : Nat := if t < 4 then t + 6 else if t = 4 then 18 else t + 5
/-- the table of steps -/
def stpd (M : mm_M) : Prop := ∀ i, i < 224 → M.1 62 i = nI (szR (sgT (i / 32)) (i % 32))
theorem stpd_r {M : mm_M} (h : stpd M) {t r : Nat} (ht : t < 7) (hr : r < 32) : M.1 62 (32 * t + r) = nI (szR (sgT t) r) := by
  have := h (32 * t + r) (by omega)
  rw [show (32 * t + r) / 32 = t by omega, show (32 * t + r) % 32 = r by omega] at this
  exact this
theorem i_or {t r : Nat} (h : r < 32) : nI (32 * t) ||| nI r = nI (32 * t + r) := by
  rw [nI_or]
  congr 1
  have := Nat.two_pow_add_eq_or_of_lt (i := 5) (b := r) h t
  exact this.symm
section SHS
variable {d : Nat} {M : mm_M} {k : K4} {t : Nat}
theorem tb_x {v : Int32} {r : Nat} (ht : t < 7) (hr : r < 32) (e : v = nI r) : nI t <<< ((5 : Int32) &&& 31) ||| v = nI (32 * t + r) := by
  rw [show (5 : Int32) = nI 5 from rfl, nI_shl (by decide) (by omega), e, show t * 2 ^ 5 = 32 * t by omega, i_or hr]
theorem kK_x (hk : k4 k) {i : Nat} (hi : i < 4) : nI (kK k) >>> (nI (5 * i) &&& 31) &&& 31 = nI (rwK k i) := by
  have hlt := kK_l hk
  rw [nI_sh (by omega) (5 * i) (by omega), m31, show kK k / 2 ^ (5 * i) % 32 = rwK k i from kV_e (rwK_l hk) 4 hi]
theorem kK_0 (hk : k4 k) : nI (kK k) &&& 31 = nI k.1 := by
  rw [m31]
  have := kV_e (rwK_l hk) 4 (show 0 < 4 by decide)
  rw [show 2 ^ (5 * 0) = 1 from rfl, Nat.div_one] at this
  exact congrArg nI this
set_option maxRecDepth 100000 in
theorem ct_stF (ht : t < 7) (hk : k4 k) (hs : stpd M) : am_M (d + 1) false nm_X2_stepFrom [aR 57, aI (nI (kK k)), aI (nI t)] M (am_q1 (aI (nI (kK (szP (sgT t) k)))) M) := by
  obtain ⟨k0, k1, k2, k3⟩ := hk
  have e0 := tb_x (t := t) ht k0 (kK_0 ⟨k0, k1, k2, k3⟩)
  have e1 := tb_x (t := t) ht k1 (kK_x ⟨k0, k1, k2, k3⟩ (i := 1) (by decide))
  have e2 := tb_x (t := t) ht k2 (kK_x ⟨k0, k1, k2, k3⟩ (i := 2) (by decide))
  have e3 := tb_x (t := t) ht k3 (kK_x ⟨k0, k1, k2, k3⟩ (i := 3) (by decide))
  have r0 := sz_lt (sgT t) k.1
  have r1 := sz_lt (sgT t) k.2.1
  have r2 := sz_lt (sgT t) k.2.2.1
  have r3 := sz_lt (sgT t) k.2.2.2
  refine ⟨rfl, rfl, rfl, fun X hX => am_run hX 60 _ _ _ _ ?_⟩
  conv => whnf
  rw [e0]
  refine ⟨vp_in_nI (by show _ < 224; omega) (by decide), ?_⟩
  conv => whnf
  rw [nI_clamp (n := 32 * t + k.1) (by omega), stpd_r hs ht k0]
  rw [show nI t <<< ((5 : Int32) &&& 31) ||| nI (kK k) >>> ((5 : Int32) &&& 31) &&& 31 = nI (32 * t + k.2.1) from e1]
  refine ⟨vp_in_nI (by show _ < 224; omega) (by decide), ?_⟩
  conv => whnf
  rw [nI_clamp (n := 32 * t + k.2.1) (by omega), stpd_r hs ht k1]
  rw [show nI t <<< ((5 : Int32) &&& 31) ||| nI (kK k) >>> ((10 : Int32) &&& 31) &&& 31 = nI (32 * t + k.2.2.1) from e2]
  refine ⟨vp_in_nI (by show _ < 224; omega) (by decide), ?_⟩
  conv => whnf
  rw [nI_clamp (n := 32 * t + k.2.2.1) (by omega), stpd_r hs ht k2]
  rw [show nI t <<< ((5 : Int32) &&& 31) ||| nI (kK k) >>> ((15 : Int32) &&& 31) &&& 31 = nI (32 * t + k.2.2.2) from e3]
  refine ⟨vp_in_nI (by show _ < 224; omega) (by decide), ?_⟩
  conv => whnf
  rw [nI_clamp (n := 32 * t + k.2.2.2) (by omega), stpd_r hs ht k3]
  refine ⟨trivial, ?_, rfl⟩
  rw [kK_4]
  show Sum.inl (some (aI _)) = Sum.inl (some (aI (nI (szR (sgT t) k.1 + 32 * szR (sgT t) k.2.1 + 1024 * szR (sgT t) k.2.2.1 + 32768 * szR (sgT t) k.2.2.2))))
  generalize szR (sgT t) k.1 = a at *
  generalize szR (sgT t) k.2.1 = b at *
  generalize szR (sgT t) k.2.2.1 = c at *
  generalize szR (sgT t) k.2.2.2 = f at *
  congr 3
  rw [show (5 : Int32) = nI 5 from rfl, show (10 : Int32) = nI 10 from rfl, show (15 : Int32) = nI 15 from rfl, nI_ors (by decide) (by omega) (by omega), nI_ors (by decide) (by omega) (by omega), nI_ors (by decide) (by omega) (by omega)]
/-- which rows have a sign -/
def sgN (k : K4) : Nat := k.1 / 16 + 2 * (k.2.1 / 16) + 4 * (k.2.2.1 / 16) + 8 * (k.2.2.2 / 16)
theorem sg_or : ∀ a, a < 2 → ∀ b, b < 2 → ∀ c, c < 2 → ∀ e, e < 2 → a ||| 2 * b ||| 4 * c ||| 8 * e = a + 2 * b + 4 * c + 8 * e := by decide
theorem an_2 (n i : Nat) : n &&& 2 ^ i = n / 2 ^ i % 2 * 2 ^ i := by
  cases h : n.testBit i with
  | true =>
    have e : n / 2 ^ i % 2 = 1 := by
      rw [← Nat.toNat_testBit, h]
      rfl
    rw [an_1 h, e, Nat.one_mul]
  | false =>
    have e : n / 2 ^ i % 2 = 0 := by
      rw [← Nat.toNat_testBit, h]
      rfl
    rw [(an_0 n i).mpr h, e, Nat.zero_mul]
theorem sgd_0 {a b c e : Nat} (h1 : a < 32) (h2 : b < 32) (h3 : c < 32) (h4 : e < 32) : (a + 32 * b + 1024 * c + 32768 * e) / 16 % 2 = a / 16 ∧ (a + 32 * b + 1024 * c + 32768 * e) / 512 % 2 = b / 16 ∧ (a + 32 * b + 1024 * c + 32768 * e) / 16384 % 2 = c / 16 ∧ (a + 32 * b + 1024 * c + 32768 * e) / 524288 % 2 = e / 16 := by
  refine ⟨by omega, by omega, by omega, by omega⟩
set_option maxRecDepth 100000 in
theorem ct_sgO (hk : k4 k) : am_M (d + 1) false nm_X2_signsOf [aI (nI (kK k))] M (am_q1 (aI (nI (sgN k))) M) := by
  have hlt := kK_l hk
  obtain ⟨q0, q1, q2, q3⟩ := sgd_0 hk.1 hk.2.1 hk.2.2.1 hk.2.2.2
  rw [← kK_4] at q0 q1 q2 q3
  refine ⟨rfl, rfl, rfl, fun X hX => am_run hX 24 _ _ _ _ ?_⟩
  conv => whnf
  refine ⟨trivial, ?_, rfl⟩
  have e1 : kK k / 2 ^ 4 &&& 1 = k.1 / 16 := by
    rw [show 1 = 2 ^ 0 from rfl, an_2]
    omega
  have e2 : kK k / 2 ^ 8 &&& 2 = 2 * (k.2.1 / 16) := by
    rw [show 2 = 2 ^ 1 from rfl, an_2]
    omega
  have e3 : kK k / 2 ^ 12 &&& 4 = 4 * (k.2.2.1 / 16) := by
    rw [show 4 = 2 ^ 2 from rfl, an_2]
    omega
  have e4 : kK k / 2 ^ 16 &&& 8 = 8 * (k.2.2.2 / 16) := by
    rw [show 8 = 2 ^ 3 from rfl, an_2]
    omega
  have e : nI (kK k) >>> ((4 : Int32) &&& 31) &&& 1 ||| nI (kK k) >>> ((8 : Int32) &&& 31) &&& 2 ||| nI (kK k) >>> ((12 : Int32) &&& 31) &&& 4 ||| nI (kK k) >>> ((16 : Int32) &&& 31) &&& 8 = nI (sgN k) := by
    rw [show (4 : Int32) = nI 4 from rfl, show (8 : Int32) = nI 8 from rfl, show (12 : Int32) = nI 12 from rfl, show (16 : Int32) = nI 16 from rfl, show (1 : Int32) = nI 1 from rfl, show (2 : Int32) = nI 2 from rfl, nI_sh (by omega) 4 (by decide), nI_sh (by omega) 8 (by decide), nI_sh (by omega) 12 (by decide), nI_sh (by omega) 16 (by decide), nI_and, nI_and, nI_and, nI_and, nI_or, nI_or, nI_or, e1, e2, e3, e4]
    congr 1
    exact sg_or _ (dg_d hk.1) _ (dg_d hk.2.1) _ (dg_d hk.2.2.1) _ (dg_d hk.2.2.2)
  exact congrArg (fun v => Sum.inl (some (aI v))) e
end SHS
