/-! SHORTEST: the class's ranks and distances -/
def rkK (k : K4) : Nat := rkZ (k.1 % 16) (k.2.1 % 16) (k.2.2.1 % 16) (k.2.2.2 % 16)
theorem rk_4 : ∀ a, a < 16 → nI a >>> ((2 : Int32) &&& 31) ||| (nI a &&& 3) <<< ((2 : Int32) &&& 31) = nI (a / 4 + 4 * (a % 4)) := by decide +kernel
theorem rk_h : ∀ a, a < 16 → 0 < a → lw (a / 4 + 4 * (a % 4)) < 4 := by decide +kernel
theorem rk_sh : ∀ b, b < 16 → ∀ h, h < 4 → nI b >>> ((nI h + 1) &&& 31) <<< (nI h &&& 31) ||| nI b &&& ((1 : Int32) <<< (nI h &&& 31) - 1) = nI (b / 2 ^ (h + 1) * 2 ^ h + b % 2 ^ h) := by decide +kernel
theorem rk_y {c e : Nat} (hc : c < 16) (z : nI c ≤ nI e) : (0 : Int32) = nI (if e < c then 1 else 0) := by
  rw [if_neg (fun q => absurd z (nI_ge q (by omega)))]
  rfl
theorem rk_n {c e : Nat} (he : e < 16) (z : ¬ nI c ≤ nI e) : (1 : Int32) = nI (if e < c then 1 else 0) := by
  rw [if_pos (Classical.byContradiction fun q => z (nI_le (by omega) (by omega)))]
  rfl
theorem rk_f {a s x y z : Nat} {v1 v2 v3 : Int32} (h1 : v1 = nI x) (h2 : v2 = nI y) (h3 : v3 = nI z) (ha : 1 ≤ a) (hR : ((a - 1) * 8 + s) * 6 + (2 * (x + y) + z) < 720) : (if 0 < (if 719 < ((nI a - 1) * 8 + nI s) * 6 + (2 * (v1 + v2) + v3) then 719 else ((nI a - 1) * 8 + nI s) * 6 + (2 * (v1 + v2) + v3)) then (if 719 < ((nI a - 1) * 8 + nI s) * 6 + (2 * (v1 + v2) + v3) then 719 else ((nI a - 1) * 8 + nI s) * 6 + (2 * (v1 + v2) + v3)) else 0) = nI (((a - 1) * 8 + s) * 6 + (2 * (x + y) + z)) := by
  have e : ((nI a - 1) * 8 + nI s) * 6 + (2 * (v1 + v2) + v3) = nI (((a - 1) * 8 + s) * 6 + (2 * (x + y) + z)) := by
    rw [h1, h2, h3, nI_s1 a ha, show (8 : Int32) = nI 8 from rfl, show (6 : Int32) = nI 6 from rfl, show (2 : Int32) = nI 2 from rfl, nI_mul, nI_add, nI_mul, nI_add, nI_mul, nI_add, nI_add]
  rw [e]
  generalize ((a - 1) * 8 + s) * 6 + (2 * (x + y) + z) = R at hR
  rw [show (719 : Int32) = nI 719 from rfl, show (0 : Int32) = nI 0 from rfl, nI_min (by omega) (by omega), nI_max (by omega) (by omega)]
  congr 1
  omega
theorem kd_16 {a b c e : Nat} (h1 : a < 32) (h2 : b < 32) (h3 : c < 32) : (a + 32 * b + 1024 * c + 32768 * e) % 16 = a % 16 ∧ (a + 32 * b + 1024 * c + 32768 * e) / 2 ^ 5 % 16 = b % 16 ∧ (a + 32 * b + 1024 * c + 32768 * e) / 2 ^ 10 % 16 = c % 16 ∧ (a + 32 * b + 1024 * c + 32768 * e) / 2 ^ 15 % 16 = e % 16 := by
  refine ⟨by omega, by omega, by omega, by omega⟩
theorem cm_0 : ∀ a, a < 16 → ∀ b, b < 16 → cmm a b = 1 → 0 < a := by decide +kernel
section SHT
variable {d : Nat} {M : mm_M} {k : K4}
set_option maxRecDepth 100000 in
theorem ct_rkO (hk : symK k) : am_M (d + 3) false nm_X2_rankOf [aI (nI (kK k))] M (am_q1 (aI (nI (rkK k))) M) := by
  have hlt := kK_l hk.1
  have hR := (rk_m hk).1
  obtain ⟨q0, q1, q2, q3⟩ := kd_16 (e := k.2.2.2) hk.1.1 hk.1.2.1 hk.1.2.2.1
  rw [← kK_4] at q0 q1 q2 q3
  have a0 : 0 < k.1 % 16 := cm_0 _ (m16 _) _ (m16 k.2.1) ((cmm_m _ hk.1.1 _ hk.1.2.1).trans hk.2.1)
  have e0 : nI (kK k) &&& 15 = nI (k.1 % 16) := by rw [nI_m15, q0]
  have e1 : nI (kK k) >>> ((5 : Int32) &&& 31) &&& 15 = nI (k.2.1 % 16) := by rw [show (5 : Int32) = nI 5 from rfl, nI_sh (by omega) 5 (by decide), nI_m15, q1]
  have e2 : nI (kK k) >>> ((10 : Int32) &&& 31) &&& 15 = nI (k.2.2.1 % 16) := by rw [show (10 : Int32) = nI 10 from rfl, nI_sh (by omega) 10 (by decide), nI_m15, q2]
  have e3 : nI (kK k) >>> ((15 : Int32) &&& 31) &&& 15 = nI (k.2.2.2 % 16) := by
    have := nI_m15 (kK k / 2 ^ 15)
    rw [← nI_sh (by omega) 15 (by decide), q3] at this
    exact this
  unfold rkK
  generalize kK k = K at *
  have a16 := m16 k.1
  have b16 := m16 k.2.1
  have c16 := m16 k.2.2.1
  have f16 := m16 k.2.2.2
  generalize k.1 % 16 = a at *
  generalize k.2.1 % 16 = b at *
  generalize k.2.2.1 % 16 = c at *
  generalize k.2.2.2 % 16 = f at *
  have x16 : c ^^^ f < 16 := Nat.xor_lt_two_pow (n := 4) c16 f16
  have h4 := rk_h a a16 a0
  refine ⟨rfl, rfl, rfl, fun X hX => am_run hX 150 _ _ _ _ ?_⟩
  conv => whnf
  rw [e0, e1, e2, e3, rk_4 a a16, nI_xor]
  refine am_c1 (ct_low (d := d) (by omega) (by omega)) ?_
  unfold rkZ at hR ⊢
  generalize lw (a / 4 + 4 * (a % 4)) = h at *
  conv => whnf
  rw [rk_sh b b16 h h4]
  refine ⟨fun z1 => ?_, fun z1 => ?_⟩
  · conv => whnf
    refine ⟨fun z2 => ?_, fun z2 => ?_⟩
    · conv => whnf
      refine ⟨fun z3 => ?_, fun z3 => ?_⟩
      · conv => whnf
        exact ⟨trivial, congrArg (fun v => Sum.inl (some (aI v))) (rk_f (rk_y c16 z1) (rk_y c16 z2) (rk_y f16 z3) a0 hR), rfl⟩
      · conv => whnf
        exact ⟨trivial, congrArg (fun v => Sum.inl (some (aI v))) (rk_f (rk_y c16 z1) (rk_y c16 z2) (rk_n x16 z3) a0 hR), rfl⟩
    · conv => whnf
      refine ⟨fun z3 => ?_, fun z3 => ?_⟩
      · conv => whnf
        exact ⟨trivial, congrArg (fun v => Sum.inl (some (aI v))) (rk_f (rk_y c16 z1) (rk_n x16 z2) (rk_y f16 z3) a0 hR), rfl⟩
      · conv => whnf
        exact ⟨trivial, congrArg (fun v => Sum.inl (some (aI v))) (rk_f (rk_y c16 z1) (rk_n x16 z2) (rk_n x16 z3) a0 hR), rfl⟩
  · conv => whnf
    refine ⟨fun z2 => ?_, fun z2 => ?_⟩
    · conv => whnf
      refine ⟨fun z3 => ?_, fun z3 => ?_⟩
      · conv => whnf
        exact ⟨trivial, congrArg (fun v => Sum.inl (some (aI v))) (rk_f (rk_n f16 z1) (rk_y c16 z2) (rk_y f16 z3) a0 hR), rfl⟩
      · conv => whnf
        exact ⟨trivial, congrArg (fun v => Sum.inl (some (aI v))) (rk_f (rk_n f16 z1) (rk_y c16 z2) (rk_n x16 z3) a0 hR), rfl⟩
    · conv => whnf
      refine ⟨fun z3 => ?_, fun z3 => ?_⟩
      · conv => whnf
        exact ⟨trivial, congrArg (fun v => Sum.inl (some (aI v))) (rk_f (rk_n f16 z1) (rk_n x16 z2) (rk_y f16 z3) a0 hR), rfl⟩
      · conv => whnf
        exact ⟨trivial, congrArg (fun v => Sum.inl (some (aI v))) (rk_f (rk_n f16 z1) (rk_n x16 z2) (rk_n x16 z3) a0 hR), rfl⟩
/-- four bits of a long -/
def nb (x : Int64) (s : Nat) : Nat := x.toBitVec.toNat / 2 ^ (4 * s) % 16
theorem nb_e (x : Int64) {s : Nat} (hs : s < 16) : (x.toUInt64 >>> ((nI (4 * s)).toInt64.toUInt64 &&& Int64.toUInt64 63)).toInt64 = nJ (x.toBitVec.toNat / 2 ^ (4 * s)) := by
  conv => lhs; rw [nJ_of x]
  exact nJ_us x.toBitVec.isLt (by omega)
/-- a key's distance as the table has it -/
def dOf (M : mm_M) (k : K4) : Nat := nb (M.2 64 (rkK k)) (sgN k)
theorem sgN_l (hk : k4 k) : sgN k < 16 := dg_s hk.1 hk.2.1 hk.2.2.1 hk.2.2.2
theorem rkK_l (hk : symK k) : rkK k < 720 := (rk_m hk).1
set_option maxRecDepth 100000 in
theorem ct_dO (hk : symK k) : am_M (d + 4) false nm_X2_distanceOf [aR 57, aI (nI (kK k))] M (am_q1 (aI (nI (dOf M k))) M) := by
  have hr := rkK_l hk
  have hs := sgN_l hk.1
  refine ⟨rfl, rfl, rfl, fun X hX => am_run hX 4 _ _ _ _ ?_⟩
  conv => whnf
  refine am_c1 (ct_rkO (d := d) hk) ?_
  refine am_run hX 4 _ _ _ _ ?_
  conv => whnf
  refine ⟨vp_in_nI hr (by decide), ?_⟩
  conv => whnf
  refine am_c1 (ct_sgO (d := d + 2) hk.1) ?_
  refine am_run hX 6 _ _ _ _ ?_
  conv => whnf
  rw [nI_clamp (n := rkK k) (by omega), show (4 : Int32) * nI (sgN k) = nI (4 * sgN k) from by rw [show (4 : Int32) = nI 4 from rfl, nI_mul], nb_e _ hs, nJ_32, nI_m15]
  exact ⟨trivial, rfl, rfl⟩
end SHT
