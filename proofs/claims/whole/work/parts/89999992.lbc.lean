/-! Long.bitCount: longs as numbers -/
def nJ (n : Nat) : Int64 := Int64.ofNat n
theorem nJ_b (n : Nat) : (nJ n).toBitVec = BitVec.ofNat 64 n := rfl
theorem nJ_of (x : Int64) : x = nJ x.toBitVec.toNat := by
  apply Int64.toBitVec_inj.mp
  rw [nJ_b, BitVec.ofNat_toNat, BitVec.setWidth_eq]
theorem nJ_add (a b : Nat) : nJ a + nJ b = nJ (a + b) := (Int64.ofNat_add a b).symm
theorem nJ_and (a b : Nat) : nJ a &&& nJ b = nJ (a &&& b) := by
  apply Int64.toBitVec_inj.mp
  rw [Int64.toBitVec_and, nJ_b, nJ_b, nJ_b]
  apply BitVec.eq_of_getLsbD_eq
  intro i hi
  simp [BitVec.getLsbD_ofNat, hi]
theorem nJ_sub {a b : Nat} (h : b ≤ a) : nJ a - nJ b = nJ (a - b) := by
  have e : nJ (a - b) + nJ b = nJ a := by rw [nJ_add, Nat.sub_add_cancel h]
  rw [← e, Int64.add_sub_cancel]
theorem nJ_us {n k : Nat} (h : n < 2 ^ 64) (hk : k < 64) : ((nJ n).toUInt64 >>> ((nI k).toInt64.toUInt64 &&& Int64.toUInt64 63)).toInt64 = nJ (n / 2 ^ k) := by
  apply Int64.toBitVec_inj.mp
  apply BitVec.eq_of_getLsbD_eq
  intro i hi
  rw [us_b hk i, nJ_b, nJ_b, BitVec.getLsbD_ofNat, BitVec.getLsbD_ofNat, Nat.testBit_div_two_pow, Nat.add_comm i k]
  by_cases c : k + i < 64
  · simp [c, hi]
  · have : n.testBit (k + i) = false := Nat.testBit_lt_two_pow (Nat.lt_of_lt_of_le h (Nat.pow_le_pow_right (by decide) (by omega)))
    simp [c, this]
theorem nJ_32 (n : Nat) : (nJ n).toInt32 = nI n := by
  apply Int32.toBitVec_inj.mp
  rw [Int64.toBitVec_toInt32, nJ_b]
  show _ = BitVec.ofNat 32 n
  apply BitVec.eq_of_getLsbD_eq
  intro i hi
  rw [BitVec.getLsbD_signExtend, BitVec.getLsbD_ofNat, BitVec.getLsbD_ofNat]
  simp [hi, show i < 64 by omega]
theorem nI_m127 (n : Nat) : nI n &&& 127 = nI (n % 128) := by
  rw [show (127 : Int32) = nI 127 from rfl, nI_and, show (127 : Nat) = 2 ^ 7 - 1 from rfl, Nat.and_two_pow_sub_one_eq_mod]
theorem lbc_p (x : Int64) : lbc x = nI (pcn 64 x.toBitVec.toNat) := by
  have hn : x.toBitVec.toNat < 2 ^ 64 := x.toBitVec.isLt
  have h8 : x.toBitVec.toNat < 256 ^ 8 := hn
  have ex := nJ_of x
  generalize x.toBitVec.toNat = n at *
  subst ex
  have ⟨p1, p2⟩ := s_1 8 n h8
  have q1 := bm_lt (g := f1) (fun v hv => (b_2 v hv).1) 8 n
  have q2 := bm_lt (g := fun v => f2 (f1 v)) (fun v hv => by have := (b_3 v hv).1; show f2 (f1 v) < 256; omega) 8 n
  have q3 := bm_lt (g := fun v => f3 (f2 (f1 v))) (fun v hv => by have := (b_3 v hv).2.2.1; show f3 (f2 (f1 v)) < 256; omega) 8 n
  have e1 : nJ n - (((nJ n).toUInt64 >>> ((nI 1).toInt64.toUInt64 &&& Int64.toUInt64 63)).toInt64 &&& nJ 6148914691236517205) = nJ (bmN f1 8 n) := by
    rw [nJ_us hn (by decide), nJ_and, show n / 2 ^ 1 &&& 6148914691236517205 = n / 2 &&& rpN 85 8 from rfl, nJ_sub p1, p2]
  have e2 : (nJ (bmN f1 8 n) &&& nJ 3689348814741910323) + (((nJ (bmN f1 8 n)).toUInt64 >>> ((nI 2).toInt64.toUInt64 &&& Int64.toUInt64 63)).toInt64 &&& nJ 3689348814741910323) = nJ (bmN (fun v => f2 (f1 v)) 8 n) := by
    rw [nJ_us q1 (by decide), nJ_and, nJ_and, nJ_add, ← s_2 8 n]
    rfl
  have e3 : (nJ (bmN (fun v => f2 (f1 v)) 8 n) + ((nJ (bmN (fun v => f2 (f1 v)) 8 n)).toUInt64 >>> ((nI 4).toInt64.toUInt64 &&& Int64.toUInt64 63)).toInt64) &&& nJ 1085102592571150095 = nJ (bmN (fun v => f3 (f2 (f1 v))) 8 n) := by
    rw [nJ_us q2 (by decide), nJ_add, nJ_and, ← s_3 8 n]
    rfl
  have ⟨a0, a1, a2, a3, a4, a5, a6, a7, ha, hc, hp⟩ := bm_8 n
  have hp := hp h8
  generalize hC : bmN (fun v => f3 (f2 (f1 v))) 8 n = C at *
  have sf := s_f ha hc
  have cb : C ≤ 8 * 72340172838076673 := by
    obtain ⟨b0, b1, b2, b3, b4, b5, b6, b7⟩ := ha
    rw [hc]
    omega
  have e4 : nJ C + ((nJ C).toUInt64 >>> ((nI 8).toInt64.toUInt64 &&& Int64.toUInt64 63)).toInt64 = nJ (C + C / 256) := by
    rw [nJ_us q3 (by decide), nJ_add]
  have d1 : C / 256 ≤ C := Nat.div_le_self _ _
  have e5 : nJ (C + C / 256) + ((nJ (C + C / 256)).toUInt64 >>> ((nI 16).toInt64.toUInt64 &&& Int64.toUInt64 63)).toInt64 = nJ (C + C / 256 + (C + C / 256) / 65536) := by
    rw [nJ_us (by omega) (by decide), nJ_add]
  have d2 : (C + C / 256) / 65536 ≤ C + C / 256 := Nat.div_le_self _ _
  have e6 : nJ (C + C / 256 + (C + C / 256) / 65536) + ((nJ (C + C / 256 + (C + C / 256) / 65536)).toUInt64 >>> ((nI 32).toInt64.toUInt64 &&& Int64.toUInt64 63)).toInt64 = nJ (C + C / 256 + (C + C / 256) / 65536 + (C + C / 256 + (C + C / 256) / 65536) / 4294967296) := by
    rw [nJ_us (by omega) (by decide), nJ_add]
  have e7 : (nJ (C + C / 256 + (C + C / 256) / 65536 + (C + C / 256 + (C + C / 256) / 65536) / 4294967296)).toInt32 &&& 127 = nI (pcn 64 n) := by
    rw [nJ_32, nI_m127, sf, hp]
  rw [← e7, ← e6, ← e5, ← e4, ← e3, ← e2, ← e1]
  rfl
