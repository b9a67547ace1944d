/-! EVEN NUMBERS: the reference's way and the class's -/
theorem par_i (v : Int64) : v.toInt % 2 = 0 ↔ v.toBitVec.toNat % 2 = 0 := by
  have e : v.toInt = v.toBitVec.toInt := rfl
  rw [e, BitVec.toInt_eq_toNat_cond]
  by_cases h : 2 * v.toBitVec.toNat < 2 ^ 64
  · rw [if_pos h]
    omega
  · rw [if_neg h]
    omega
theorem ev_b (v : Int64) : evJ v = true ↔ v.toBitVec.toNat % 2 = 0 := by
  unfold evJ
  rw [decide_eq_true_iff, ← par_i]
  have h1 := Int64.le_toInt v
  have h2 := Int64.toInt_lt v
  have z := lI_e2 (z := v.toInt) h1 h2
  rw [show lI v.toInt = v from Int64.ofInt_toInt v] at z
  exact z
theorem e1_b (u v : Int64) : e1J u v = true ↔ u.toBitVec.toNat % 2 = 0 ∧ v.toBitVec.toNat % 2 = 0 := by
  unfold e1J
  rw [decide_eq_true_iff, ← lg_0, lz_0]
  show (u.toBitVec ||| v.toBitVec).getLsbD 0 = false ↔ _
  rw [BitVec.getLsbD_or, Bool.or_eq_false_iff]
  have k : ∀ x : BitVec 64, x.getLsbD 0 = false ↔ x.toNat % 2 = 0 := fun x => by
    show x.toNat.testBit 0 = false ↔ _
    rw [Nat.testBit_zero, decide_eq_false_iff_not]
    omega
  rw [k, k]
theorem ev_e1 (u v : Int64) : (evJ u && evJ v) = e1J u v := by
  rw [Bool.eq_iff_iff, Bool.and_eq_true, ev_b, ev_b, e1_b]
