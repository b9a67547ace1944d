/-! SHORTEST: the class's rows of signs -/
/-- a set of places, as a number -/
def stA (f : Nat → Bool) : Nat → Nat
  | 0 => 0
  | s + 1 => stA f s + (if f s = true then 2 ^ s else 0)
theorem stA_l (f : Nat → Bool) : ∀ s, stA f s < 2 ^ s
  | 0 => Nat.one_pos
  | s + 1 => by
    have := stA_l f s
    show stA f s + (if f s = true then 2 ^ s else 0) < 2 ^ (s + 1)
    rw [Nat.pow_succ]
    split <;> omega
theorem stA_t (f : Nat → Bool) {j : Nat} : ∀ s, j < s → stA f s / 2 ^ j % 2 = if f j = true then 1 else 0
  | 0, h => by omega
  | s + 1, h => by
    have hl := stA_l f s
    show (stA f s + (if f s = true then 2 ^ s else 0)) / 2 ^ j % 2 = _
    by_cases e : j = s
    · subst e
      split
      · rw [Nat.add_div_right _ (Nat.two_pow_pos _), Nat.div_eq_of_lt hl]
      · rw [Nat.add_zero, Nat.div_eq_of_lt hl]
    · have ih := stA_t f s (j := j) (by omega)
      split
      · have e2 : 2 ^ s = 2 ^ j * (2 * 2 ^ (s - j - 1)) := by
          rw [show 2 * 2 ^ (s - j - 1) = 2 ^ (s - j - 1 + 1) from by rw [Nat.pow_succ, Nat.mul_comm], ← Nat.pow_add]
          congr 1
          omega
        rw [e2, Nat.add_mul_div_left _ _ (Nat.two_pow_pos _), Nat.add_mul_mod_self_left]
        exact ih
      · rw [Nat.add_zero]
        exact ih
theorem stA_e (f : Nat → Bool) {s : Nat} : ∀ m, (∀ j, s ≤ j → j < s + m → f j = false) → stA f (s + m) = stA f s
  | 0, _ => rfl
  | m + 1, h => by
    show stA f (s + m) + (if f (s + m) = true then 2 ^ (s + m) else 0) = _
    rw [h (s + m) (by omega) (by omega), if_neg (by decide), Nat.add_zero]
    exact stA_e f m (fun j a b => h j a (by omega))
theorem stA_0 (f : Nat → Bool) {s j : Nat} (h : stA f s = 0) (hj : j < s) : f j = false := by
  have := stA_t f s hj
  rw [h, Nat.zero_div] at this
  cases e : f j with
  | false => rfl
  | true =>
    rw [e, if_pos rfl] at this
    exact absurd this (by decide)
theorem nJ_n {n : Nat} (h : n < 2 ^ 64) : (nJ n).toBitVec.toNat = n := by
  rw [nJ_b, BitVec.toNat_ofNat, Nat.mod_eq_of_lt h]
theorem nJ_i {a b : Nat} (ha : a < 2 ^ 64) (hb : b < 2 ^ 64) : nJ a = nJ b ↔ a = b := ⟨fun e => by rw [← nJ_n ha, ← nJ_n hb, e], fun e => by rw [e]⟩
theorem nJ_m15 (n : Nat) : nJ n &&& 15 = nJ (n % 16) := by
  rw [show (15 : Int64) = nJ 15 from rfl, nJ_and]
  congr 1
  exact Nat.and_two_pow_sub_one_eq_mod n 4
theorem bw_J : ∀ j, j < 64 → bw j = nJ (2 ^ j) := by decide +kernel
theorem nJ_mul (a b : Nat) : nJ a * nJ b = nJ (a * b) := (Int64.ofNat_mul a b).symm
theorem nJ_shl {v j : Nat} (hj : j < 64) : nJ v <<< ((nI j).toInt64 &&& 63) = nJ (2 ^ j * v) := by
  rw [sh_v, show shA j = bw j from rfl, bw_J j hj, nJ_mul]
theorem nI_J : ∀ n, n < 32 → (nI n).toInt64 = nJ n := by decide +kernel
theorem nb_lt (x : Int64) (s : Nat) : nb x s < 16 := Nat.mod_lt _ (by decide)
theorem nb_or {x : Int64} {v p s : Nat} (h0 : nb x p = 0) (hv : v < 16) (hp : p < 16) (hs : s < 16) : nb (x ||| nJ v <<< ((nI (4 * p)).toInt64 &&& 63)) s = if s = p then v else nb x s := by
  have hb : 2 ^ (4 * p) * v < 2 ^ 64 := by
    have a1 : 2 ^ (4 * p) ≤ 2 ^ 60 := Nat.pow_le_pow_right (by decide) (by omega)
    have a2 : 2 ^ (4 * p) * v ≤ 2 ^ 60 * 15 := Nat.mul_le_mul a1 (by omega)
    omega
  rw [nJ_shl (by omega)]
  unfold nb at h0 ⊢
  rw [Int64.toBitVec_or, BitVec.toNat_or, nJ_n hb, Nat.or_div_two_pow, show (16 : Nat) = 2 ^ 4 from rfl, Nat.or_mod_two_pow]
  rw [show (16 : Nat) = 2 ^ 4 from rfl] at h0
  by_cases e : s = p
  · subst e
    rw [if_pos rfl, h0, Nat.zero_or, Nat.mul_div_cancel_left _ (Nat.two_pow_pos _)]
    exact Nat.mod_eq_of_lt hv
  · rw [if_neg e]
    have z : 2 ^ (4 * p) * v / 2 ^ (4 * s) % 2 ^ 4 = 0 := by
      rcases Nat.lt_or_ge s p with c | c
      · have e2 : 2 ^ (4 * p) = 2 ^ (4 * s) * (2 ^ 4 * 2 ^ (4 * (p - s - 1))) := by
          rw [← Nat.pow_add, ← Nat.pow_add]
          congr 1
          omega
        rw [e2, Nat.mul_assoc, Nat.mul_div_cancel_left _ (Nat.two_pow_pos _), Nat.mul_assoc]
        exact Nat.mul_mod_right _ _
      · have : 2 ^ (4 * p) * v < 2 ^ (4 * s) := by
          have a1 : 2 ^ (4 * p) * 2 ^ 4 ≤ 2 ^ (4 * s) := by
            rw [← Nat.pow_add]
            exact Nat.pow_le_pow_right (by decide) (by omega)
          have a2 : 2 ^ (4 * p) * v < 2 ^ (4 * p) * 2 ^ 4 := Nat.mul_lt_mul_of_pos_left hv (Nat.two_pow_pos _)
          omega
        rw [Nat.div_eq_of_lt this]
    rw [z, Nat.or_zero]
section SHU
variable {d : Nat} {M : mm_M}
set_option maxRecDepth 100000 in
theorem sAt_l {P : am_Q} {X : am_X} {r D : Nat} {x : Int64} {f : Nat → Bool} (hX : am_K d false nm_X2_signsAt P X) (hD : D < 15) (hf : f = fun s => nb x s == D + 1) (hP : P (.inl (some (aI (nI (stA f 16))))) M) : ∀ (m s : Nat), s + m = 16 → X 13 [some (aR 57), some (aI (nI r)), some (aI (nI D)), some (aI (nI (stA f s))), some (aJ (nJ (x.toBitVec.toNat / 2 ^ (4 * s)))), none, some (aI (nI s))] [] M := by
  have hx := x.toBitVec.isLt
  intro m
  induction m with
  | zero =>
    intro s hs
    obtain rfl : s = 16 := by omega
    refine am_run hX 3 _ _ _ _ ?_
    conv => whnf
    refine ⟨fun _ => ?_, fun z => absurd (by decide) z⟩
    refine am_run hX 2 _ _ _ _ ?_
    conv => whnf
    exact ⟨trivial, hP⟩
  | succ m ih =>
    intro s hs
    have s16 : s < 16 := by omega
    have hL : x.toBitVec.toNat / 2 ^ (4 * s) < 2 ^ 64 := Nat.lt_of_le_of_lt (Nat.div_le_self _ _) hx
    refine am_run hX 3 _ _ _ _ ?_
    conv => whnf
    refine ⟨fun z => absurd z (nI_ge (a := s) (b := 16) s16 (by decide)), fun _ => ?_⟩
    refine am_run hX 4 _ _ _ _ ?_
    conv => whnf
    rw [lg_0, show (0 : Int64) = nJ 0 from rfl, nJ_i hL (by decide)]
    refine ⟨fun z => ?_, fun z => ?_⟩
    · refine am_run hX 2 _ _ _ _ ?_
      conv => whnf
      have e := stA_e f (s := s) (m + 1) (fun j a b => by
        rw [hf]
        show (nb x j == D + 1) = false
        have : nb x j = 0 := by
          unfold nb
          rw [show 4 * j = 4 * s + 4 * (j - s) by omega, Nat.pow_add, ← Nat.div_div_eq_div_mul, z, Nat.zero_div]
        rw [this]
        exact beq_false_of_ne (by omega))
      rw [show s + (m + 1) = 16 by omega] at e
      rw [← e]
      exact ⟨trivial, hP⟩
    · refine am_run hX 10 _ _ _ _ ?_
      conv => whnf
      rw [nJ_m15, nI_1, nI_J (D + 1) (by omega), lg_0, nJ_i (by omega) (by omega)]
      have e4 : (((nJ (x.toBitVec.toNat / 2 ^ (4 * s))).toUInt64 >>> ((4 : Int32).toInt64.toUInt64 &&& Int64.toUInt64 63)).toInt64) = nJ (x.toBitVec.toNat / 2 ^ (4 * (s + 1))) := by
        rw [show (4 : Int32) = nI 4 from rfl, nJ_us hL (by decide), Nat.div_div_eq_div_mul, ← Nat.pow_add]
        rfl
      have ih := ih (s + 1) (by omega)
      have es : stA f (s + 1) = stA f s + (if f s = true then 2 ^ s else 0) := rfl
      have ef : (f s = true) ↔ x.toBitVec.toNat / 2 ^ (4 * s) % 16 = D + 1 := by
        rw [hf]
        exact beq_iff_eq
      refine ⟨fun q => ?_, fun q => ?_⟩
      · rw [es, if_neg (fun w => q (ef.mp w)), Nat.add_zero] at ih
        refine am_run hX 9 _ _ _ _ ?_
        conv => whnf
        rw [show nI (stA f s) ||| 0 = nI (stA f s) from by rw [show (0 : Int32) = nI 0 from rfl, nI_or, Nat.or_zero], e4, nI_1]
        exact ih
      · rw [es, if_pos (ef.mpr (Decidable.byContradiction q))] at ih
        refine am_run hX 12 _ _ _ _ ?_
        conv => whnf
        have hl := stA_l f s
        have e1 : nI (stA f s) ||| (1 : Int32) <<< (nI s &&& 31) = nI (stA f s + 2 ^ s) := by
          have a1 : 2 ^ s ≤ 2 ^ 15 := Nat.pow_le_pow_right (by decide) (by omega)
          rw [show (1 : Int32) = nI 1 from rfl, nI_ors (by omega) hl (by omega), Nat.mul_one]
        rw [e1, e4, nI_1]
        exact ih
set_option maxRecDepth 100000 in
theorem ct_sA {r D : Nat} (hr : r < 720) (hD : D < 15) : am_M (d + 1) false nm_X2_signsAt [aR 57, aI (nI r), aI (nI D)] M (am_q1 (aI (nI (stA (fun s => nb (M.2 64 r) s == D + 1) 16))) M) := by
  refine ⟨rfl, rfl, rfl, fun X hX => am_run hX 9 _ _ _ _ ?_⟩
  conv => whnf
  refine ⟨vp_in_nI hr (by decide), ?_⟩
  conv => whnf
  rw [nI_clamp (n := r) (by omega)]
  have key := sAt_l (M := M) (r := r) (D := D) (x := M.2 64 r) hX hD rfl ⟨rfl, rfl⟩ 16 0 (by omega)
  rw [show (M.2 64 r).toBitVec.toNat / 2 ^ (4 * 0) = (M.2 64 r).toBitVec.toNat from Nat.div_one _, ← nJ_of] at key
  exact key
end SHU
