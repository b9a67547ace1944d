/-! LEAST: what is near, in the first program: gated -/
theorem nI_m24 (n : Nat) : nI n &&& 16777215 = nI (n % 16777216) := by
  rw [show (16777215 : Int32) = nI 16777215 from rfl, nI_and, show (16777215 : Nat) = 2 ^ 24 - 1 from rfl, Nat.and_two_pow_sub_one_eq_mod]
theorem nI_m2047 (n : Nat) : nI n &&& 2047 = nI (n % 2048) := by
  rw [show (2047 : Int32) = nI 2047 from rfl, nI_and, show (2047 : Nat) = 2 ^ 11 - 1 from rfl, Nat.and_two_pow_sub_one_eq_mod]
theorem nI_32 (n : Nat) : nI n = nI (n % 4294967296) := by
  apply Int32.toBitVec_inj.mp
  show BitVec.ofNat 32 n = BitVec.ofNat 32 (n % 4294967296)
  apply BitVec.eq_of_toNat_eq
  simp
def waN (x c : Nat) : Nat → Nat
  | 0 => 2396745
  | i + 1 => waN x c i &&& (if c / 2 ^ i % 2 = 0 then 2396745 else x / 2 ^ i)
theorem wa_le (x c : Nat) : ∀ i, waN x c i ≤ 2396745
  | 0 => Nat.le_refl _
  | i + 1 => Nat.le_trans Nat.and_le_left (wa_le x c i)
theorem wa_0 (x : Nat) : x ^^^ ((((2396745 &&& 2396745) &&& 2396745) &&& 2396745) * 2 ^ 0) = gaN x 0 := by
  show _ = x ^^^ ((((2396745 &&& (x ||| 2396745)) &&& ((x >>> 1) ||| 2396745)) &&& ((x >>> 2) ||| 2396745)) <<< 0)
  rw [Nat.shiftLeft_eq]
  congr 2
  rw [Nat.shiftRight_eq_div_pow, Nat.shiftRight_eq_div_pow]
  apply Nat.eq_of_testBit_eq
  intro i
  simp only [Nat.testBit_and, Nat.testBit_or, Nat.zero_testBit]
  generalize (2396745 : Nat).testBit i = e
  cases e <;> simp
theorem wa_1 (x : Nat) : x ^^^ ((((2396745 &&& 2396745) &&& x / 2 ^ 1) &&& 2396745) * 2 ^ 0) = gaN x 1 := by
  show _ = x ^^^ ((((2396745 &&& (x ||| 2396745)) &&& ((x >>> 1) ||| 0)) &&& ((x >>> 2) ||| 2396745)) <<< 0)
  rw [Nat.shiftLeft_eq]
  congr 2
  rw [Nat.shiftRight_eq_div_pow, Nat.shiftRight_eq_div_pow]
  apply Nat.eq_of_testBit_eq
  intro i
  simp only [Nat.testBit_and, Nat.testBit_or, Nat.zero_testBit]
  generalize (2396745 : Nat).testBit i = e
  cases e <;> simp
theorem wa_2 (x : Nat) : x ^^^ ((((2396745 &&& 2396745) &&& 2396745) &&& x / 2 ^ 2) * 2 ^ 0) = gaN x 2 := by
  show _ = x ^^^ ((((2396745 &&& (x ||| 2396745)) &&& ((x >>> 1) ||| 2396745)) &&& ((x >>> 2) ||| 0)) <<< 0)
  rw [Nat.shiftLeft_eq]
  congr 2
  rw [Nat.shiftRight_eq_div_pow, Nat.shiftRight_eq_div_pow]
  apply Nat.eq_of_testBit_eq
  intro i
  simp only [Nat.testBit_and, Nat.testBit_or, Nat.zero_testBit]
  generalize (2396745 : Nat).testBit i = e
  cases e <;> simp
theorem wa_3 (x : Nat) : x ^^^ ((((2396745 &&& 2396745) &&& x / 2 ^ 1) &&& x / 2 ^ 2) * 2 ^ 0) = gaN x 3 := by
  show _ = x ^^^ ((((2396745 &&& (x ||| 2396745)) &&& ((x >>> 1) ||| 0)) &&& ((x >>> 2) ||| 0)) <<< 0)
  rw [Nat.shiftLeft_eq]
  congr 2
  rw [Nat.shiftRight_eq_div_pow, Nat.shiftRight_eq_div_pow]
  apply Nat.eq_of_testBit_eq
  intro i
  simp only [Nat.testBit_and, Nat.testBit_or, Nat.zero_testBit]
  generalize (2396745 : Nat).testBit i = e
  cases e <;> simp
theorem wa_4 (x : Nat) : x ^^^ ((((2396745 &&& 2396745) &&& 2396745) &&& 2396745) * 2 ^ 1) = gaN x 4 := by
  show _ = x ^^^ ((((2396745 &&& (x ||| 2396745)) &&& ((x >>> 1) ||| 2396745)) &&& ((x >>> 2) ||| 2396745)) <<< 1)
  rw [Nat.shiftLeft_eq]
  congr 2
  rw [Nat.shiftRight_eq_div_pow, Nat.shiftRight_eq_div_pow]
  apply Nat.eq_of_testBit_eq
  intro i
  simp only [Nat.testBit_and, Nat.testBit_or, Nat.zero_testBit]
  generalize (2396745 : Nat).testBit i = e
  cases e <;> simp
theorem wa_5 (x : Nat) : x ^^^ ((((2396745 &&& x / 2 ^ 0) &&& 2396745) &&& 2396745) * 2 ^ 1) = gaN x 5 := by
  show _ = x ^^^ ((((2396745 &&& (x ||| 0)) &&& ((x >>> 1) ||| 2396745)) &&& ((x >>> 2) ||| 2396745)) <<< 1)
  rw [Nat.shiftLeft_eq]
  congr 2
  rw [Nat.shiftRight_eq_div_pow, Nat.shiftRight_eq_div_pow, show x / 2 ^ 0 = x from Nat.div_one x]
  apply Nat.eq_of_testBit_eq
  intro i
  simp only [Nat.testBit_and, Nat.testBit_or, Nat.zero_testBit]
  generalize (2396745 : Nat).testBit i = e
  cases e <;> simp
theorem wa_6 (x : Nat) : x ^^^ ((((2396745 &&& 2396745) &&& 2396745) &&& x / 2 ^ 2) * 2 ^ 1) = gaN x 6 := by
  show _ = x ^^^ ((((2396745 &&& (x ||| 2396745)) &&& ((x >>> 1) ||| 2396745)) &&& ((x >>> 2) ||| 0)) <<< 1)
  rw [Nat.shiftLeft_eq]
  congr 2
  rw [Nat.shiftRight_eq_div_pow, Nat.shiftRight_eq_div_pow]
  apply Nat.eq_of_testBit_eq
  intro i
  simp only [Nat.testBit_and, Nat.testBit_or, Nat.zero_testBit]
  generalize (2396745 : Nat).testBit i = e
  cases e <;> simp
theorem wa_7 (x : Nat) : x ^^^ ((((2396745 &&& x / 2 ^ 0) &&& 2396745) &&& x / 2 ^ 2) * 2 ^ 1) = gaN x 7 := by
  show _ = x ^^^ ((((2396745 &&& (x ||| 0)) &&& ((x >>> 1) ||| 2396745)) &&& ((x >>> 2) ||| 0)) <<< 1)
  rw [Nat.shiftLeft_eq]
  congr 2
  rw [Nat.shiftRight_eq_div_pow, Nat.shiftRight_eq_div_pow, show x / 2 ^ 0 = x from Nat.div_one x]
  apply Nat.eq_of_testBit_eq
  intro i
  simp only [Nat.testBit_and, Nat.testBit_or, Nat.zero_testBit]
  generalize (2396745 : Nat).testBit i = e
  cases e <;> simp
theorem wa_8 (x : Nat) : x ^^^ ((((2396745 &&& 2396745) &&& 2396745) &&& 2396745) * 2 ^ 2) = gaN x 8 := by
  show _ = x ^^^ ((((2396745 &&& (x ||| 2396745)) &&& ((x >>> 1) ||| 2396745)) &&& ((x >>> 2) ||| 2396745)) <<< 2)
  rw [Nat.shiftLeft_eq]
  congr 2
  rw [Nat.shiftRight_eq_div_pow, Nat.shiftRight_eq_div_pow]
  apply Nat.eq_of_testBit_eq
  intro i
  simp only [Nat.testBit_and, Nat.testBit_or, Nat.zero_testBit]
  generalize (2396745 : Nat).testBit i = e
  cases e <;> simp
theorem wa_9 (x : Nat) : x ^^^ ((((2396745 &&& x / 2 ^ 0) &&& 2396745) &&& 2396745) * 2 ^ 2) = gaN x 9 := by
  show _ = x ^^^ ((((2396745 &&& (x ||| 0)) &&& ((x >>> 1) ||| 2396745)) &&& ((x >>> 2) ||| 2396745)) <<< 2)
  rw [Nat.shiftLeft_eq]
  congr 2
  rw [Nat.shiftRight_eq_div_pow, Nat.shiftRight_eq_div_pow, show x / 2 ^ 0 = x from Nat.div_one x]
  apply Nat.eq_of_testBit_eq
  intro i
  simp only [Nat.testBit_and, Nat.testBit_or, Nat.zero_testBit]
  generalize (2396745 : Nat).testBit i = e
  cases e <;> simp
theorem wa_10 (x : Nat) : x ^^^ ((((2396745 &&& 2396745) &&& x / 2 ^ 1) &&& 2396745) * 2 ^ 2) = gaN x 10 := by
  show _ = x ^^^ ((((2396745 &&& (x ||| 2396745)) &&& ((x >>> 1) ||| 0)) &&& ((x >>> 2) ||| 2396745)) <<< 2)
  rw [Nat.shiftLeft_eq]
  congr 2
  rw [Nat.shiftRight_eq_div_pow, Nat.shiftRight_eq_div_pow]
  apply Nat.eq_of_testBit_eq
  intro i
  simp only [Nat.testBit_and, Nat.testBit_or, Nat.zero_testBit]
  generalize (2396745 : Nat).testBit i = e
  cases e <;> simp
theorem wa_11 (x : Nat) : x ^^^ ((((2396745 &&& x / 2 ^ 0) &&& x / 2 ^ 1) &&& 2396745) * 2 ^ 2) = gaN x 11 := by
  show _ = x ^^^ ((((2396745 &&& (x ||| 0)) &&& ((x >>> 1) ||| 0)) &&& ((x >>> 2) ||| 2396745)) <<< 2)
  rw [Nat.shiftLeft_eq]
  congr 2
  rw [Nat.shiftRight_eq_div_pow, Nat.shiftRight_eq_div_pow, show x / 2 ^ 0 = x from Nat.div_one x]
  apply Nat.eq_of_testBit_eq
  intro i
  simp only [Nat.testBit_and, Nat.testBit_or, Nat.zero_testBit]
  generalize (2396745 : Nat).testBit i = e
  cases e <;> simp
theorem wa_ga (x : Nat) {g : Nat} (hg : g < 12) : x ^^^ (waN x (lsC g) 3 * 2 ^ (g / 4)) = gaN x g := by
  rcases (by omega : g = 0 ∨ g = 1 ∨ g = 2 ∨ g = 3 ∨ g = 4 ∨ g = 5 ∨ g = 6 ∨ g = 7 ∨ g = 8 ∨ g = 9 ∨ g = 10 ∨ g = 11) with h | h | h | h | h | h | h | h | h | h | h | h <;> subst h
  · exact wa_0 x
  · exact wa_1 x
  · exact wa_2 x
  · exact wa_3 x
  · exact wa_4 x
  · exact wa_5 x
  · exact wa_6 x
  · exact wa_7 x
  · exact wa_8 x
  · exact wa_9 x
  · exact wa_10 x
  · exact wa_11 x
theorem cg_a : ∀ a, a < 12 → xp_a4.getD a 0 = nI (lsC a) := by decide +kernel
theorem cg_8 : ∀ a, a < 12 → lsC a < 8 := by decide +kernel
section LEA
variable {d : Nat} {M : mm_M}
set_option maxRecDepth 100000 in
theorem gad_l {P : am_Q} {X : am_X} {x g c : Nat} (hX : am_K d false nm_X7_gated P X) (hx : x < 16777216) (hc : c < 8) (hK : ∀ l4, X 45 [some (aI (nI x)), some (aI (nI g)), some (aI (nI c)), some (aI (nI (waN x c 3))), l4] [] M) : ∀ (m i : Nat), i + m = 3 → X 12 [some (aI (nI x)), some (aI (nI g)), some (aI (nI c)), some (aI (nI (waN x c i))), some (aI (nI i))] [] M := by
  intro m
  induction m with
  | zero =>
    intro i hi
    have hi : i = 3 := by omega
    subst hi
    refine am_run hX 3 _ _ _ _ ?_
    conv => whnf
    exact ⟨fun _ => hK _, fun c => absurd (by decide) c⟩
  | succ m ih =>
    intro i hi
    have ih := ih (i + 1) (by omega)
    have e : waN x c (i + 1) = waN x c i &&& (if c / 2 ^ i % 2 = 0 then 2396745 else x / 2 ^ i) := rfl
    rw [e] at ih
    refine am_run hX 3 _ _ _ _ ?_
    conv => whnf
    refine ⟨fun c => absurd c (nI_ge (b := 3) (by omega) (by decide)), fun _ => ?_⟩
    refine am_run hX 7 _ _ _ _ ?_
    conv => whnf
    rw [nI_sh (by omega) i (by omega), nI_m1]
    refine ⟨fun c => ?_, fun c => ?_⟩
    · have z := (nI_eq (b := 0) (by omega) (by decide)).mp c
      rw [if_pos z] at ih
      refine am_run hX 5 _ _ _ _ ?_
      conv => whnf
      rw [show (2396745 : Int32) = nI 2396745 from rfl, nI_and, nI_1]
      exact ih
    · rw [if_neg (fun z => c (by rw [z]; rfl))] at ih
      refine am_run hX 8 _ _ _ _ ?_
      conv => whnf
      rw [nI_sh (by omega) i (by omega), nI_and, nI_1]
      exact ih
set_option maxRecDepth 100000 in
theorem ct_gated {x g : Nat} (hx : x < 16777216) (hg : g < 12) : am_M (d + 1) false nm_X7_gated [aI (nI x), aI (nI g)] M (am_q1 (aI (nI (gaN x g))) M) := by
  refine ⟨rfl, rfl, rfl, fun X hX => am_run hX 8 _ _ _ _ ?_⟩
  conv => whnf
  refine ⟨vp_in_nI (by show g < 12; omega) (by decide), ?_⟩
  conv => whnf
  rw [nI_clamp (n := g) (by omega), show (fun j => xp_a4.getD j 0) g = nI (lsC g) from cg_a g hg]
  refine gad_l hX hx (cg_8 g hg) (fun l4 => ?_) 3 0 (by omega)
  refine am_run hX 10 _ _ _ _ ?_
  conv => whnf
  refine ⟨trivial, ?_, rfl⟩
  have wl := wa_le x (lsC g) 3
  have b : waN x (lsC g) 3 * 2 ^ (g / 4) < 2 ^ 32 := by
    calc waN x (lsC g) 3 * 2 ^ (g / 4) ≤ 2396745 * 2 ^ 2 := Nat.mul_le_mul wl (Nat.pow_le_pow_right (by decide) (by omega))
      _ < 2 ^ 32 := by decide
  rw [show nI g >>> ((2 : Int32) &&& 31) = nI (g / 4) from nI_sh (by omega) 2 (by decide), nI_shl (by omega) b, nI_xor, wa_ga x hg]
end LEA
