def lsT : Nat := 0x321054106420
def lsC (g : Nat) : Nat := Nat.land (Nat.shiftRight lsT (Nat.mul 4 g)) 7
def lsM (c i : Nat) : Nat := Nat.mul 2396745 (Nat.sub 1 (Nat.land (Nat.shiftRight c i) 1))
def gaC (x c w : Nat) : Nat := Nat.xor x (Nat.shiftLeft (Nat.land (Nat.land (Nat.land 2396745 (Nat.lor x (lsM c 0))) (Nat.lor (Nat.shiftRight x 1) (lsM c 1))) (Nat.lor (Nat.shiftRight x 2) (lsM c 2))) w)
def gaN (x g : Nat) : Nat := gaC x (lsC g) (Nat.div g 4)
def gaS (x g : Nat) : Nat := bif Nat.blt g 12 then gaN x g else x
def gaW (x w : Nat) : Nat := gaS (gaS (gaS (gaS (gaS (gaS (gaS (gaS x (Nat.land w 15)) (Nat.land (Nat.shiftRight w 4) 15)) (Nat.land (Nat.shiftRight w 8) 15)) (Nat.land (Nat.shiftRight w 12) 15)) (Nat.land (Nat.shiftRight w 16) 15)) (Nat.land (Nat.shiftRight w 20) 15)) (Nat.land (Nat.shiftRight w 24) 15)) (Nat.land (Nat.shiftRight w 28) 15)
def dgN (x j : Nat) : Nat := Nat.land (Nat.shiftRight x (Nat.mul 3 j)) 7
def lsL (a b : Nat) : Nat := bif Nat.blt a b then 1 else 0
def rkD (a0 a1 a2 a3 a4 a5 a6 a7 : Nat) : Nat := (Nat.add (Nat.mul (Nat.add (Nat.mul (Nat.add (Nat.mul (Nat.add (Nat.mul (Nat.add (Nat.mul (Nat.add (Nat.mul (Nat.add (Nat.add (Nat.add (Nat.add (Nat.add (Nat.add (lsL a1 a0) (lsL a2 a0)) (lsL a3 a0)) (lsL a4 a0)) (lsL a5 a0)) (lsL a6 a0)) (lsL a7 a0)) 7) (Nat.add (Nat.add (Nat.add (Nat.add (Nat.add (lsL a2 a1) (lsL a3 a1)) (lsL a4 a1)) (lsL a5 a1)) (lsL a6 a1)) (lsL a7 a1))) 6) (Nat.add (Nat.add (Nat.add (Nat.add (lsL a3 a2) (lsL a4 a2)) (lsL a5 a2)) (lsL a6 a2)) (lsL a7 a2))) 5) (Nat.add (Nat.add (Nat.add (lsL a4 a3) (lsL a5 a3)) (lsL a6 a3)) (lsL a7 a3))) 4) (Nat.add (Nat.add (lsL a5 a4) (lsL a6 a4)) (lsL a7 a4))) 3) (Nat.add (lsL a6 a5) (lsL a7 a5))) 2) (lsL a7 a6))
def rkN (x : Nat) : Nat := rkD (dgN x 0) (dgN x 1) (dgN x 2) (dgN x 3) (dgN x 4) (dgN x 5) (dgN x 6) (dgN x 7)
def lsF (W r : Nat) : Nat := Nat.land (Nat.shiftRight W (Nat.mul 32 (Nat.mod r 5040))) 4294967295
def lsK (W k x : Nat) : Bool := bif Nat.beq (Nat.div (rkN x) 5040) k then Nat.beq (gaW x (lsF W (rkN x))) 16434824 else false
noncomputable def lsA (f : Nat → Bool) (d : Nat) : Nat → Nat → Nat → Bool := Nat.rec (fun _ c _ => f c) (fun _ ih m c s => (bif (bif Nat.beq (Nat.land (Nat.shiftRight m 0) 1) 1 then true else ih (Nat.add m 1) (Nat.add c (Nat.mul 0 s)) (Nat.mul 8 s)) then (bif (bif Nat.beq (Nat.land (Nat.shiftRight m 1) 1) 1 then true else ih (Nat.add m 2) (Nat.add c (Nat.mul 1 s)) (Nat.mul 8 s)) then (bif (bif Nat.beq (Nat.land (Nat.shiftRight m 2) 1) 1 then true else ih (Nat.add m 4) (Nat.add c (Nat.mul 2 s)) (Nat.mul 8 s)) then (bif (bif Nat.beq (Nat.land (Nat.shiftRight m 3) 1) 1 then true else ih (Nat.add m 8) (Nat.add c (Nat.mul 3 s)) (Nat.mul 8 s)) then (bif (bif Nat.beq (Nat.land (Nat.shiftRight m 4) 1) 1 then true else ih (Nat.add m 16) (Nat.add c (Nat.mul 4 s)) (Nat.mul 8 s)) then (bif (bif Nat.beq (Nat.land (Nat.shiftRight m 5) 1) 1 then true else ih (Nat.add m 32) (Nat.add c (Nat.mul 5 s)) (Nat.mul 8 s)) then (bif (bif Nat.beq (Nat.land (Nat.shiftRight m 6) 1) 1 then true else ih (Nat.add m 64) (Nat.add c (Nat.mul 6 s)) (Nat.mul 8 s)) then (bif Nat.beq (Nat.land (Nat.shiftRight m 7) 1) 1 then true else ih (Nat.add m 128) (Nat.add c (Nat.mul 7 s)) (Nat.mul 8 s)) else false) else false) else false) else false) else false) else false) else false)) d

theorem dg_e (x j : Nat) : dgN x j = x / 8 ^ j % 8 := by
  show (x >>> (3 * j)) &&& 7 = _
  rw [Nat.shiftRight_eq_div_pow, show (7 : Nat) = 2 ^ 3 - 1 from rfl, Nat.and_two_pow_sub_one_eq_mod, Nat.pow_mul]
theorem dg_lt (x j : Nat) : dgN x j < 8 := by rw [dg_e]; omega
theorem dg_b (x j b : Nat) (hb : b < 3) : (dgN x j).testBit b = x.testBit (3 * j + b) := by
  show ((x >>> (3 * j)) &&& 7).testBit b = _
  rw [Nat.testBit_and, Nat.testBit_shiftRight]
  rcases (by omega : b = 0 ∨ b = 1 ∨ b = 2) with h | h | h <;> subst h <;> simp [show Nat.testBit 7 1 = true from rfl, show Nat.testBit 7 2 = true from rfl]
def tb3 (a b c : Bool) : Nat := a.toNat + 2 * b.toNat + 4 * c.toNat
theorem tb3_e : ∀ v, v < 8 → v = tb3 (v.testBit 0) (v.testBit 1) (v.testBit 2) := by decide
theorem dg_t (x j : Nat) : dgN x j = tb3 (x.testBit (3 * j)) (x.testBit (3 * j + 1)) (x.testBit (3 * j + 2)) := by
  rw [tb3_e _ (dg_lt x j), dg_b x j 0 (by omega), dg_b x j 1 (by omega), dg_b x j 2 (by omega)]; rfl
theorem dg_x {x y : Nat} (hx : x < 16777216) (hy : y < 16777216) (h : ∀ j, j < 8 → dgN x j = dgN y j) : x = y := by
  have h0 : x / 1 % 8 = y / 1 % 8 := by have q := h 0 (by omega); rw [dg_e, dg_e] at q; exact q
  have h1 : x / 8 % 8 = y / 8 % 8 := by have q := h 1 (by omega); rw [dg_e, dg_e] at q; exact q
  have h2 : x / 64 % 8 = y / 64 % 8 := by have q := h 2 (by omega); rw [dg_e, dg_e] at q; exact q
  have h3 : x / 512 % 8 = y / 512 % 8 := by have q := h 3 (by omega); rw [dg_e, dg_e] at q; exact q
  have h4 : x / 4096 % 8 = y / 4096 % 8 := by have q := h 4 (by omega); rw [dg_e, dg_e] at q; exact q
  have h5 : x / 32768 % 8 = y / 32768 % 8 := by have q := h 5 (by omega); rw [dg_e, dg_e] at q; exact q
  have h6 : x / 262144 % 8 = y / 262144 % 8 := by have q := h 6 (by omega); rw [dg_e, dg_e] at q; exact q
  have h7 : x / 2097152 % 8 = y / 2097152 % 8 := by have q := h 7 (by omega); rw [dg_e, dg_e] at q; exact q
  omega
/-- a gate on one of eight STARTS -/
def gtN (g v : Nat) : Nat := bif Nat.beq (Nat.land v (lsC g)) (lsC g) then Nat.xor v (Nat.shiftLeft 1 (Nat.div g 4)) else v
theorem gt_lt : ∀ g, g < 12 → ∀ v, v < 8 → gtN g v < 8 := by decide +kernel
theorem gt_i : ∀ g, g < 12 → ∀ v, v < 8 → gtN g (gtN g v) = v := by decide +kernel
theorem ga_b0 (x n : Nat) : (gaN x 0).testBit n = (x.testBit n ^^ (decide (0 ≤ n) && ((((2396745 : Nat).testBit (n - 0)) && (x.testBit (n - 0) || (2396745 : Nat).testBit (n - 0))) && (x.testBit (1 + (n - 0)) || (2396745 : Nat).testBit (n - 0)) && (x.testBit (2 + (n - 0)) || (2396745 : Nat).testBit (n - 0))))) := by
  show (x ^^^ ((((2396745 &&& (x ||| 2396745)) &&& ((x >>> 1) ||| 2396745)) &&& ((x >>> 2) ||| 2396745)) <<< 0)).testBit n = _
  rw [Nat.testBit_xor, Nat.testBit_shiftLeft, Nat.testBit_and, Nat.testBit_and, Nat.testBit_and, Nat.testBit_or, Nat.testBit_or, Nat.testBit_or, Nat.testBit_shiftRight, Nat.testBit_shiftRight]
theorem ga_d0 (x : Nat) : ∀ j, j < 8 → dgN (gaN x 0) j = gtN 0 (dgN x j) := by
  intro j hj
  rw [dg_t, dg_t]
  rcases (by omega : j = 0 ∨ j = 1 ∨ j = 2 ∨ j = 3 ∨ j = 4 ∨ j = 5 ∨ j = 6 ∨ j = 7) with h | h | h | h | h | h | h | h
  · subst h
    rw [ga_b0, ga_b0, ga_b0]
    generalize e0 : x.testBit 0 = b0
    generalize e1 : x.testBit 1 = b1
    generalize e2 : x.testBit 2 = b2
    simp [e0, e1, e2, Nat.testBit]
    clear e0 e1 e2; revert b0 b1 b2; decide
  · subst h
    rw [ga_b0, ga_b0, ga_b0]
    generalize e0 : x.testBit 3 = b0
    generalize e1 : x.testBit 4 = b1
    generalize e2 : x.testBit 5 = b2
    simp [e0, e1, e2, Nat.testBit]
    clear e0 e1 e2; revert b0 b1 b2; decide
  · subst h
    rw [ga_b0, ga_b0, ga_b0]
    generalize e0 : x.testBit 6 = b0
    generalize e1 : x.testBit 7 = b1
    generalize e2 : x.testBit 8 = b2
    simp [e0, e1, e2, Nat.testBit]
    clear e0 e1 e2; revert b0 b1 b2; decide
  · subst h
    rw [ga_b0, ga_b0, ga_b0]
    generalize e0 : x.testBit 9 = b0
    generalize e1 : x.testBit 10 = b1
    generalize e2 : x.testBit 11 = b2
    simp [e0, e1, e2, Nat.testBit]
    clear e0 e1 e2; revert b0 b1 b2; decide
  · subst h
    rw [ga_b0, ga_b0, ga_b0]
    generalize e0 : x.testBit 12 = b0
    generalize e1 : x.testBit 13 = b1
    generalize e2 : x.testBit 14 = b2
    simp [e0, e1, e2, Nat.testBit]
    clear e0 e1 e2; revert b0 b1 b2; decide
  · subst h
    rw [ga_b0, ga_b0, ga_b0]
    generalize e0 : x.testBit 15 = b0
    generalize e1 : x.testBit 16 = b1
    generalize e2 : x.testBit 17 = b2
    simp [e0, e1, e2, Nat.testBit]
    clear e0 e1 e2; revert b0 b1 b2; decide
  · subst h
    rw [ga_b0, ga_b0, ga_b0]
    generalize e0 : x.testBit 18 = b0
    generalize e1 : x.testBit 19 = b1
    generalize e2 : x.testBit 20 = b2
    simp [e0, e1, e2, Nat.testBit]
    clear e0 e1 e2; revert b0 b1 b2; decide
  · subst h
    rw [ga_b0, ga_b0, ga_b0]
    generalize e0 : x.testBit 21 = b0
    generalize e1 : x.testBit 22 = b1
    generalize e2 : x.testBit 23 = b2
    simp [e0, e1, e2, Nat.testBit]
    clear e0 e1 e2; revert b0 b1 b2; decide
theorem ga_b1 (x n : Nat) : (gaN x 1).testBit n = (x.testBit n ^^ (decide (0 ≤ n) && ((((2396745 : Nat).testBit (n - 0)) && (x.testBit (n - 0) || (2396745 : Nat).testBit (n - 0))) && (x.testBit (1 + (n - 0)) || (0 : Nat).testBit (n - 0)) && (x.testBit (2 + (n - 0)) || (2396745 : Nat).testBit (n - 0))))) := by
  show (x ^^^ ((((2396745 &&& (x ||| 2396745)) &&& ((x >>> 1) ||| 0)) &&& ((x >>> 2) ||| 2396745)) <<< 0)).testBit n = _
  rw [Nat.testBit_xor, Nat.testBit_shiftLeft, Nat.testBit_and, Nat.testBit_and, Nat.testBit_and, Nat.testBit_or, Nat.testBit_or, Nat.testBit_or, Nat.testBit_shiftRight, Nat.testBit_shiftRight]
theorem ga_d1 (x : Nat) : ∀ j, j < 8 → dgN (gaN x 1) j = gtN 1 (dgN x j) := by
  intro j hj
  rw [dg_t, dg_t]
  rcases (by omega : j = 0 ∨ j = 1 ∨ j = 2 ∨ j = 3 ∨ j = 4 ∨ j = 5 ∨ j = 6 ∨ j = 7) with h | h | h | h | h | h | h | h
  · subst h
    rw [ga_b1, ga_b1, ga_b1]
    generalize e0 : x.testBit 0 = b0
    generalize e1 : x.testBit 1 = b1
    generalize e2 : x.testBit 2 = b2
    simp [e0, e1, e2, Nat.testBit]
    clear e0 e1 e2; revert b0 b1 b2; decide
  · subst h
    rw [ga_b1, ga_b1, ga_b1]
    generalize e0 : x.testBit 3 = b0
    generalize e1 : x.testBit 4 = b1
    generalize e2 : x.testBit 5 = b2
    simp [e0, e1, e2, Nat.testBit]
    clear e0 e1 e2; revert b0 b1 b2; decide
  · subst h
    rw [ga_b1, ga_b1, ga_b1]
    generalize e0 : x.testBit 6 = b0
    generalize e1 : x.testBit 7 = b1
    generalize e2 : x.testBit 8 = b2
    simp [e0, e1, e2, Nat.testBit]
    clear e0 e1 e2; revert b0 b1 b2; decide
  · subst h
    rw [ga_b1, ga_b1, ga_b1]
    generalize e0 : x.testBit 9 = b0
    generalize e1 : x.testBit 10 = b1
    generalize e2 : x.testBit 11 = b2
    simp [e0, e1, e2, Nat.testBit]
    clear e0 e1 e2; revert b0 b1 b2; decide
  · subst h
    rw [ga_b1, ga_b1, ga_b1]
    generalize e0 : x.testBit 12 = b0
    generalize e1 : x.testBit 13 = b1
    generalize e2 : x.testBit 14 = b2
    simp [e0, e1, e2, Nat.testBit]
    clear e0 e1 e2; revert b0 b1 b2; decide
  · subst h
    rw [ga_b1, ga_b1, ga_b1]
    generalize e0 : x.testBit 15 = b0
    generalize e1 : x.testBit 16 = b1
    generalize e2 : x.testBit 17 = b2
    simp [e0, e1, e2, Nat.testBit]
    clear e0 e1 e2; revert b0 b1 b2; decide
  · subst h
    rw [ga_b1, ga_b1, ga_b1]
    generalize e0 : x.testBit 18 = b0
    generalize e1 : x.testBit 19 = b1
    generalize e2 : x.testBit 20 = b2
    simp [e0, e1, e2, Nat.testBit]
    clear e0 e1 e2; revert b0 b1 b2; decide
  · subst h
    rw [ga_b1, ga_b1, ga_b1]
    generalize e0 : x.testBit 21 = b0
    generalize e1 : x.testBit 22 = b1
    generalize e2 : x.testBit 23 = b2
    simp [e0, e1, e2, Nat.testBit]
    clear e0 e1 e2; revert b0 b1 b2; decide
theorem ga_b2 (x n : Nat) : (gaN x 2).testBit n = (x.testBit n ^^ (decide (0 ≤ n) && ((((2396745 : Nat).testBit (n - 0)) && (x.testBit (n - 0) || (2396745 : Nat).testBit (n - 0))) && (x.testBit (1 + (n - 0)) || (2396745 : Nat).testBit (n - 0)) && (x.testBit (2 + (n - 0)) || (0 : Nat).testBit (n - 0))))) := by
  show (x ^^^ ((((2396745 &&& (x ||| 2396745)) &&& ((x >>> 1) ||| 2396745)) &&& ((x >>> 2) ||| 0)) <<< 0)).testBit n = _
  rw [Nat.testBit_xor, Nat.testBit_shiftLeft, Nat.testBit_and, Nat.testBit_and, Nat.testBit_and, Nat.testBit_or, Nat.testBit_or, Nat.testBit_or, Nat.testBit_shiftRight, Nat.testBit_shiftRight]
theorem ga_d2 (x : Nat) : ∀ j, j < 8 → dgN (gaN x 2) j = gtN 2 (dgN x j) := by
  intro j hj
  rw [dg_t, dg_t]
  rcases (by omega : j = 0 ∨ j = 1 ∨ j = 2 ∨ j = 3 ∨ j = 4 ∨ j = 5 ∨ j = 6 ∨ j = 7) with h | h | h | h | h | h | h | h
  · subst h
    rw [ga_b2, ga_b2, ga_b2]
    generalize e0 : x.testBit 0 = b0
    generalize e1 : x.testBit 1 = b1
    generalize e2 : x.testBit 2 = b2
    simp [e0, e1, e2, Nat.testBit]
    clear e0 e1 e2; revert b0 b1 b2; decide
  · subst h
    rw [ga_b2, ga_b2, ga_b2]
    generalize e0 : x.testBit 3 = b0
    generalize e1 : x.testBit 4 = b1
    generalize e2 : x.testBit 5 = b2
    simp [e0, e1, e2, Nat.testBit]
    clear e0 e1 e2; revert b0 b1 b2; decide
  · subst h
    rw [ga_b2, ga_b2, ga_b2]
    generalize e0 : x.testBit 6 = b0
    generalize e1 : x.testBit 7 = b1
    generalize e2 : x.testBit 8 = b2
    simp [e0, e1, e2, Nat.testBit]
    clear e0 e1 e2; revert b0 b1 b2; decide
  · subst h
    rw [ga_b2, ga_b2, ga_b2]
    generalize e0 : x.testBit 9 = b0
    generalize e1 : x.testBit 10 = b1
    generalize e2 : x.testBit 11 = b2
    simp [e0, e1, e2, Nat.testBit]
    clear e0 e1 e2; revert b0 b1 b2; decide
  · subst h
    rw [ga_b2, ga_b2, ga_b2]
    generalize e0 : x.testBit 12 = b0
    generalize e1 : x.testBit 13 = b1
    generalize e2 : x.testBit 14 = b2
    simp [e0, e1, e2, Nat.testBit]
    clear e0 e1 e2; revert b0 b1 b2; decide
  · subst h
    rw [ga_b2, ga_b2, ga_b2]
    generalize e0 : x.testBit 15 = b0
    generalize e1 : x.testBit 16 = b1
    generalize e2 : x.testBit 17 = b2
    simp [e0, e1, e2, Nat.testBit]
    clear e0 e1 e2; revert b0 b1 b2; decide
  · subst h
    rw [ga_b2, ga_b2, ga_b2]
    generalize e0 : x.testBit 18 = b0
    generalize e1 : x.testBit 19 = b1
    generalize e2 : x.testBit 20 = b2
    simp [e0, e1, e2, Nat.testBit]
    clear e0 e1 e2; revert b0 b1 b2; decide
  · subst h
    rw [ga_b2, ga_b2, ga_b2]
    generalize e0 : x.testBit 21 = b0
    generalize e1 : x.testBit 22 = b1
    generalize e2 : x.testBit 23 = b2
    simp [e0, e1, e2, Nat.testBit]
    clear e0 e1 e2; revert b0 b1 b2; decide
theorem ga_b3 (x n : Nat) : (gaN x 3).testBit n = (x.testBit n ^^ (decide (0 ≤ n) && ((((2396745 : Nat).testBit (n - 0)) && (x.testBit (n - 0) || (2396745 : Nat).testBit (n - 0))) && (x.testBit (1 + (n - 0)) || (0 : Nat).testBit (n - 0)) && (x.testBit (2 + (n - 0)) || (0 : Nat).testBit (n - 0))))) := by
  show (x ^^^ ((((2396745 &&& (x ||| 2396745)) &&& ((x >>> 1) ||| 0)) &&& ((x >>> 2) ||| 0)) <<< 0)).testBit n = _
  rw [Nat.testBit_xor, Nat.testBit_shiftLeft, Nat.testBit_and, Nat.testBit_and, Nat.testBit_and, Nat.testBit_or, Nat.testBit_or, Nat.testBit_or, Nat.testBit_shiftRight, Nat.testBit_shiftRight]
theorem ga_d3 (x : Nat) : ∀ j, j < 8 → dgN (gaN x 3) j = gtN 3 (dgN x j) := by
  intro j hj
  rw [dg_t, dg_t]
  rcases (by omega : j = 0 ∨ j = 1 ∨ j = 2 ∨ j = 3 ∨ j = 4 ∨ j = 5 ∨ j = 6 ∨ j = 7) with h | h | h | h | h | h | h | h
  · subst h
    rw [ga_b3, ga_b3, ga_b3]
    generalize e0 : x.testBit 0 = b0
    generalize e1 : x.testBit 1 = b1
    generalize e2 : x.testBit 2 = b2
    simp [e0, e1, e2, Nat.testBit]
    clear e0 e1 e2; revert b0 b1 b2; decide
  · subst h
    rw [ga_b3, ga_b3, ga_b3]
    generalize e0 : x.testBit 3 = b0
    generalize e1 : x.testBit 4 = b1
    generalize e2 : x.testBit 5 = b2
    simp [e0, e1, e2, Nat.testBit]
    clear e0 e1 e2; revert b0 b1 b2; decide
  · subst h
    rw [ga_b3, ga_b3, ga_b3]
    generalize e0 : x.testBit 6 = b0
    generalize e1 : x.testBit 7 = b1
    generalize e2 : x.testBit 8 = b2
    simp [e0, e1, e2, Nat.testBit]
    clear e0 e1 e2; revert b0 b1 b2; decide
  · subst h
    rw [ga_b3, ga_b3, ga_b3]
    generalize e0 : x.testBit 9 = b0
    generalize e1 : x.testBit 10 = b1
    generalize e2 : x.testBit 11 = b2
    simp [e0, e1, e2, Nat.testBit]
    clear e0 e1 e2; revert b0 b1 b2; decide
  · subst h
    rw [ga_b3, ga_b3, ga_b3]
    generalize e0 : x.testBit 12 = b0
    generalize e1 : x.testBit 13 = b1
    generalize e2 : x.testBit 14 = b2
    simp [e0, e1, e2, Nat.testBit]
    clear e0 e1 e2; revert b0 b1 b2; decide
  · subst h
    rw [ga_b3, ga_b3, ga_b3]
    generalize e0 : x.testBit 15 = b0
    generalize e1 : x.testBit 16 = b1
    generalize e2 : x.testBit 17 = b2
    simp [e0, e1, e2, Nat.testBit]
    clear e0 e1 e2; revert b0 b1 b2; decide
  · subst h
    rw [ga_b3, ga_b3, ga_b3]
    generalize e0 : x.testBit 18 = b0
    generalize e1 : x.testBit 19 = b1
    generalize e2 : x.testBit 20 = b2
    simp [e0, e1, e2, Nat.testBit]
    clear e0 e1 e2; revert b0 b1 b2; decide
  · subst h
    rw [ga_b3, ga_b3, ga_b3]
    generalize e0 : x.testBit 21 = b0
    generalize e1 : x.testBit 22 = b1
    generalize e2 : x.testBit 23 = b2
    simp [e0, e1, e2, Nat.testBit]
    clear e0 e1 e2; revert b0 b1 b2; decide
theorem ga_b4 (x n : Nat) : (gaN x 4).testBit n = (x.testBit n ^^ (decide (1 ≤ n) && ((((2396745 : Nat).testBit (n - 1)) && (x.testBit (n - 1) || (2396745 : Nat).testBit (n - 1))) && (x.testBit (1 + (n - 1)) || (2396745 : Nat).testBit (n - 1)) && (x.testBit (2 + (n - 1)) || (2396745 : Nat).testBit (n - 1))))) := by
  show (x ^^^ ((((2396745 &&& (x ||| 2396745)) &&& ((x >>> 1) ||| 2396745)) &&& ((x >>> 2) ||| 2396745)) <<< 1)).testBit n = _
  rw [Nat.testBit_xor, Nat.testBit_shiftLeft, Nat.testBit_and, Nat.testBit_and, Nat.testBit_and, Nat.testBit_or, Nat.testBit_or, Nat.testBit_or, Nat.testBit_shiftRight, Nat.testBit_shiftRight]
theorem ga_d4 (x : Nat) : ∀ j, j < 8 → dgN (gaN x 4) j = gtN 4 (dgN x j) := by
  intro j hj
  rw [dg_t, dg_t]
  rcases (by omega : j = 0 ∨ j = 1 ∨ j = 2 ∨ j = 3 ∨ j = 4 ∨ j = 5 ∨ j = 6 ∨ j = 7) with h | h | h | h | h | h | h | h
  · subst h
    rw [ga_b4, ga_b4, ga_b4]
    generalize e0 : x.testBit 0 = b0
    generalize e1 : x.testBit 1 = b1
    generalize e2 : x.testBit 2 = b2
    simp [e0, e1, e2, Nat.testBit]
    clear e0 e1 e2; revert b0 b1 b2; decide
  · subst h
    rw [ga_b4, ga_b4, ga_b4]
    generalize e0 : x.testBit 3 = b0
    generalize e1 : x.testBit 4 = b1
    generalize e2 : x.testBit 5 = b2
    simp [e0, e1, e2, Nat.testBit]
    clear e0 e1 e2; revert b0 b1 b2; decide
  · subst h
    rw [ga_b4, ga_b4, ga_b4]
    generalize e0 : x.testBit 6 = b0
    generalize e1 : x.testBit 7 = b1
    generalize e2 : x.testBit 8 = b2
    simp [e0, e1, e2, Nat.testBit]
    clear e0 e1 e2; revert b0 b1 b2; decide
  · subst h
    rw [ga_b4, ga_b4, ga_b4]
    generalize e0 : x.testBit 9 = b0
    generalize e1 : x.testBit 10 = b1
    generalize e2 : x.testBit 11 = b2
    simp [e0, e1, e2, Nat.testBit]
    clear e0 e1 e2; revert b0 b1 b2; decide
  · subst h
    rw [ga_b4, ga_b4, ga_b4]
    generalize e0 : x.testBit 12 = b0
    generalize e1 : x.testBit 13 = b1
    generalize e2 : x.testBit 14 = b2
    simp [e0, e1, e2, Nat.testBit]
    clear e0 e1 e2; revert b0 b1 b2; decide
  · subst h
    rw [ga_b4, ga_b4, ga_b4]
    generalize e0 : x.testBit 15 = b0
    generalize e1 : x.testBit 16 = b1
    generalize e2 : x.testBit 17 = b2
    simp [e0, e1, e2, Nat.testBit]
    clear e0 e1 e2; revert b0 b1 b2; decide
  · subst h
    rw [ga_b4, ga_b4, ga_b4]
    generalize e0 : x.testBit 18 = b0
    generalize e1 : x.testBit 19 = b1
    generalize e2 : x.testBit 20 = b2
    simp [e0, e1, e2, Nat.testBit]
    clear e0 e1 e2; revert b0 b1 b2; decide
  · subst h
    rw [ga_b4, ga_b4, ga_b4]
    generalize e0 : x.testBit 21 = b0
    generalize e1 : x.testBit 22 = b1
    generalize e2 : x.testBit 23 = b2
    simp [e0, e1, e2, Nat.testBit]
    clear e0 e1 e2; revert b0 b1 b2; decide
theorem ga_b5 (x n : Nat) : (gaN x 5).testBit n = (x.testBit n ^^ (decide (1 ≤ n) && ((((2396745 : Nat).testBit (n - 1)) && (x.testBit (n - 1) || (0 : Nat).testBit (n - 1))) && (x.testBit (1 + (n - 1)) || (2396745 : Nat).testBit (n - 1)) && (x.testBit (2 + (n - 1)) || (2396745 : Nat).testBit (n - 1))))) := by
  show (x ^^^ ((((2396745 &&& (x ||| 0)) &&& ((x >>> 1) ||| 2396745)) &&& ((x >>> 2) ||| 2396745)) <<< 1)).testBit n = _
  rw [Nat.testBit_xor, Nat.testBit_shiftLeft, Nat.testBit_and, Nat.testBit_and, Nat.testBit_and, Nat.testBit_or, Nat.testBit_or, Nat.testBit_or, Nat.testBit_shiftRight, Nat.testBit_shiftRight]
theorem ga_d5 (x : Nat) : ∀ j, j < 8 → dgN (gaN x 5) j = gtN 5 (dgN x j) := by
  intro j hj
  rw [dg_t, dg_t]
  rcases (by omega : j = 0 ∨ j = 1 ∨ j = 2 ∨ j = 3 ∨ j = 4 ∨ j = 5 ∨ j = 6 ∨ j = 7) with h | h | h | h | h | h | h | h
  · subst h
    rw [ga_b5, ga_b5, ga_b5]
    generalize e0 : x.testBit 0 = b0
    generalize e1 : x.testBit 1 = b1
    generalize e2 : x.testBit 2 = b2
    simp [e0, e1, e2, Nat.testBit]
    clear e0 e1 e2; revert b0 b1 b2; decide
  · subst h
    rw [ga_b5, ga_b5, ga_b5]
    generalize e0 : x.testBit 3 = b0
    generalize e1 : x.testBit 4 = b1
    generalize e2 : x.testBit 5 = b2
    simp [e0, e1, e2, Nat.testBit]
    clear e0 e1 e2; revert b0 b1 b2; decide
  · subst h
    rw [ga_b5, ga_b5, ga_b5]
    generalize e0 : x.testBit 6 = b0
    generalize e1 : x.testBit 7 = b1
    generalize e2 : x.testBit 8 = b2
    simp [e0, e1, e2, Nat.testBit]
    clear e0 e1 e2; revert b0 b1 b2; decide
  · subst h
    rw [ga_b5, ga_b5, ga_b5]
    generalize e0 : x.testBit 9 = b0
    generalize e1 : x.testBit 10 = b1
    generalize e2 : x.testBit 11 = b2
    simp [e0, e1, e2, Nat.testBit]
    clear e0 e1 e2; revert b0 b1 b2; decide
  · subst h
    rw [ga_b5, ga_b5, ga_b5]
    generalize e0 : x.testBit 12 = b0
    generalize e1 : x.testBit 13 = b1
    generalize e2 : x.testBit 14 = b2
    simp [e0, e1, e2, Nat.testBit]
    clear e0 e1 e2; revert b0 b1 b2; decide
  · subst h
    rw [ga_b5, ga_b5, ga_b5]
    generalize e0 : x.testBit 15 = b0
    generalize e1 : x.testBit 16 = b1
    generalize e2 : x.testBit 17 = b2
    simp [e0, e1, e2, Nat.testBit]
    clear e0 e1 e2; revert b0 b1 b2; decide
  · subst h
    rw [ga_b5, ga_b5, ga_b5]
    generalize e0 : x.testBit 18 = b0
    generalize e1 : x.testBit 19 = b1
    generalize e2 : x.testBit 20 = b2
    simp [e0, e1, e2, Nat.testBit]
    clear e0 e1 e2; revert b0 b1 b2; decide
  · subst h
    rw [ga_b5, ga_b5, ga_b5]
    generalize e0 : x.testBit 21 = b0
    generalize e1 : x.testBit 22 = b1
    generalize e2 : x.testBit 23 = b2
    simp [e0, e1, e2, Nat.testBit]
    clear e0 e1 e2; revert b0 b1 b2; decide
theorem ga_b6 (x n : Nat) : (gaN x 6).testBit n = (x.testBit n ^^ (decide (1 ≤ n) && ((((2396745 : Nat).testBit (n - 1)) && (x.testBit (n - 1) || (2396745 : Nat).testBit (n - 1))) && (x.testBit (1 + (n - 1)) || (2396745 : Nat).testBit (n - 1)) && (x.testBit (2 + (n - 1)) || (0 : Nat).testBit (n - 1))))) := by
  show (x ^^^ ((((2396745 &&& (x ||| 2396745)) &&& ((x >>> 1) ||| 2396745)) &&& ((x >>> 2) ||| 0)) <<< 1)).testBit n = _
  rw [Nat.testBit_xor, Nat.testBit_shiftLeft, Nat.testBit_and, Nat.testBit_and, Nat.testBit_and, Nat.testBit_or, Nat.testBit_or, Nat.testBit_or, Nat.testBit_shiftRight, Nat.testBit_shiftRight]
theorem ga_d6 (x : Nat) : ∀ j, j < 8 → dgN (gaN x 6) j = gtN 6 (dgN x j) := by
  intro j hj
  rw [dg_t, dg_t]
  rcases (by omega : j = 0 ∨ j = 1 ∨ j = 2 ∨ j = 3 ∨ j = 4 ∨ j = 5 ∨ j = 6 ∨ j = 7) with h | h | h | h | h | h | h | h
  · subst h
    rw [ga_b6, ga_b6, ga_b6]
    generalize e0 : x.testBit 0 = b0
    generalize e1 : x.testBit 1 = b1
    generalize e2 : x.testBit 2 = b2
    simp [e0, e1, e2, Nat.testBit]
    clear e0 e1 e2; revert b0 b1 b2; decide
  · subst h
    rw [ga_b6, ga_b6, ga_b6]
    generalize e0 : x.testBit 3 = b0
    generalize e1 : x.testBit 4 = b1
    generalize e2 : x.testBit 5 = b2
    simp [e0, e1, e2, Nat.testBit]
    clear e0 e1 e2; revert b0 b1 b2; decide
  · subst h
    rw [ga_b6, ga_b6, ga_b6]
    generalize e0 : x.testBit 6 = b0
    generalize e1 : x.testBit 7 = b1
    generalize e2 : x.testBit 8 = b2
    simp [e0, e1, e2, Nat.testBit]
    clear e0 e1 e2; revert b0 b1 b2; decide
  · subst h
    rw [ga_b6, ga_b6, ga_b6]
    generalize e0 : x.testBit 9 = b0
    generalize e1 : x.testBit 10 = b1
    generalize e2 : x.testBit 11 = b2
    simp [e0, e1, e2, Nat.testBit]
    clear e0 e1 e2; revert b0 b1 b2; decide
  · subst h
    rw [ga_b6, ga_b6, ga_b6]
    generalize e0 : x.testBit 12 = b0
    generalize e1 : x.testBit 13 = b1
    generalize e2 : x.testBit 14 = b2
    simp [e0, e1, e2, Nat.testBit]
    clear e0 e1 e2; revert b0 b1 b2; decide
  · subst h
    rw [ga_b6, ga_b6, ga_b6]
    generalize e0 : x.testBit 15 = b0
    generalize e1 : x.testBit 16 = b1
    generalize e2 : x.testBit 17 = b2
    simp [e0, e1, e2, Nat.testBit]
    clear e0 e1 e2; revert b0 b1 b2; decide
  · subst h
    rw [ga_b6, ga_b6, ga_b6]
    generalize e0 : x.testBit 18 = b0
    generalize e1 : x.testBit 19 = b1
    generalize e2 : x.testBit 20 = b2
    simp [e0, e1, e2, Nat.testBit]
    clear e0 e1 e2; revert b0 b1 b2; decide
  · subst h
    rw [ga_b6, ga_b6, ga_b6]
    generalize e0 : x.testBit 21 = b0
    generalize e1 : x.testBit 22 = b1
    generalize e2 : x.testBit 23 = b2
    simp [e0, e1, e2, Nat.testBit]
    clear e0 e1 e2; revert b0 b1 b2; decide
theorem ga_b7 (x n : Nat) : (gaN x 7).testBit n = (x.testBit n ^^ (decide (1 ≤ n) && ((((2396745 : Nat).testBit (n - 1)) && (x.testBit (n - 1) || (0 : Nat).testBit (n - 1))) && (x.testBit (1 + (n - 1)) || (2396745 : Nat).testBit (n - 1)) && (x.testBit (2 + (n - 1)) || (0 : Nat).testBit (n - 1))))) := by
  show (x ^^^ ((((2396745 &&& (x ||| 0)) &&& ((x >>> 1) ||| 2396745)) &&& ((x >>> 2) ||| 0)) <<< 1)).testBit n = _
  rw [Nat.testBit_xor, Nat.testBit_shiftLeft, Nat.testBit_and, Nat.testBit_and, Nat.testBit_and, Nat.testBit_or, Nat.testBit_or, Nat.testBit_or, Nat.testBit_shiftRight, Nat.testBit_shiftRight]
theorem ga_d7 (x : Nat) : ∀ j, j < 8 → dgN (gaN x 7) j = gtN 7 (dgN x j) := by
  intro j hj
  rw [dg_t, dg_t]
  rcases (by omega : j = 0 ∨ j = 1 ∨ j = 2 ∨ j = 3 ∨ j = 4 ∨ j = 5 ∨ j = 6 ∨ j = 7) with h | h | h | h | h | h | h | h
  · subst h
    rw [ga_b7, ga_b7, ga_b7]
    generalize e0 : x.testBit 0 = b0
    generalize e1 : x.testBit 1 = b1
    generalize e2 : x.testBit 2 = b2
    simp [e0, e1, e2, Nat.testBit]
    clear e0 e1 e2; revert b0 b1 b2; decide
  · subst h
    rw [ga_b7, ga_b7, ga_b7]
    generalize e0 : x.testBit 3 = b0
    generalize e1 : x.testBit 4 = b1
    generalize e2 : x.testBit 5 = b2
    simp [e0, e1, e2, Nat.testBit]
    clear e0 e1 e2; revert b0 b1 b2; decide
  · subst h
    rw [ga_b7, ga_b7, ga_b7]
    generalize e0 : x.testBit 6 = b0
    generalize e1 : x.testBit 7 = b1
    generalize e2 : x.testBit 8 = b2
    simp [e0, e1, e2, Nat.testBit]
    clear e0 e1 e2; revert b0 b1 b2; decide
  · subst h
    rw [ga_b7, ga_b7, ga_b7]
    generalize e0 : x.testBit 9 = b0
    generalize e1 : x.testBit 10 = b1
    generalize e2 : x.testBit 11 = b2
    simp [e0, e1, e2, Nat.testBit]
    clear e0 e1 e2; revert b0 b1 b2; decide
  · subst h
    rw [ga_b7, ga_b7, ga_b7]
    generalize e0 : x.testBit 12 = b0
    generalize e1 : x.testBit 13 = b1
    generalize e2 : x.testBit 14 = b2
    simp [e0, e1, e2, Nat.testBit]
    clear e0 e1 e2; revert b0 b1 b2; decide
  · subst h
    rw [ga_b7, ga_b7, ga_b7]
    generalize e0 : x.testBit 15 = b0
    generalize e1 : x.testBit 16 = b1
    generalize e2 : x.testBit 17 = b2
    simp [e0, e1, e2, Nat.testBit]
    clear e0 e1 e2; revert b0 b1 b2; decide
  · subst h
    rw [ga_b7, ga_b7, ga_b7]
    generalize e0 : x.testBit 18 = b0
    generalize e1 : x.testBit 19 = b1
    generalize e2 : x.testBit 20 = b2
    simp [e0, e1, e2, Nat.testBit]
    clear e0 e1 e2; revert b0 b1 b2; decide
  · subst h
    rw [ga_b7, ga_b7, ga_b7]
    generalize e0 : x.testBit 21 = b0
    generalize e1 : x.testBit 22 = b1
    generalize e2 : x.testBit 23 = b2
    simp [e0, e1, e2, Nat.testBit]
    clear e0 e1 e2; revert b0 b1 b2; decide
theorem ga_b8 (x n : Nat) : (gaN x 8).testBit n = (x.testBit n ^^ (decide (2 ≤ n) && ((((2396745 : Nat).testBit (n - 2)) && (x.testBit (n - 2) || (2396745 : Nat).testBit (n - 2))) && (x.testBit (1 + (n - 2)) || (2396745 : Nat).testBit (n - 2)) && (x.testBit (2 + (n - 2)) || (2396745 : Nat).testBit (n - 2))))) := by
  show (x ^^^ ((((2396745 &&& (x ||| 2396745)) &&& ((x >>> 1) ||| 2396745)) &&& ((x >>> 2) ||| 2396745)) <<< 2)).testBit n = _
  rw [Nat.testBit_xor, Nat.testBit_shiftLeft, Nat.testBit_and, Nat.testBit_and, Nat.testBit_and, Nat.testBit_or, Nat.testBit_or, Nat.testBit_or, Nat.testBit_shiftRight, Nat.testBit_shiftRight]
theorem ga_d8 (x : Nat) : ∀ j, j < 8 → dgN (gaN x 8) j = gtN 8 (dgN x j) := by
  intro j hj
  rw [dg_t, dg_t]
  rcases (by omega : j = 0 ∨ j = 1 ∨ j = 2 ∨ j = 3 ∨ j = 4 ∨ j = 5 ∨ j = 6 ∨ j = 7) with h | h | h | h | h | h | h | h
  · subst h
    rw [ga_b8, ga_b8, ga_b8]
    generalize e0 : x.testBit 0 = b0
    generalize e1 : x.testBit 1 = b1
    generalize e2 : x.testBit 2 = b2
    simp [e0, e1, e2, Nat.testBit]
    clear e0 e1 e2; revert b0 b1 b2; decide
  · subst h
    rw [ga_b8, ga_b8, ga_b8]
    generalize e0 : x.testBit 3 = b0
    generalize e1 : x.testBit 4 = b1
    generalize e2 : x.testBit 5 = b2
    simp [e0, e1, e2, Nat.testBit]
    clear e0 e1 e2; revert b0 b1 b2; decide
  · subst h
    rw [ga_b8, ga_b8, ga_b8]
    generalize e0 : x.testBit 6 = b0
    generalize e1 : x.testBit 7 = b1
    generalize e2 : x.testBit 8 = b2
    simp [e0, e1, e2, Nat.testBit]
    clear e0 e1 e2; revert b0 b1 b2; decide
  · subst h
    rw [ga_b8, ga_b8, ga_b8]
    generalize e0 : x.testBit 9 = b0
    generalize e1 : x.testBit 10 = b1
    generalize e2 : x.testBit 11 = b2
    simp [e0, e1, e2, Nat.testBit]
    clear e0 e1 e2; revert b0 b1 b2; decide
  · subst h
    rw [ga_b8, ga_b8, ga_b8]
    generalize e0 : x.testBit 12 = b0
    generalize e1 : x.testBit 13 = b1
    generalize e2 : x.testBit 14 = b2
    simp [e0, e1, e2, Nat.testBit]
    clear e0 e1 e2; revert b0 b1 b2; decide
  · subst h
    rw [ga_b8, ga_b8, ga_b8]
    generalize e0 : x.testBit 15 = b0
    generalize e1 : x.testBit 16 = b1
    generalize e2 : x.testBit 17 = b2
    simp [e0, e1, e2, Nat.testBit]
    clear e0 e1 e2; revert b0 b1 b2; decide
  · subst h
    rw [ga_b8, ga_b8, ga_b8]
    generalize e0 : x.testBit 18 = b0
    generalize e1 : x.testBit 19 = b1
    generalize e2 : x.testBit 20 = b2
    simp [e0, e1, e2, Nat.testBit]
    clear e0 e1 e2; revert b0 b1 b2; decide
  · subst h
    rw [ga_b8, ga_b8, ga_b8]
    generalize e0 : x.testBit 21 = b0
    generalize e1 : x.testBit 22 = b1
    generalize e2 : x.testBit 23 = b2
    simp [e0, e1, e2, Nat.testBit]
    clear e0 e1 e2; revert b0 b1 b2; decide
theorem ga_b9 (x n : Nat) : (gaN x 9).testBit n = (x.testBit n ^^ (decide (2 ≤ n) && ((((2396745 : Nat).testBit (n - 2)) && (x.testBit (n - 2) || (0 : Nat).testBit (n - 2))) && (x.testBit (1 + (n - 2)) || (2396745 : Nat).testBit (n - 2)) && (x.testBit (2 + (n - 2)) || (2396745 : Nat).testBit (n - 2))))) := by
  show (x ^^^ ((((2396745 &&& (x ||| 0)) &&& ((x >>> 1) ||| 2396745)) &&& ((x >>> 2) ||| 2396745)) <<< 2)).testBit n = _
  rw [Nat.testBit_xor, Nat.testBit_shiftLeft, Nat.testBit_and, Nat.testBit_and, Nat.testBit_and, Nat.testBit_or, Nat.testBit_or, Nat.testBit_or, Nat.testBit_shiftRight, Nat.testBit_shiftRight]
theorem ga_d9 (x : Nat) : ∀ j, j < 8 → dgN (gaN x 9) j = gtN 9 (dgN x j) := by
  intro j hj
  rw [dg_t, dg_t]
  rcases (by omega : j = 0 ∨ j = 1 ∨ j = 2 ∨ j = 3 ∨ j = 4 ∨ j = 5 ∨ j = 6 ∨ j = 7) with h | h | h | h | h | h | h | h
  · subst h
    rw [ga_b9, ga_b9, ga_b9]
    generalize e0 : x.testBit 0 = b0
    generalize e1 : x.testBit 1 = b1
    generalize e2 : x.testBit 2 = b2
    simp [e0, e1, e2, Nat.testBit]
    clear e0 e1 e2; revert b0 b1 b2; decide
  · subst h
    rw [ga_b9, ga_b9, ga_b9]
    generalize e0 : x.testBit 3 = b0
    generalize e1 : x.testBit 4 = b1
    generalize e2 : x.testBit 5 = b2
    simp [e0, e1, e2, Nat.testBit]
    clear e0 e1 e2; revert b0 b1 b2; decide
  · subst h
    rw [ga_b9, ga_b9, ga_b9]
    generalize e0 : x.testBit 6 = b0
    generalize e1 : x.testBit 7 = b1
    generalize e2 : x.testBit 8 = b2
    simp [e0, e1, e2, Nat.testBit]
    clear e0 e1 e2; revert b0 b1 b2; decide
  · subst h
    rw [ga_b9, ga_b9, ga_b9]
    generalize e0 : x.testBit 9 = b0
    generalize e1 : x.testBit 10 = b1
    generalize e2 : x.testBit 11 = b2
    simp [e0, e1, e2, Nat.testBit]
    clear e0 e1 e2; revert b0 b1 b2; decide
  · subst h
    rw [ga_b9, ga_b9, ga_b9]
    generalize e0 : x.testBit 12 = b0
    generalize e1 : x.testBit 13 = b1
    generalize e2 : x.testBit 14 = b2
    simp [e0, e1, e2, Nat.testBit]
    clear e0 e1 e2; revert b0 b1 b2; decide
  · subst h
    rw [ga_b9, ga_b9, ga_b9]
    generalize e0 : x.testBit 15 = b0
    generalize e1 : x.testBit 16 = b1
    generalize e2 : x.testBit 17 = b2
    simp [e0, e1, e2, Nat.testBit]
    clear e0 e1 e2; revert b0 b1 b2; decide
  · subst h
    rw [ga_b9, ga_b9, ga_b9]
    generalize e0 : x.testBit 18 = b0
    generalize e1 : x.testBit 19 = b1
    generalize e2 : x.testBit 20 = b2
    simp [e0, e1, e2, Nat.testBit]
    clear e0 e1 e2; revert b0 b1 b2; decide
  · subst h
    rw [ga_b9, ga_b9, ga_b9]
    generalize e0 : x.testBit 21 = b0
    generalize e1 : x.testBit 22 = b1
    generalize e2 : x.testBit 23 = b2
    simp [e0, e1, e2, Nat.testBit]
    clear e0 e1 e2; revert b0 b1 b2; decide
theorem ga_b10 (x n : Nat) : (gaN x 10).testBit n = (x.testBit n ^^ (decide (2 ≤ n) && ((((2396745 : Nat).testBit (n - 2)) && (x.testBit (n - 2) || (2396745 : Nat).testBit (n - 2))) && (x.testBit (1 + (n - 2)) || (0 : Nat).testBit (n - 2)) && (x.testBit (2 + (n - 2)) || (2396745 : Nat).testBit (n - 2))))) := by
  show (x ^^^ ((((2396745 &&& (x ||| 2396745)) &&& ((x >>> 1) ||| 0)) &&& ((x >>> 2) ||| 2396745)) <<< 2)).testBit n = _
  rw [Nat.testBit_xor, Nat.testBit_shiftLeft, Nat.testBit_and, Nat.testBit_and, Nat.testBit_and, Nat.testBit_or, Nat.testBit_or, Nat.testBit_or, Nat.testBit_shiftRight, Nat.testBit_shiftRight]
theorem ga_d10 (x : Nat) : ∀ j, j < 8 → dgN (gaN x 10) j = gtN 10 (dgN x j) := by
  intro j hj
  rw [dg_t, dg_t]
  rcases (by omega : j = 0 ∨ j = 1 ∨ j = 2 ∨ j = 3 ∨ j = 4 ∨ j = 5 ∨ j = 6 ∨ j = 7) with h | h | h | h | h | h | h | h
  · subst h
    rw [ga_b10, ga_b10, ga_b10]
    generalize e0 : x.testBit 0 = b0
    generalize e1 : x.testBit 1 = b1
    generalize e2 : x.testBit 2 = b2
    simp [e0, e1, e2, Nat.testBit]
    clear e0 e1 e2; revert b0 b1 b2; decide
  · subst h
    rw [ga_b10, ga_b10, ga_b10]
    generalize e0 : x.testBit 3 = b0
    generalize e1 : x.testBit 4 = b1
    generalize e2 : x.testBit 5 = b2
    simp [e0, e1, e2, Nat.testBit]
    clear e0 e1 e2; revert b0 b1 b2; decide
  · subst h
    rw [ga_b10, ga_b10, ga_b10]
    generalize e0 : x.testBit 6 = b0
    generalize e1 : x.testBit 7 = b1
    generalize e2 : x.testBit 8 = b2
    simp [e0, e1, e2, Nat.testBit]
    clear e0 e1 e2; revert b0 b1 b2; decide
  · subst h
    rw [ga_b10, ga_b10, ga_b10]
    generalize e0 : x.testBit 9 = b0
    generalize e1 : x.testBit 10 = b1
    generalize e2 : x.testBit 11 = b2
    simp [e0, e1, e2, Nat.testBit]
    clear e0 e1 e2; revert b0 b1 b2; decide
  · subst h
    rw [ga_b10, ga_b10, ga_b10]
    generalize e0 : x.testBit 12 = b0
    generalize e1 : x.testBit 13 = b1
    generalize e2 : x.testBit 14 = b2
    simp [e0, e1, e2, Nat.testBit]
    clear e0 e1 e2; revert b0 b1 b2; decide
  · subst h
    rw [ga_b10, ga_b10, ga_b10]
    generalize e0 : x.testBit 15 = b0
    generalize e1 : x.testBit 16 = b1
    generalize e2 : x.testBit 17 = b2
    simp [e0, e1, e2, Nat.testBit]
    clear e0 e1 e2; revert b0 b1 b2; decide
  · subst h
    rw [ga_b10, ga_b10, ga_b10]
    generalize e0 : x.testBit 18 = b0
    generalize e1 : x.testBit 19 = b1
    generalize e2 : x.testBit 20 = b2
    simp [e0, e1, e2, Nat.testBit]
    clear e0 e1 e2; revert b0 b1 b2; decide
  · subst h
    rw [ga_b10, ga_b10, ga_b10]
    generalize e0 : x.testBit 21 = b0
    generalize e1 : x.testBit 22 = b1
    generalize e2 : x.testBit 23 = b2
    simp [e0, e1, e2, Nat.testBit]
    clear e0 e1 e2; revert b0 b1 b2; decide
theorem ga_b11 (x n : Nat) : (gaN x 11).testBit n = (x.testBit n ^^ (decide (2 ≤ n) && ((((2396745 : Nat).testBit (n - 2)) && (x.testBit (n - 2) || (0 : Nat).testBit (n - 2))) && (x.testBit (1 + (n - 2)) || (0 : Nat).testBit (n - 2)) && (x.testBit (2 + (n - 2)) || (2396745 : Nat).testBit (n - 2))))) := by
  show (x ^^^ ((((2396745 &&& (x ||| 0)) &&& ((x >>> 1) ||| 0)) &&& ((x >>> 2) ||| 2396745)) <<< 2)).testBit n = _
  rw [Nat.testBit_xor, Nat.testBit_shiftLeft, Nat.testBit_and, Nat.testBit_and, Nat.testBit_and, Nat.testBit_or, Nat.testBit_or, Nat.testBit_or, Nat.testBit_shiftRight, Nat.testBit_shiftRight]
theorem ga_d11 (x : Nat) : ∀ j, j < 8 → dgN (gaN x 11) j = gtN 11 (dgN x j) := by
  intro j hj
  rw [dg_t, dg_t]
  rcases (by omega : j = 0 ∨ j = 1 ∨ j = 2 ∨ j = 3 ∨ j = 4 ∨ j = 5 ∨ j = 6 ∨ j = 7) with h | h | h | h | h | h | h | h
  · subst h
    rw [ga_b11, ga_b11, ga_b11]
    generalize e0 : x.testBit 0 = b0
    generalize e1 : x.testBit 1 = b1
    generalize e2 : x.testBit 2 = b2
    simp [e0, e1, e2, Nat.testBit]
    clear e0 e1 e2; revert b0 b1 b2; decide
  · subst h
    rw [ga_b11, ga_b11, ga_b11]
    generalize e0 : x.testBit 3 = b0
    generalize e1 : x.testBit 4 = b1
    generalize e2 : x.testBit 5 = b2
    simp [e0, e1, e2, Nat.testBit]
    clear e0 e1 e2; revert b0 b1 b2; decide
  · subst h
    rw [ga_b11, ga_b11, ga_b11]
    generalize e0 : x.testBit 6 = b0
    generalize e1 : x.testBit 7 = b1
    generalize e2 : x.testBit 8 = b2
    simp [e0, e1, e2, Nat.testBit]
    clear e0 e1 e2; revert b0 b1 b2; decide
  · subst h
    rw [ga_b11, ga_b11, ga_b11]
    generalize e0 : x.testBit 9 = b0
    generalize e1 : x.testBit 10 = b1
    generalize e2 : x.testBit 11 = b2
    simp [e0, e1, e2, Nat.testBit]
    clear e0 e1 e2; revert b0 b1 b2; decide
  · subst h
    rw [ga_b11, ga_b11, ga_b11]
    generalize e0 : x.testBit 12 = b0
    generalize e1 : x.testBit 13 = b1
    generalize e2 : x.testBit 14 = b2
    simp [e0, e1, e2, Nat.testBit]
    clear e0 e1 e2; revert b0 b1 b2; decide
  · subst h
    rw [ga_b11, ga_b11, ga_b11]
    generalize e0 : x.testBit 15 = b0
    generalize e1 : x.testBit 16 = b1
    generalize e2 : x.testBit 17 = b2
    simp [e0, e1, e2, Nat.testBit]
    clear e0 e1 e2; revert b0 b1 b2; decide
  · subst h
    rw [ga_b11, ga_b11, ga_b11]
    generalize e0 : x.testBit 18 = b0
    generalize e1 : x.testBit 19 = b1
    generalize e2 : x.testBit 20 = b2
    simp [e0, e1, e2, Nat.testBit]
    clear e0 e1 e2; revert b0 b1 b2; decide
  · subst h
    rw [ga_b11, ga_b11, ga_b11]
    generalize e0 : x.testBit 21 = b0
    generalize e1 : x.testBit 22 = b1
    generalize e2 : x.testBit 23 = b2
    simp [e0, e1, e2, Nat.testBit]
    clear e0 e1 e2; revert b0 b1 b2; decide

theorem ga_d {g : Nat} (hg : g < 12) (x : Nat) {j : Nat} (hj : j < 8) : dgN (gaN x g) j = gtN g (dgN x j) := by
  rcases (by omega : g = 0 ∨ g = 1 ∨ g = 2 ∨ g = 3 ∨ g = 4 ∨ g = 5 ∨ g = 6 ∨ g = 7 ∨ g = 8 ∨ g = 9 ∨ g = 10 ∨ g = 11) with h | h | h | h | h | h | h | h | h | h | h | h <;> subst h
  · exact ga_d0 x j hj
  · exact ga_d1 x j hj
  · exact ga_d2 x j hj
  · exact ga_d3 x j hj
  · exact ga_d4 x j hj
  · exact ga_d5 x j hj
  · exact ga_d6 x j hj
  · exact ga_d7 x j hj
  · exact ga_d8 x j hj
  · exact ga_d9 x j hj
  · exact ga_d10 x j hj
  · exact ga_d11 x j hj

theorem ga_lt {g : Nat} (hg : g < 12) {x : Nat} (hx : x < 16777216) : gaN x g < 16777216 := by
  have e : gaN x g = x ^^^ ((((2396745 &&& (x ||| lsM (lsC g) 0)) &&& ((x >>> 1) ||| lsM (lsC g) 1)) &&& ((x >>> 2) ||| lsM (lsC g) 2)) <<< (g / 4)) := rfl
  rw [e]
  refine Nat.xor_lt_two_pow (n := 24) hx ?_
  rw [Nat.shiftLeft_eq]
  have h1 : (((2396745 &&& (x ||| lsM (lsC g) 0)) &&& ((x >>> 1) ||| lsM (lsC g) 1)) &&& ((x >>> 2) ||| lsM (lsC g) 2)) ≤ 2396745 := Nat.le_trans Nat.and_le_left (Nat.le_trans Nat.and_le_left Nat.and_le_left)
  have h2 : 2 ^ (g / 4) ≤ 2 ^ 2 := Nat.pow_le_pow_right (by omega) (by omega)
  calc _ ≤ 2396745 * 2 ^ 2 := Nat.mul_le_mul h1 h2
    _ < 2 ^ 24 := by decide
theorem ga_i {g : Nat} (hg : g < 12) {x : Nat} (hx : x < 16777216) : gaN (gaN x g) g = x :=
  dg_x (ga_lt hg (ga_lt hg hx)) hx (fun j hj => by rw [ga_d hg _ hj, ga_d hg _ hj, gt_i g hg _ (dg_lt _ _)])
/-- what is put together of eight -/
def mkp (f : Nat → Nat) : Nat → Nat
  | 0 => 0
  | n + 1 => mkp f n + f n * 8 ^ n
theorem mkp_lt {f : Nat → Nat} (h : ∀ j, f j < 8) : ∀ n, mkp f n < 8 ^ n
  | 0 => by show (0 : Nat) < 1; decide
  | n + 1 => by
    have i := mkp_lt h n
    have q := h n
    show mkp f n + f n * 8 ^ n < 8 ^ (n + 1)
    rw [Nat.pow_succ]
    have : f n * 8 ^ n ≤ 7 * 8 ^ n := Nat.mul_le_mul_right _ (by omega)
    omega
theorem mkp_d {f : Nat → Nat} (h : ∀ j, f j < 8) : ∀ n j, j < n → dgN (mkp f n) j = f j
  | 0, j, hj => absurd hj (by omega)
  | n + 1, j, hj => by
    rw [dg_e]
    show (mkp f n + f n * 8 ^ n) / 8 ^ j % 8 = f j
    by_cases e : j = n
    · subst e
      rw [Nat.add_mul_div_right _ _ (Nat.pow_pos (by omega)), Nat.div_eq_of_lt (mkp_lt h j), Nat.zero_add, Nat.mod_eq_of_lt (h j)]
    · have e2 : f n * 8 ^ n = (f n * 8 ^ (n - j - 1) * 8) * 8 ^ j := by
        rw [Nat.mul_assoc, Nat.mul_assoc, ← Nat.pow_succ', ← Nat.pow_add]; congr 2; omega
      rw [e2, Nat.add_mul_div_right _ _ (Nat.pow_pos (by omega)), Nat.add_mul_mod_self_right, ← dg_e]
      exact mkp_d h n j (by omega)
/-- the reference's gate: behind -/
def bhN (p g : Nat) : Nat := mkp (fun j => dgN p (gtN g j)) 8
theorem bh_lt (p g : Nat) : bhN p g < 16777216 := mkp_lt (fun j => dg_lt _ _) 8
theorem bh_d (p g : Nat) {j : Nat} (hj : j < 8) : dgN (bhN p g) j = dgN p (gtN g j) := mkp_d (fun j => dg_lt _ _) 8 j hj
theorem bh_i {g : Nat} (hg : g < 12) {x : Nat} (hx : x < 16777216) : bhN (bhN x g) g = x :=
  dg_x (bh_lt _ _) hx (fun j hj => by rw [bh_d _ _ hj, bh_d _ _ (gt_lt g hg _ hj), gt_i g hg _ hj])
/-- one is the other's inverse -/
def Rv (p q : Nat) : Prop := p < 16777216 ∧ q < 16777216 ∧ (∀ j, j < 8 → dgN q (dgN p j) = j) ∧ (∀ j, j < 8 → dgN p (dgN q j) = j)
theorem Rv_s {p q : Nat} (h : Rv p q) : Rv q p := ⟨h.2.1, h.1, h.2.2.2, h.2.2.1⟩
theorem Rv_g {p q g : Nat} (hg : g < 12) (h : Rv p q) : Rv (bhN p g) (gaN q g) := by
  refine ⟨bh_lt _ _, ga_lt hg h.2.1, fun j hj => ?_, fun j hj => ?_⟩
  · rw [bh_d _ _ hj, ga_d hg _ (dg_lt _ _), h.2.2.1 _ (gt_lt g hg _ hj), gt_i g hg _ hj]
  · rw [ga_d hg _ hj, bh_d _ _ (gt_lt g hg _ (dg_lt _ _)), gt_i g hg _ (dg_lt _ _), h.2.2.2 _ hj]
abbrev idN : Nat := 16434824
theorem Rv_id : Rv idN idN := ⟨by decide, by decide, by decide, by decide⟩
theorem Rv_u {p q r : Nat} (h : Rv p q) (k : Rv p r) : q = r :=
  dg_x h.2.1 k.2.1 (fun j hj => by
    have e := k.2.2.1 _ (dg_lt q j)
    rw [h.2.2.2 j hj] at e
    exact e.symm)
def isP (x : Nat) : Prop := ∃ y, Rv x y
theorem isP_lt {x : Nat} (h : isP x) : x < 16777216 := h.elim fun _ k => k.1
theorem isP_id : isP idN := ⟨_, Rv_id⟩
theorem isP_ga {x g : Nat} (hg : g < 12) (h : isP x) : isP (gaN x g) := h.elim fun y k => ⟨bhN y g, Rv_s (Rv_g hg (Rv_s k))⟩
theorem isP_bh {x g : Nat} (hg : g < 12) (h : isP x) : isP (bhN x g) := h.elim fun y k => ⟨gaN y g, Rv_g hg k⟩
/-- words: k gates lead to the identity -/
def Rs (s : Nat → Nat → Nat) : Nat → Nat → Prop
  | 0, x => x = idN
  | k + 1, x => ∃ g, g < 12 ∧ Rs s k (s x g)
theorem Rs_v : ∀ k p q, Rv p q → (Rs bhN k p ↔ Rs gaN k q)
  | 0, p, q, h => ⟨fun e => by
      have e' : p = idN := e
      subst e'
      exact Rv_u h Rv_id, fun e => by
      have e' : q = idN := e
      subst e'
      exact Rv_u (Rv_s h) Rv_id⟩
  | k + 1, p, q, h => ⟨fun ⟨g, hg, e⟩ => ⟨g, hg, (Rs_v k _ _ (Rv_g hg h)).1 e⟩, fun ⟨g, hg, e⟩ => ⟨g, hg, (Rs_v k _ _ (Rv_g hg h)).2 e⟩⟩
/-- one of two -/
noncomputable def iteC (p : Prop) (a b : Nat) : Nat := @ite Nat p (Classical.propDecidable p) a b
theorem iteC_t {p : Prop} {a b : Nat} (h : p) : iteC p a b = a := @if_pos p (Classical.propDecidable p) h Nat a b
theorem iteC_f {p : Prop} {a b : Nat} (h : ¬ p) : iteC p a b = b := @if_neg p (Classical.propDecidable p) h Nat a b
/-- the least k below n, else n -/
noncomputable def ds (s : Nat → Nat → Nat) : Nat → Nat → Nat
  | 0, _ => 0
  | n + 1, x => if ds s n x < n then ds s n x else iteC (Rs s n x) n (n + 1)
theorem ds_p (s : Nat → Nat → Nat) : ∀ n x, ds s n x ≤ n ∧ (ds s n x < n → Rs s (ds s n x) x) ∧ ∀ k, k < ds s n x → ¬ Rs s k x
  | 0, x => ⟨Nat.le_refl _, fun h => absurd h (by show ¬ (0 < 0); omega), fun k h => absurd h (by show ¬ (k < 0); omega)⟩
  | n + 1, x => by
    have ih := ds_p s n x
    show (if ds s n x < n then ds s n x else iteC (Rs s n x) n (n + 1)) ≤ n + 1 ∧ ((if ds s n x < n then ds s n x else iteC (Rs s n x) n (n + 1)) < n + 1 → Rs s (if ds s n x < n then ds s n x else iteC (Rs s n x) n (n + 1)) x) ∧ ∀ k, k < (if ds s n x < n then ds s n x else iteC (Rs s n x) n (n + 1)) → ¬ Rs s k x
    by_cases h : ds s n x < n
    · rw [if_pos h]
      exact ⟨by omega, fun _ => ih.2.1 h, ih.2.2⟩
    · have e : ds s n x = n := by omega
      rw [if_neg h]
      by_cases r : Rs s n x
      · rw [iteC_t r]
        exact ⟨by omega, fun _ => r, fun k hk => ih.2.2 k (by omega)⟩
      · rw [iteC_f r]
        refine ⟨by omega, fun q => absurd q (by omega), fun k hk => ?_⟩
        by_cases e2 : k = n
        · rw [e2]; exact r
        · exact ih.2.2 k (by omega)
theorem ds_v : ∀ n p q, Rv p q → ds bhN n p = ds gaN n q
  | 0, _, _, _ => rfl
  | n + 1, p, q, h => by
    show (if ds bhN n p < n then ds bhN n p else iteC (Rs bhN n p) n (n + 1)) = (if ds gaN n q < n then ds gaN n q else iteC (Rs gaN n q) n (n + 1))
    have r := Rs_v n p q h
    rw [ds_v n p q h]
    by_cases c : ds gaN n q < n
    · rw [if_pos c, if_pos c]
    · rw [if_neg c, if_neg c]
      by_cases k : Rs gaN n q
      · rw [iteC_t k, iteC_t (r.2 k)]
      · rw [iteC_f k, iteC_f (fun c => k (r.1 c))]
