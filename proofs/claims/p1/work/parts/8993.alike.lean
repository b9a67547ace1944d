/-! ROWS of a TABLE: class and reference turn them alike -/
theorem bt_t (n a : Nat) : bt n a = (n.testBit a).toNat := (Nat.toNat_testBit n a).symm
theorem tb_sh (n a c i : Nat) : (bt n a * 2 ^ c).testBit i = (decide (i = c) && n.testBit a) := by
  rw [bt_t]
  cases h : n.testBit a with
  | false => simp
  | true => simp [Nat.testBit_two_pow, eq_comm]
theorem tb_p (c i : Nat) : (2 ^ c).testBit i = decide (i = c) := by simp [Nat.testBit_two_pow, eq_comm]
theorem bt_and (m n a : Nat) : bt (m &&& n) a = bt m a &&& bt n a := by
  rw [bt_t, bt_t, bt_t, Nat.testBit_and]
  cases m.testBit a <;> cases n.testBit a <;> rfl
theorem bt_xor (m n a : Nat) : bt (m ^^^ n) a = bt m a ^^^ bt n a := by
  rw [bt_t, bt_t, bt_t, Nat.testBit_xor]
  cases m.testBit a <;> cases n.testBit a <;> rfl
theorem e_S (a : Nat) (y : RW) : nS a y = sg 4 a y := by
  obtain ⟨X, Z, S⟩ := y
  simp only [nS, sg]
  rw [bt_and]
  have : X &&& 2 ^ a = bt X a * 2 ^ a := by
    apply Nat.eq_of_testBit_eq
    intro i
    rw [Nat.testBit_and, tb_p, tb_sh]
    by_cases h : i = a
    · subst h; simp
    · simp [h]
  rw [this]
  rfl
theorem swb (X Z a : Nat) : X ^^^ ((X ^^^ Z) &&& 2 ^ a) = (X ^^^ (X &&& 2 ^ a)) ||| bt Z a * 2 ^ a := by
  apply Nat.eq_of_testBit_eq
  intro i
  rw [Nat.testBit_xor, Nat.testBit_and, Nat.testBit_xor, tb_p, Nat.testBit_or, tb_sh, Nat.testBit_xor, Nat.testBit_and, tb_p]
  by_cases h : i = a
  · subst h
    cases X.testBit i <;> cases Z.testBit i <;> simp
  · simp [h]
theorem e_H (a : Nat) (y : RW) : nH a y = sg 3 a y := by
  obtain ⟨X, Z, S⟩ := y
  simp only [nH, sg]
  rw [bt_and, swb, Nat.xor_comm X Z, swb]
  rfl
theorem and_b {u v : Nat} (h : u < 2) : u &&& v = u &&& (v % 2) := by
  have h2 : u &&& v < 2 := Nat.lt_of_le_of_lt Nat.and_le_left h
  rw [land2 u v, land2 u (v % 2), show u / 2 = 0 by omega, Nat.zero_and, Nat.zero_and, Nat.mod_mod]
theorem xm2 (m n : Nat) : (m ^^^ n) % 2 = m % 2 ^^^ n % 2 := by
  have h : m % 2 ^^^ n % 2 < 2 := Nat.xor_lt_two_pow (n := 1) (by omega) (by omega)
  rw [lxor2 m n, Nat.mul_add_mod, Nat.mod_eq_of_lt h]
theorem e_Z {a b : Nat} (y : RW) : nC b a y = cpl 6 a b y := by
  obtain ⟨X, Z, S⟩ := y
  simp only [nC, cpl]
  have e : (bt X b &&& bt X a) &&& (Z / 2 ^ b ^^^ Z / 2 ^ a) = (bt X a &&& bt X b) &&& (bt Z a ^^^ bt Z b) := by
    rw [and_b (Nat.lt_of_le_of_lt Nat.and_le_left (bt_lt X b)), xm2, Nat.and_comm (bt X b), Nat.xor_comm (Z / 2 ^ b % 2)]
    rfl
  rw [e]
  rfl
theorem e_W {a b : Nat} (y : RW) : (exg b a y.1, exg b a y.2.1, y.2.2) = cpl 7 a b y := by
  have e : ∀ n, exg b a n = (n ^^^ (n &&& (2 ^ a ||| 2 ^ b))) ||| bt n b * 2 ^ a ||| bt n a * 2 ^ b := by
    intro n
    unfold exg
    rw [xm2]
    show n ^^^ ((bt n b ^^^ bt n a) * 2 ^ b ||| (bt n b ^^^ bt n a) * 2 ^ a) = _
    have t : ∀ c i, ((bt n b ^^^ bt n a) * 2 ^ c).testBit i = (decide (i = c) && (n.testBit b ^^ n.testBit a)) := by
      intro c i
      rw [bt_t, bt_t]
      cases n.testBit a <;> cases n.testBit b <;> simp [tb_p]
    apply Nat.eq_of_testBit_eq
    intro i
    rw [Nat.testBit_xor, Nat.testBit_or, t, t, Nat.testBit_or, Nat.testBit_or, tb_sh, tb_sh, Nat.testBit_xor, Nat.testBit_and, Nat.testBit_or, tb_p, tb_p]
    by_cases h1 : i = a
    · by_cases h2 : i = b
      · rw [← h1, ← h2]
        cases n.testBit i <;> simp
      · rw [← h1]
        cases n.testBit i <;> cases n.testBit b <;> simp [h2]
    · by_cases h2 : i = b
      · subst h2
        cases n.testBit i <;> cases n.testBit a <;> simp [h1]
      · simp [h1, h2]
  rw [e, e]
  rfl
theorem e_N {a b : Nat} (hab : a ≠ b) (y : RW) : nH b (nC b a (nH b y)) = cpl 5 a b y := by
  obtain ⟨X, Z, S⟩ := y
  have hba : ¬ b = a := fun e => hab e.symm
  simp only [nC, nH, cpl, ↓reduceIte]
  have x1 : ∀ i, (X ^^^ ((X ^^^ Z) &&& 2 ^ b)).testBit i = if i = b then Z.testBit i else X.testBit i := by
    intro i
    rw [Nat.testBit_xor, Nat.testBit_and, Nat.testBit_xor, tb_p]
    by_cases h : i = b
    · rw [if_pos h]
      simp only [h, decide_true, Bool.and_true]
      cases X.testBit b <;> cases Z.testBit b <;> rfl
    · rw [if_neg h]
      simp [h]
  have z1 : ∀ i, (Z ^^^ ((X ^^^ Z) &&& 2 ^ b)).testBit i = if i = b then X.testBit i else Z.testBit i := by
    intro i
    rw [Nat.testBit_xor, Nat.testBit_and, Nat.testBit_xor, tb_p]
    by_cases h : i = b
    · rw [if_pos h]
      simp only [h, decide_true, Bool.and_true]
      cases X.testBit b <;> cases Z.testBit b <;> rfl
    · rw [if_neg h]
      simp [h]
  generalize X ^^^ ((X ^^^ Z) &&& 2 ^ b) = X1 at *
  generalize Z ^^^ ((X ^^^ Z) &&& 2 ^ b) = Z1 at *
  have xa : X1.testBit a = X.testBit a := by rw [x1, if_neg hab]
  have xb : X1.testBit b = Z.testBit b := by rw [x1, if_pos rfl]
  have za : Z1.testBit a = Z.testBit a := by rw [z1, if_neg hab]
  have zb : Z1.testBit b = X.testBit b := by rw [z1, if_pos rfl]
  have z2 : ∀ i, (Z1 ^^^ (bt X1 b * 2 ^ a ||| bt X1 a * 2 ^ b)).testBit i = (Z1.testBit i ^^ ((decide (i = a) && Z.testBit b) || (decide (i = b) && X.testBit a))) := by
    intro i
    rw [Nat.testBit_xor, Nat.testBit_or, tb_sh, tb_sh, xb, xa]
  generalize Z1 ^^^ (bt X1 b * 2 ^ a ||| bt X1 a * 2 ^ b) = Z2 at *
  have z2b : Z2.testBit b = (X.testBit b ^^ X.testBit a) := by rw [z2, zb]; simp [hba]
  rw [Prod.mk.injEq, Prod.mk.injEq]
  refine ⟨?_, ?_, ?_⟩
  · apply Nat.eq_of_testBit_eq
    intro i
    rw [Nat.testBit_xor, Nat.testBit_and, Nat.testBit_xor, tb_p, Nat.testBit_xor, tb_sh]
    by_cases h : i = b
    · rw [h, xb, z2b]
      cases X.testBit a <;> cases X.testBit b <;> cases Z.testBit b <;> simp
    · rw [x1, if_neg h]
      simp [h]
  · apply Nat.eq_of_testBit_eq
    intro i
    rw [Nat.testBit_xor, Nat.testBit_and, Nat.testBit_xor, tb_p, Nat.testBit_xor, tb_sh]
    by_cases h : i = b
    · rw [h, xb, z2b]
      cases X.testBit a <;> cases X.testBit b <;> cases Z.testBit b <;> simp [hba]
    · rw [z2, z1, if_neg h]
      cases Z.testBit i <;> cases Z.testBit b <;> simp [h]
  · rw [and_b (Nat.lt_of_le_of_lt Nat.and_le_left (bt_lt X1 b)), xm2]
    show S ^^^ bt (X &&& Z) b ^^^ ((bt X1 b &&& bt X1 a) &&& (bt Z1 b ^^^ bt Z1 a)) ^^^ bt (X1 &&& Z2) b = S ^^^ ((bt X a &&& bt Z b) &&& (bt X b ^^^ bt Z a ^^^ 1))
    rw [bt_and, bt_and]
    simp only [bt_t, xa, xb, za, zb, z2b]
    rw [Nat.xor_assoc, Nat.xor_assoc]
    congr 1
    cases X.testBit a <;> cases X.testBit b <;> cases Z.testBit a <;> cases Z.testBit b <;> rfl
