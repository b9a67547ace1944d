/-! ROOTS: four whole numbers over a power of r; the least power -/
abbrev R4 : Type := Int × Int × Int × Int
/-- times r -/
def rr (x : R4) : R4 := (x.2.1 - x.2.2.2, x.1 + x.2.2.1, x.2.1 + x.2.2.2, x.2.2.1 - x.1)
/-- whether r divides it -/
def dv (x : R4) : Prop := (x.1 - x.2.2.1) % 2 = 0 ∧ (x.2.1 - x.2.2.2) % 2 = 0
/-- over r -/
def hv (x : R4) : R4 := ((x.2.1 - x.2.2.2) / 2, (x.1 + x.2.2.1) / 2, (x.2.1 + x.2.2.2) / 2, (x.2.2.1 - x.1) / 2)
def ra (x y : R4) : R4 := (x.1 + y.1, x.2.1 + y.2.1, x.2.2.1 + y.2.2.1, x.2.2.2 + y.2.2.2)
theorem dv_rr (x : R4) : dv (rr x) := by
  obtain ⟨a, b, c, d⟩ := x
  simp only [dv, rr]
  omega
theorem hv_rr (x : R4) : hv (rr x) = x := by
  obtain ⟨a, b, c, d⟩ := x
  simp only [hv, rr, Prod.mk.injEq]
  omega
theorem rr_hv {x : R4} (h : dv x) : rr (hv x) = x := by
  obtain ⟨a, b, c, d⟩ := x
  simp only [dv, hv, rr, Prod.mk.injEq] at *
  omega
theorem rr_0 (x : R4) : rr x = (0, 0, 0, 0) ↔ x = (0, 0, 0, 0) := by
  obtain ⟨a, b, c, d⟩ := x
  simp only [rr, Prod.mk.injEq]
  omega
theorem rr_ra (x y : R4) : rr (ra x y) = ra (rr x) (rr y) := by
  obtain ⟨a, b, c, d⟩ := x
  obtain ⟨a', b', c', d'⟩ := y
  simp only [rr, ra, Prod.mk.injEq]
  omega
def dvB (x : R4) : Bool := decide ((x.1 - x.2.2.1) % 2 = 0) && decide ((x.2.1 - x.2.2.2) % 2 = 0)
theorem dvB_iff (x : R4) : dvB x = true ↔ dv x := by simp [dvB, dv]
/-- the least power, and the numbers over it -/
def red : Nat → R4 → R4 × Nat
  | 0, x => (x, 0)
  | k + 1, x => if x = (0, 0, 0, 0) then (x, 0) else if dvB x = true then red k (hv x) else (x, k + 1)
theorem red_0 (k : Nat) : red k (0, 0, 0, 0) = ((0, 0, 0, 0), 0) := by
  cases k with
  | zero => rfl
  | succ k => simp [red]
theorem red_rr (k : Nat) (x : R4) : red (k + 1) (rr x) = red k x := by
  by_cases h : x = (0, 0, 0, 0)
  · subst h
    rw [show rr (0, 0, 0, 0) = (0, 0, 0, 0) from rfl, red_0, red_0]
  · simp only [red]
    rw [if_neg (fun q => h ((rr_0 x).mp q)), if_pos ((dvB_iff _).mpr (dv_rr x)), hv_rr]
/-- times r so often -/
def rn : Nat → R4 → R4
  | 0, x => x
  | n + 1, x => rr (rn n x)
theorem red_rn (k : Nat) (x : R4) : ∀ n, red (k + n) (rn n x) = red k x
  | 0 => rfl
  | n + 1 => by
    rw [show k + (n + 1) = k + n + 1 by omega]
    show red (k + n + 1) (rr (rn n x)) = _
    rw [red_rr, red_rn k x n]
/-- the same number, told over two powers, is told once over the least -/
theorem red_u {k l : Nat} {x y : R4} (h : rn l x = rn k y) : red k x = red l y := by
  rw [← red_rn k x l, h, Nat.add_comm, red_rn l y k]
theorem rn_a (x : R4) : ∀ m n, rn (m + n) x = rn m (rn n x)
  | 0, n => by rw [Nat.zero_add]; rfl
  | m + 1, n => by
    rw [show m + 1 + n = m + n + 1 by omega]
    show rr (rn (m + n) x) = rr (rn m (rn n x))
    rw [rn_a x m n]
theorem rn_i {x y : R4} : ∀ n, rn n x = rn n y → x = y
  | 0, h => h
  | n + 1, h => rn_i n (by
    have h : rr (rn n x) = rr (rn n y) := h
    rw [← hv_rr (rn n x), h, hv_rr])
/-- what red tells is the number -/
theorem red_v : ∀ (k : Nat) (x : R4), (red k x).2 ≤ k ∧ rn (k - (red k x).2) (red k x).1 = x
  | 0, x => ⟨Nat.le_refl _, rfl⟩
  | k + 1, x => by
    simp only [red]
    by_cases h : x = (0, 0, 0, 0)
    · rw [if_pos h]
      refine ⟨Nat.zero_le _, ?_⟩
      subst h
      have : ∀ n, rn n (0, 0, 0, 0) = (0, 0, 0, 0) := by
        intro n
        induction n with
        | zero => rfl
        | succ n ih => show rr (rn n (0, 0, 0, 0)) = _; rw [ih]; rfl
      exact this _
    · rw [if_neg h]
      by_cases hd : dvB x = true
      · rw [if_pos hd]
        obtain ⟨h1, h2⟩ := red_v k (hv x)
        refine ⟨by omega, ?_⟩
        rw [show k + 1 - (red k (hv x)).2 = (k - (red k (hv x)).2) + 1 by omega]
        show rr (rn (k - (red k (hv x)).2) (red k (hv x)).1) = x
        rw [h2, rr_hv ((dvB_iff x).mp hd)]
      · rw [if_neg hd]
        refine ⟨Nat.le_refl _, ?_⟩
        rw [Nat.sub_self]
        rfl
/-! whole numbers as longs -/
def lI (z : Int) : Int64 := Int64.ofInt z
theorem lI_add (a b : Int) : lI a + lI b = lI (a + b) := (Int64.ofInt_add a b).symm
theorem lI_sub (a b : Int) : lI a - lI b = lI (a - b) := (Int64.ofInt_sub a b).symm
theorem lI_neg (a : Int) : -lI a = lI (-a) := (Int64.ofInt_neg a).symm
theorem lI_mul (a b : Int) : lI a * lI b = lI (a * b) := (Int64.ofInt_mul a b).symm
theorem lI_t {a : Int} (h1 : -2 ^ 63 ≤ a) (h2 : a < 2 ^ 63) : (lI a).toInt = a := Int64.toInt_ofInt_of_le h1 h2
theorem lI_eq {a b : Int} (a1 : -2 ^ 63 ≤ a) (a2 : a < 2 ^ 63) (b1 : -2 ^ 63 ≤ b) (b2 : b < 2 ^ 63) : lI a = lI b ↔ a = b := by
  constructor
  · intro h
    rw [← lI_t a1 a2, h, lI_t b1 b2]
  · intro h; rw [h]
theorem lI_0 {a : Int} (a1 : -2 ^ 63 ≤ a) (a2 : a < 2 ^ 63) : lI a = 0 ↔ a = 0 := by
  rw [show (0 : Int64) = lI 0 from by decide]
  exact lI_eq a1 a2 (by decide) (by decide)
theorem lI_par (a : Int) : lI a &&& 1 = 0 ↔ a % 2 = 0 := by
  rw [l_1]
  have e : (lI a).toBitVec.getLsbD 0 = decide ((lI a).toBitVec.toNat % 2 = 1) := by
    rw [BitVec.getLsbD, Nat.testBit_zero]
  have e2 : (lI a).toBitVec.toNat = (a % 18446744073709551616).toNat := by
    show (BitVec.ofInt 64 a).toNat = _
    rw [BitVec.toNat_ofInt]
    rfl
  rw [e, e2]
  simp
  omega
theorem lI_sh {a : Int} (h1 : -2 ^ 63 ≤ a) (h2 : a < 2 ^ 63) : lI a >>> ((1 : Int32).toInt64 &&& 63) = lI (a / 2) := by
  apply Int64.toInt_inj.mp
  have e : (lI a >>> ((1 : Int32).toInt64 &&& 63)).toInt = (lI a).toInt >>> 1 := by
    show ((lI a).toBitVec.sshiftRight' (((1 : Int32).toInt64 &&& 63).toBitVec.smod 64)).toInt = _
    rw [show (((1 : Int32).toInt64 &&& 63).toBitVec.smod 64) = 1#64 by decide]
    exact BitVec.toInt_sshiftRight
  rw [e, lI_t h1 h2, lI_t (by omega) (by omega), Int.shiftRight_eq_div_pow]
  rfl
