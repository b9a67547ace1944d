/-! group: PAULIS that leave a STATE as it is or take it to its opposite -/
section GRV
variable {w : Nat} {ys : Nat → R4}
/-- a PAULI with a sign leaves the STATE as it is -/
def fxB (w : Nat) (ys : Nat → R4) (x z s : Nat) : Bool := allN (fun j => decide (t8n (ex_e x z j + 4 * s) (ys (j ^^^ x)) = ys j)) (2 ^ w)
theorem fx_iff {x z s : Nat} : fxB w ys x z s = true ↔ ∀ j, j < 2 ^ w → t8n (ex_e x z j + 4 * s) (ys (j ^^^ x)) = ys j := by
  unfold fxB
  rw [all_iff]
  exact ⟨fun h j hj => of_decide_eq_true (h j hj), fun h j hj => decide_eq_true (h j hj)⟩
/-- the STATE is not 0 -/
def nzS (w : Nat) (ys : Nat → R4) : Prop := ∃ j, j < 2 ^ w ∧ ¬ ys j = (0, 0, 0, 0)
theorem t8_ne {x : R4} {n : Nat} (h : t8n (n + 4) x = t8n n x) : x = (0, 0, 0, 0) := by
  have e : ∀ y, t8n (8 - n % 8) (t8n n y) = y := fun y => by
    rw [← t8n_a, t8_mod y (m := 0) (by omega)]
    rfl
  have h4 : t8n 4 x = x := by
    have h8 := congrArg (t8n (8 - n % 8)) h
    rw [t8n_a x n 4, e, e] at h8
    exact h8
  obtain ⟨a, b, c, d⟩ := x
  have h4 : (-a, -b, -c, -d) = (a, b, c, d) := h4
  simp only [Prod.mk.injEq] at h4 ⊢
  omega
/-- no sign but one -/
theorem fx_one {x z : Nat} (hn : nzS w ys) (h0 : fxB w ys x z 0 = true) : fxB w ys x z 1 = false := by
  refine Bool.eq_false_iff.mpr (fun h1 => ?_)
  obtain ⟨j, hj, hy⟩ := hn
  have a := fx_iff.mp h0 j hj
  have b := fx_iff.mp h1 j hj
  generalize ex_e x z j = e at a b
  have a' : t8n e (ys (j ^^^ x)) = ys j := a
  have b' : t8n (e + 4) (ys (j ^^^ x)) = ys j := b
  have h2 := t8_ne (n := e) (x := ys (j ^^^ x)) (b'.trans a'.symm)
  have hz : ∀ n, t8n n (0, 0, 0, 0) = (0, 0, 0, 0) := by
    intro n
    induction n with
    | zero => rfl
    | succ n ih =>
      show t8 (t8n n (0, 0, 0, 0)) = _
      rw [ih]
      rfl
  apply hy
  rw [← a', h2]
  exact hz e
def sgV (w : Nat) (ys : Nat → R4) (x z : Nat) : Int32 := if fxB w ys x z 0 = true then 0 else if fxB w ys x z 1 = true then 1 else -1
/-- is of THE GROUP -/
def fxG (w : Nat) (ys : Nat → R4) (v : Nat) : Prop := v < 2 ^ (2 * w) ∧ ∃ s, s < 2 ∧ fxB w ys (v % 2 ^ w) (v / 2 ^ w) s = true
theorem sg_g {x z : Nat} (hx : x < 2 ^ w) (hz : z < 2 ^ w) : sgV w ys x z ≠ -1 ↔ fxG w ys (x + 2 ^ w * z) := by
  have e1 : (x + 2 ^ w * z) % 2 ^ w = x := by rw [Nat.add_mul_mod_self_left, Nat.mod_eq_of_lt hx]
  have e2 : (x + 2 ^ w * z) / 2 ^ w = z := by rw [Nat.add_mul_div_left _ _ (Nat.two_pow_pos w), Nat.div_eq_of_lt hx, Nat.zero_add]
  have e3 : x + 2 ^ w * z < 2 ^ (2 * w) := by
    have : 2 ^ w * (z + 1) ≤ 2 ^ w * 2 ^ w := Nat.mul_le_mul_left _ hz
    rw [Nat.two_mul, Nat.pow_add]
    rw [Nat.mul_add, Nat.mul_one] at this
    omega
  unfold sgV fxG
  rw [e1, e2]
  by_cases c0 : fxB w ys x z 0 = true
  · rw [if_pos c0]
    exact ⟨fun _ => ⟨e3, 0, by decide, c0⟩, fun _ => by decide⟩
  · rw [if_neg c0]
    by_cases c1 : fxB w ys x z 1 = true
    · rw [if_pos c1]
      exact ⟨fun _ => ⟨e3, 1, by decide, c1⟩, fun _ => by decide⟩
    · rw [if_neg c1]
      refine ⟨fun h => absurd rfl h, fun ⟨_, s, hs, h⟩ => ?_⟩
      rcases (by omega : s = 0 ∨ s = 1) with rfl | rfl
      · exact absurd h c0
      · exact absurd h c1
/-- one after another -/
theorem fxx_2 {x z s x' z' s' : Nat} (hx : x < 2 ^ w) (hx' : x' < 2 ^ w) (h : fxB w ys x z s = true) (h' : fxB w ys x' z' s' = true) {j : Nat} (hj : j < 2 ^ w) : t8n (2 * pc (x &&& z) + 2 * pc (x' &&& z') + 4 * pc (z &&& (j ^^^ x)) + 4 * pc (z' &&& (j ^^^ (x ^^^ x'))) + 4 * s + 4 * s') (ys (j ^^^ (x ^^^ x'))) = ys j := by
  have a := fx_iff.mp h j hj
  have b := fx_iff.mp h' (j ^^^ x) (Nat.xor_lt_two_pow hj hx)
  rw [← b, ← t8n_a, Nat.xor_assoc] at a
  rw [← a]
  refine t8_mod _ ?_
  unfold ex_e
  rw [Nat.xor_assoc]
  omega
theorem pc_3 (z a b : Nat) : (pc (z &&& (a ^^^ b)) + pc (z &&& a) + pc (z &&& b)) % 2 = 0 := by
  rw [Nat.and_xor_distrib_left]
  exact pc_x _ _
/-- two of THE GROUP commute -/
theorem fx_c {x z s x' z' s' : Nat} (hn : nzS w ys) (hx : x < 2 ^ w) (hx' : x' < 2 ^ w) (h : fxB w ys x z s = true) (h' : fxB w ys x' z' s' = true) : (pc (x &&& z') + pc (x' &&& z)) % 2 = 0 := by
  apply Classical.byContradiction
  intro c
  obtain ⟨j, hj, hy⟩ := hn
  have a := fxx_2 hx hx' h h' hj
  have b := fxx_2 hx' hx h' h hj
  rw [Nat.xor_comm x' x] at b
  have p1 := pc_3 z (j ^^^ x) x'
  have p2 := pc_3 z' (j ^^^ x') x
  have e1 : j ^^^ x ^^^ x' = j ^^^ (x ^^^ x') := Nat.xor_assoc _ _ _
  have e2 : j ^^^ x' ^^^ x = j ^^^ (x ^^^ x') := by rw [Nat.xor_assoc, Nat.xor_comm x' x]
  rw [e1, Nat.and_comm z x'] at p1
  rw [e2, Nat.and_comm z' x] at p2
  have h0 : ys (j ^^^ (x ^^^ x')) = (0, 0, 0, 0) := by
    refine t8_ne (n := 2 * pc (x' &&& z') + 2 * pc (x &&& z) + 4 * pc (z' &&& (j ^^^ x')) + 4 * pc (z &&& (j ^^^ (x ^^^ x'))) + 4 * s' + 4 * s) ?_
    rw [b, ← a]
    refine t8_mod _ ?_
    omega
  rw [h0] at a
  apply hy
  rw [← a]
  have : ∀ n, t8n n (0, 0, 0, 0) = (0, 0, 0, 0) := by
    intro n
    induction n with
    | zero => rfl
    | succ n ih =>
      show t8 (t8n n (0, 0, 0, 0)) = _
      rw [ih]
      rfl
  exact this _
theorem fx_m {x z s x' z' s' : Nat} (hn : nzS w ys) (hx : x < 2 ^ w) (hx' : x' < 2 ^ w) (h : fxB w ys x z s = true) (h' : fxB w ys x' z' s' = true) : ∃ t, t < 2 ∧ fxB w ys (x ^^^ x') (z ^^^ z') t = true := by
  have hc := fx_c hn hx hx' h h'
  have q1 := pc_3 (x ^^^ x') z z'
  have q2 := pc_3 z x x'
  have q3 := pc_3 z' x x'
  rw [Nat.and_comm z (x ^^^ x'), Nat.and_comm z x, Nat.and_comm z x'] at q2
  rw [Nat.and_comm z' (x ^^^ x'), Nat.and_comm z' x, Nat.and_comm z' x'] at q3
  refine ⟨(2 * pc (x &&& z) + 2 * pc (x' &&& z') + 6 * pc ((x ^^^ x') &&& (z ^^^ z')) + 4 * pc (x' &&& z) + 4 * s + 4 * s') % 8 / 4, by omega, ?_⟩
  rw [fx_iff]
  intro j hj
  have a := fxx_2 hx hx' h h' hj
  rw [← a]
  refine t8_mod _ ?_
  have p1 := pc_3 z (j ^^^ x) x'
  rw [Nat.xor_assoc, Nat.and_comm z x'] at p1
  have p2 : (pc ((z ^^^ z') &&& (j ^^^ (x ^^^ x'))) + pc (z &&& (j ^^^ (x ^^^ x'))) + pc (z' &&& (j ^^^ (x ^^^ x')))) % 2 = 0 := by
    rw [Nat.and_xor_distrib_right]
    exact pc_x _ _
  unfold ex_e
  omega
theorem fxG_0 : fxG w ys 0 := by
  refine ⟨Nat.two_pow_pos _, 0, by decide, ?_⟩
  rw [fx_iff, Nat.zero_mod, Nat.zero_div]
  intro j _
  rw [Nat.xor_zero]
  unfold ex_e
  rw [Nat.zero_and, Nat.zero_and]
  rfl
theorem fxG_x (hn : nzS w ys) {a b : Nat} (ha : fxG w ys a) (hb : fxG w ys b) : fxG w ys (a ^^^ b) := by
  obtain ⟨a1, s, _, a2⟩ := ha
  obtain ⟨b1, s', _, b2⟩ := hb
  have hp := Nat.two_pow_pos w
  refine ⟨Nat.xor_lt_two_pow a1 b1, ?_⟩
  rw [Nat.xor_mod_two_pow, Nat.xor_div_two_pow]
  exact fx_m hn (Nat.mod_lt _ hp) (Nat.mod_lt _ hp) a2 b2
/-- the ROWS of THE GROUP -/
def gpR (w : Nat) (ys : Nat → R4) (R : Nat → Nat) (r : Nat) : Prop := rrf R r ∧ ∀ v, Spn R r v ↔ fxG w ys v
theorem gp_u {A B : Nat → Nat} {r r' : Nat} (hA : gpR w ys A r) (hB : gpR w ys B r') : r = r' ∧ ∀ i, i < r → A i = B i := rr_u hA.1 hB.1 (fun v => (hA.2 v).trans (hB.2 v).symm)
theorem gpl_l {R : Nat → Nat} {r i : Nat} (h : gpR w ys R r) (hi : i < r) : R i < 2 ^ (2 * w) := ((h.2 (R i)).mp (Spn_m hi)).1
end GRV
