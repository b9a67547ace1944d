/-! mix: a gate, both alike -/
def slB (W i j c t : Nat) : Bool := ((i + 2 ^ W * j) &&& c == i &&& c) && (((i + 2 ^ W * j).testBit t == i.testBit t) && (((i + 2 ^ W * j) ^^^ 2 ^ t == (i ^^^ 2 ^ t) + 2 ^ W * j) && (decide (i ^^^ 2 ^ t < 2 ^ W) && (((i + 2 ^ W * j) &&& (c * 2 ^ W) == (j &&& c) * 2 ^ W) && (((i + 2 ^ W * j).testBit (t + W) == j.testBit t) && (((i + 2 ^ W * j) ^^^ 2 ^ (t + W) == i + 2 ^ W * (j ^^^ 2 ^ t)) && decide (i + 2 ^ W * j < 2 ^ (2 * W))))))))
theorem sl_all : ∀ W, W < 4 → ∀ i, i < 2 ^ W → ∀ j, j < 2 ^ W → ∀ c, c < 2 ^ W → ∀ t, t < W → slB W i j c t = true := by decide +kernel
theorem sl_f {W i j c t : Nat} (hW : W ≤ 3) (hi : i < 2 ^ W) (hj : j < 2 ^ W) (hc : c < 2 ^ W) (ht : t < W) : (i + 2 ^ W * j) &&& c = i &&& c ∧ (i + 2 ^ W * j).testBit t = i.testBit t ∧ (i + 2 ^ W * j) ^^^ 2 ^ t = (i ^^^ 2 ^ t) + 2 ^ W * j ∧ i ^^^ 2 ^ t < 2 ^ W ∧ (i + 2 ^ W * j) &&& (c * 2 ^ W) = (j &&& c) * 2 ^ W ∧ (i + 2 ^ W * j).testBit (t + W) = j.testBit t ∧ (i + 2 ^ W * j) ^^^ 2 ^ (t + W) = i + 2 ^ W * (j ^^^ 2 ^ t) ∧ i + 2 ^ W * j < 2 ^ (2 * W) := by
  have h := sl_all W (by omega) i hi j hj c hc t ht
  simp only [slB, Bool.and_eq_true, beq_iff_eq, decide_eq_true_eq] at h
  exact h
section MXG
variable {W : Nat} {x : bk_X} {xs : Nat → R4}
theorem sl_1 (hW : W ≤ 3) (h : ogd W x) (ys : Nat → R4) {i j : Nat} (hi : i < 2 ^ W) (hj : j < 2 ^ W) : gx x.1 x.2.1 x.2.2.1 x.2.2.2.1 false (2 ^ (2 * W)) ys (i + 2 ^ W * j) = gx x.1 x.2.1 x.2.2.1 x.2.2.2.1 false (2 ^ W) (fun a => ys (a + 2 ^ W * j)) i := by
  obtain ⟨⟨_, k2, _, k4, _⟩, h2, h3⟩ := h
  have F := fun k (hk : k < 2 ^ W) => sl_f (c := x.2.2.2.1) (t := x.2.1) hW hk hj k4 k2
  refine gx_sl (ix := fun k => k + 2 ^ W * j) (fun k hk => ?_) (fun k hk => (F k hk).2.1) (fun z k hk => ?_) (fun k hk => ⟨(F k hk).2.2.1, (F k hk).2.2.2.1⟩) (fun z k hk => ?_) (fun k hk => (F k hk).2.2.2.2.2.2.2) hi
  · show (k + 2 ^ W * j) &&& x.2.2.2.1 = x.2.2.2.1 ↔ _
    rw [(F k hk).1]
  · exact (sl_f (c := x.2.2.2.1) (t := x.2.2.1) hW hk hj k4 (h3 z).1).2.1
  · have a := F k hk
    have b := sl_f (c := x.2.2.2.1) (t := x.2.2.1) hW a.2.2.2.1 hj k4 (h3 z).1
    refine ⟨?_, ?_⟩
    · show (k + 2 ^ W * j) ^^^ (2 ^ x.2.1 ^^^ 2 ^ x.2.2.1) = (k ^^^ (2 ^ x.2.1 ^^^ 2 ^ x.2.2.1)) + 2 ^ W * j
      rw [← Nat.xor_assoc, a.2.2.1, b.2.2.1, Nat.xor_assoc]
    · rw [← Nat.xor_assoc]
      exact b.2.2.2.1
theorem sl_2 (hW : W ≤ 3) (h : ogd W x) (mi : Bool) (ys : Nat → R4) {i j : Nat} (hi : i < 2 ^ W) (hj : j < 2 ^ W) : gx x.1 (x.2.1 + W) (x.2.2.1 + W) (x.2.2.2.1 * 2 ^ W) mi (2 ^ (2 * W)) ys (i + 2 ^ W * j) = gx x.1 x.2.1 x.2.2.1 x.2.2.2.1 mi (2 ^ W) (fun a => ys (i + 2 ^ W * a)) j := by
  obtain ⟨⟨_, k2, _, k4, _⟩, h2, h3⟩ := h
  have p := Nat.pow_pos (n := W) (show 0 < 2 by decide)
  have F := fun k (hk : k < 2 ^ W) => sl_f (c := x.2.2.2.1) (t := x.2.1) hW hi hk k4 k2
  have X := fun t (ht : t < W) k (hk : k < 2 ^ W) => (sl_f (j := 0) (c := x.2.2.2.1) hW hk p k4 ht).2.2.2.1
  refine gx_sl (ix := fun k => i + 2 ^ W * k) (fun k hk => ?_) (fun k hk => (F k hk).2.2.2.2.2.1) (fun z k hk => ?_) (fun k hk => ⟨(F k hk).2.2.2.2.2.2.1, X _ k2 k hk⟩) (fun z k hk => ?_) (fun k hk => (F k hk).2.2.2.2.2.2.2) hj
  · show (i + 2 ^ W * k) &&& (x.2.2.2.1 * 2 ^ W) = x.2.2.2.1 * 2 ^ W ↔ _
    rw [(F k hk).2.2.2.2.1]
    constructor
    · intro e
      exact Nat.eq_of_mul_eq_mul_right p e
    · intro e
      rw [e]
  · exact (sl_f (c := x.2.2.2.1) (t := x.2.2.1) hW hi hk k4 (h3 z).1).2.2.2.2.2.1
  · have a := F k hk
    have xk := X _ k2 k hk
    have b := sl_f (c := x.2.2.2.1) (t := x.2.2.1) hW hi xk k4 (h3 z).1
    refine ⟨?_, ?_⟩
    · show (i + 2 ^ W * k) ^^^ (2 ^ (x.2.1 + W) ^^^ 2 ^ (x.2.2.1 + W)) = i + 2 ^ W * (k ^^^ (2 ^ x.2.1 ^^^ 2 ^ x.2.2.1))
      rw [← Nat.xor_assoc, a.2.2.2.2.2.2.1, b.2.2.2.2.2.2.1, Nat.xor_assoc]
    · rw [← Nat.xor_assoc]
      exact X _ (h3 z).1 _ xk
/-- the rows and columns of the reference -/
def mY1 (W : Nat) (x : bk_X) (xs : Nat → R4) (i b : Nat) : R4 := gx x.1 x.2.1 x.2.2.1 x.2.2.2.1 false (2 ^ W) (fun a => xs (a + 2 ^ W * b)) i
def mY3 (W : Nat) (x : bk_X) (xs : Nat → R4) (i b : Nat) : R4 := gx x.1 x.2.1 x.2.2.1 x.2.2.2.1 false (2 ^ W) (fun a => cj (mY1 W x xs b a)) i
theorem gx_ex {k t s c : Nat} {mi : Bool} {m : Nat} {ys zs : Nat → R4} (hx : ∀ q, q < m → q ^^^ 2 ^ t < m) (hy : k = 8 → ∀ q, q < m → q ^^^ (2 ^ t ^^^ 2 ^ s) < m) (h : ∀ a, a < m → ys a = zs a) {i : Nat} (hi : i < m) : gx k t s c mi m ys i = gx k t s c mi m zs i := by
  have P : ∀ {S : Nat → Prop} [∀ i, Decidable (S i)] {e : Nat} {f g : R4 → R4 → R4}, i ^^^ e < m → pm S e f g ys m i = pm S e f g zs m i := fun {S} _ {e} {f} {g} he => by
    by_cases c : S i ∧ i < m
    · rw [pm_1 (S := S) c, pm_1 (S := S) c, h i hi, h _ he]
    · by_cases c2 : S (i ^^^ e) ∧ i ^^^ e < m
      · rw [pm_2 (S := S) c c2, pm_2 (S := S) c c2, h i hi, h _ he]
      · rw [pm_3 (S := S) c c2, pm_3 (S := S) c c2, h i hi]
  unfold gx
  by_cases k0 : k = 0
  · rw [if_pos k0, if_pos k0]
    exact P (hx i hi)
  rw [if_neg k0, if_neg k0]
  by_cases k1 : k = 1
  · rw [if_pos k1, if_pos k1]
    exact P (hx i hi)
  rw [if_neg k1, if_neg k1]
  by_cases k3 : k = 3
  · rw [if_pos k3, if_pos k3]
    unfold bh
    by_cases a : i &&& c = c
    · rw [if_pos a, if_pos a]
      exact P (hx i hi)
    · rw [if_neg a, if_neg a, h i hi]
  rw [if_neg k3, if_neg k3]
  by_cases k8 : k = 8
  · rw [if_pos k8, if_pos k8]
    exact P (hy k8 i hi)
  rw [if_neg k8, if_neg k8]
  unfold rotm
  rw [h i hi]
theorem mx_eq (hW : W ≤ 3) (h : ogd W x) (h8 : x.1 ≤ 8) {i j : Nat} (hi : i < 2 ^ W) (hj : j < 2 ^ W) : mxG W x xs (i + 2 ^ W * j) = cj (mY3 W x xs j i) := by
  have k2 := h.1.2.1
  have k4 := h.1.2.2.2.1
  have p := Nat.pow_pos (n := W) (show 0 < 2 by decide)
  have X := fun t (ht : t < W) k (hk : k < 2 ^ W) => (sl_f (j := 0) (c := x.2.2.2.1) hW hk p k4 ht).2.2.2.1
  unfold mxG mY3
  rw [sl_2 hW h true _ hi hj, gx_cj h8 (ys := mY1 W x xs i) j]
  refine gx_ex (X _ k2) (fun z q hq => ?_) (fun a ha => ?_) hj
  · rw [← Nat.xor_assoc]
    exact X _ (h.2.2 z).1 _ (X _ k2 q hq)
  · exact sl_1 hW h xs hi ha
theorem mx_nrm (hW : W ≤ 3) (h : ogd W x) : sI (fun c => nrm (mxG W x xs c)) (2 ^ (2 * W)) = if x.1 = 3 then 4 * sI (fun c => nrm (xs c)) (2 ^ (2 * W)) else sI (fun c => nrm (xs c)) (2 ^ (2 * W)) := by
  have A := apo_0 hW h
  rw [Nat.pow_zero, Nat.mul_one, Nat.add_zero, Nat.add_zero] at A
  unfold mxG
  rw [gx_nrm (apo_W hW h), gx_nrm A]
  by_cases k3 : x.1 = 3
  · rw [if_pos k3, if_pos k3, if_pos k3]
    omega
  · rw [if_neg k3, if_neg k3, if_neg k3]
theorem m1_nrm (hW : W ≤ 3) (h : ogd W x) : sI (fun c => nrm (gx x.1 x.2.1 x.2.2.1 x.2.2.2.1 false (2 ^ (2 * W)) xs c)) (2 ^ (2 * W)) = if x.1 = 3 then 2 * sI (fun c => nrm (xs c)) (2 ^ (2 * W)) else sI (fun c => nrm (xs c)) (2 ^ (2 * W)) := by
  have A := apo_0 hW h
  rw [Nat.pow_zero, Nat.mul_one, Nat.add_zero, Nat.add_zero] at A
  exact gx_nrm A false xs
end MXG
