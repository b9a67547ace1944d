/-! graphs: a point complemented, by class and reference -/
def pr (a b : Nat) : Nat := if a < b then b * (b - 1) / 2 + a else a * (a - 1) / 2 + b
theorem pr_e : ∀ a, a < 6 → ∀ b, b < 6 → (if nI a < nI b then nI b * (nI b - 1) / 2 + nI a else nI a * (nI a - 1) / 2 + nI b) = nI (pr a b) := by decide +kernel
theorem pr_b : ∀ a, a < 6 → ∀ b, b < 6 → pr a b < 21 := by decide +kernel
set_option maxRecDepth 100000 in
theorem ct_pr1 {d : Nat} {M : mm_M} {a b : Nat} (ha : a < 6) (hb : b < 6) : am_M (d + 1) false nm_X7_pairOf [aI (nI a), aI (nI b)] M (am_q1 (aI (nI (pr a b))) M) := by
  rw [← pr_e a ha b hb]
  refine ⟨rfl, rfl, rfl, fun X hX => am_run hX 30 _ _ _ _ ?_⟩
  conv => whnf
  refine ⟨fun c => ?_, fun c => ?_⟩
  · conv => whnf
    refine ⟨by decide, ?_⟩
    conv => whnf
    exact ⟨trivial, by rw [if_neg (Int32.not_lt.mpr c)], rfl⟩
  · conv => whnf
    refine ⟨by decide, ?_⟩
    conv => whnf
    exact ⟨trivial, by rw [if_pos (Int32.not_le.mp c)], rfl⟩
set_option maxRecDepth 100000 in
theorem ct_pr2 {d : Nat} {M : mm_M} {a b : Nat} (ha : a < 6) (hb : b < 6) : am_M (d + 1) false nm_X12_pairOf [aI (nI a), aI (nI b)] M (am_q1 (aI (nI (pr a b))) M) := by
  rw [← pr_e a ha b hb]
  refine ⟨rfl, rfl, rfl, fun X hX => am_run hX 30 _ _ _ _ ?_⟩
  conv => whnf
  refine ⟨fun c => ?_, fun c => ?_⟩
  · conv => whnf
    refine ⟨by decide, ?_⟩
    conv => whnf
    exact ⟨trivial, by rw [if_neg (Int32.not_lt.mpr c)], rfl⟩
  · conv => whnf
    refine ⟨by decide, ?_⟩
    conv => whnf
    exact ⟨trivial, by rw [if_pos (Int32.not_le.mp c)], rfl⟩
theorem nI_shl {n k : Nat} (hk : k < 32) (h : n * 2 ^ k < 2 ^ 32) : nI n <<< (nI k &&& 31) = nI (n * 2 ^ k) := pk_shlN _ k (by
  have : ∀ k, k < 32 → ((nI k &&& 31).toBitVec.smod 32).toNat = k := by decide +kernel
  exact this k hk) h
/-- whether a pair is told -/
def ip (g a p : Nat) : Bool := !(a == p) && (g / 2 ^ pr a p % 2 == 1)
/-- the points that are paired with p, as the class gathers them -/
def pdi (g p : Nat) : Nat → Nat
  | 0 => 0
  | i + 1 => pdi g p i ||| (if i = p then 0 else g / 2 ^ pr i p % 2 * 2 ^ i)
theorem pdi_lt (g p : Nat) : ∀ i, pdi g p i < 2 ^ i
  | 0 => by simp [pdi]
  | i + 1 => by
    simp only [pdi]
    refine Nat.or_lt_two_pow (Nat.lt_of_lt_of_le (pdi_lt g p i) (Nat.pow_le_pow_right (by decide) (by omega))) ?_
    split
    · exact Nat.pow_pos (by decide)
    · have h1 : g / 2 ^ pr i p % 2 < 2 := Nat.mod_lt _ (by decide)
      have h2 : 0 < 2 ^ i := Nat.pow_pos (by decide)
      rw [Nat.pow_succ, Nat.mul_comm (2 ^ i) 2]
      exact Nat.mul_lt_mul_of_pos_right h1 h2
theorem bit_tb (e i j : Nat) (he : e < 2) : (e * 2 ^ i).testBit j = (decide (j = i) && (e == 1)) := by
  rcases (by omega : e = 0 ∨ e = 1) with rfl | rfl
  · simp
  · rw [Nat.one_mul, Nat.testBit_two_pow]
    simp [eq_comm]
theorem pdi_tb (g p : Nat) : ∀ i j, (pdi g p i).testBit j = (decide (j < i) && ip g j p)
  | 0, j => by simp [pdi]
  | i + 1, j => by
    simp only [pdi]
    rw [Nat.testBit_or, pdi_tb g p i j]
    by_cases hi : i = p
    · rw [if_pos hi]
      by_cases hj : j = i
      · subst hj
        simp [ip, hi]
      · have : decide (j < i + 1) = decide (j < i) := by simp; omega
        rw [this]
        simp
    · rw [if_neg hi, bit_tb _ _ _ (Nat.mod_lt _ (by decide))]
      by_cases hj : j = i
      · subst hj
        simp [ip, hi]
      · have : decide (j < i + 1) = decide (j < i) := by simp; omega
        rw [this]
        simp [hj]
def tt (pd a b : Nat) : Nat := (pd / 2 ^ a &&& pd / 2 ^ b) % 2 * 2 ^ pr a b
def cin (pd b : Nat) : Nat → Nat → Nat → Nat
  | 0, _, x => x
  | m + 1, a, x => cin pd b m (a + 1) (x ^^^ tt pd a b)
def cou (pd : Nat) : Nat → Nat → Nat → Nat
  | 0, _, x => x
  | m + 1, b, x => cou pd m (b + 1) (cin pd b b 0 x)
def rin (pd a : Nat) : Nat → Nat → Nat → Nat
  | 0, _, x => x
  | m + 1, b, x => rin pd a m (b + 1) (if pd.testBit a = true ∧ pd.testBit b = true then x ^^^ 2 ^ pr a b else x)
def rou (pd n : Nat) : Nat → Nat → Nat → Nat
  | 0, _, x => x
  | m + 1, a, x => rou pd n m (a + 1) (rin pd a (n - 1 - a) (a + 1) x)
theorem cin_x (pd b : Nat) : ∀ m a x, cin pd b m a x = x ^^^ cin pd b m a 0
  | 0, _, x => by simp [cin]
  | m + 1, a, x => by
    simp only [cin]
    rw [cin_x pd b m (a + 1) (x ^^^ tt pd a b), cin_x pd b m (a + 1) (0 ^^^ tt pd a b), Nat.zero_xor, Nat.xor_assoc]
theorem cou_x (pd : Nat) : ∀ m b x, cou pd m b x = x ^^^ cou pd m b 0
  | 0, _, x => by simp [cou]
  | m + 1, b, x => by
    simp only [cou]
    rw [cou_x pd m (b + 1) (cin pd b b 0 x), cou_x pd m (b + 1) (cin pd b b 0 0), cin_x pd b b 0 x, Nat.xor_assoc]
theorem rin_x (pd a : Nat) : ∀ m b x, rin pd a m b x = x ^^^ rin pd a m b 0
  | 0, _, x => by simp [rin]
  | m + 1, b, x => by
    simp only [rin]
    rw [rin_x pd a m (b + 1) (if pd.testBit a = true ∧ pd.testBit b = true then x ^^^ 2 ^ pr a b else x), rin_x pd a m (b + 1) (if pd.testBit a = true ∧ pd.testBit b = true then 0 ^^^ 2 ^ pr a b else 0)]
    split
    · rw [Nat.zero_xor, Nat.xor_assoc]
    · rw [Nat.zero_xor]
theorem rou_x (pd n : Nat) : ∀ m a x, rou pd n m a x = x ^^^ rou pd n m a 0
  | 0, _, x => by simp [rou]
  | m + 1, a, x => by
    simp only [rou]
    rw [rou_x pd n m (a + 1) (rin pd a (n - 1 - a) (a + 1) x), rou_x pd n m (a + 1) (rin pd a (n - 1 - a) (a + 1) 0), rin_x pd a _ _ x, Nat.xor_assoc]
theorem cr_0 : ∀ n, n < 7 → ∀ pd, pd < 64 → cou pd (n - 1) 1 0 = rou pd n n 0 0 ∧ cou pd (n - 1) 1 0 < 2 ^ (n * (n - 1) / 2) := by decide +kernel
/-- a graph complemented at a point -/
def cp (n p g : Nat) : Nat := cou (pdi g p n) (n - 1) 1 g
theorem pd64 {n : Nat} (hn : n ≤ 6) (g p : Nat) : pdi g p n < 64 := Nat.lt_of_lt_of_le (pdi_lt g p n) (show 2 ^ n ≤ 2 ^ 6 from Nat.pow_le_pow_right (by decide) hn)
theorem cp_r {n : Nat} (hn : n ≤ 6) (p g : Nat) : cp n p g = rou (pdi g p n) n n 0 g := by
  unfold cp
  rw [cou_x, rou_x, (cr_0 n (by omega) _ (pd64 hn g p)).1]
theorem cp_lt {n : Nat} (hn : n ≤ 6) (p : Nat) {g : Nat} (hg : g < 2 ^ (n * (n - 1) / 2)) : cp n p g < 2 ^ (n * (n - 1) / 2) := by
  unfold cp
  rw [cou_x]
  exact Nat.xor_lt_two_pow hg (cr_0 n (by omega) _ (pd64 hn g p)).2
