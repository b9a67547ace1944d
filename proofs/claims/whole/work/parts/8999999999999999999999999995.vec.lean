/-! code: a PAULI's vector, out of two halves of its NUMBER, and as the reference has it -/
theorem vcN_t {h : Nat → Nat} (hh : ∀ k, h k ≤ 1) {n g f j : Nat} : ∀ i, (vcN h n g f i).testBit j = true ↔ ∃ k, k < i ∧ f + k < n ∧ n - 1 - f - k = j ∧ h (g / 4 ^ k % 4) = 1
  | 0 => by
    show (0 : Nat).testBit j = true ↔ _
    rw [Nat.zero_testBit]
    exact ⟨fun h => (by cases h), fun ⟨k, hk, _⟩ => absurd hk (Nat.not_lt_zero _)⟩
  | i + 1 => by
    have ih := vcN_t hh (n := n) (g := g) (f := f) (j := j) i
    show (vcN h n g f i ||| (if f + i < n then h (g / 4 ^ i % 4) * 2 ^ (n - 1 - f - i) else 0)).testBit j = true ↔ _
    rw [Nat.testBit_or, Bool.or_eq_true, ih]
    constructor
    · rintro (⟨k, a, b, c, e⟩ | q)
      · exact ⟨k, by omega, b, c, e⟩
      · by_cases hf : f + i < n
        · rw [if_pos hf] at q
          have h1 := hh (g / 4 ^ i % 4)
          rcases (by omega : h (g / 4 ^ i % 4) = 0 ∨ h (g / 4 ^ i % 4) = 1) with e | e
          · rw [e, Nat.zero_mul, Nat.zero_testBit] at q
            cases q
          · rw [e, Nat.one_mul, Nat.testBit_two_pow] at q
            exact ⟨i, by omega, hf, of_decide_eq_true q, e⟩
        · rw [if_neg hf, Nat.zero_testBit] at q
          cases q
    · rintro ⟨k, a, b, c, e⟩
      by_cases hk : k = i
      · subst hk
        refine Or.inr ?_
        rw [if_pos b, e, Nat.one_mul, Nat.testBit_two_pow]
        exact decide_eq_true c
      · exact Or.inl ⟨k, by omega, b, c, e⟩
/-- the x's (the z's) of a NUMBER -/
def vcW (h : Nat → Nat) (n x : Nat) : Nat := vcN h n (x % 256) 0 4 ^^^ vcN h n (x / 256) 4 4
theorem vcW_l {h : Nat → Nat} {n x : Nat} (hh : ∀ k, h k ≤ 1) (hn : n ≤ 8) : vcW h n x < 256 := Nat.xor_lt_two_pow (n := 8) (vcN_l hh hn 4) (vcN_l hh hn 4)
theorem dg_lo {x k : Nat} (hk : k < 4) : x % 256 / 4 ^ k % 4 = x / 4 ^ k % 4 := by
  rcases (by omega : k = 0 ∨ k = 1 ∨ k = 2 ∨ k = 3) with rfl | rfl | rfl | rfl
  · show x % 256 / 1 % 4 = x / 1 % 4
    omega
  · show x % 256 / 4 % 4 = x / 4 % 4
    omega
  · show x % 256 / 16 % 4 = x / 16 % 4
    omega
  · show x % 256 / 64 % 4 = x / 64 % 4
    omega
theorem dg_hi {x k : Nat} (hk : k < 4) : x / 256 / 4 ^ k % 4 = x / 4 ^ (4 + k) % 4 := by
  rw [Nat.pow_add, ← Nat.div_div_eq_div_mul]
theorem vcW_t {h : Nat → Nat} (hh : ∀ k, h k ≤ 1) {n x j : Nat} (hn : n ≤ 8) : (vcW h n x).testBit j = true ↔ j < n ∧ h (x / 4 ^ (n - 1 - j) % 4) = 1 := by
  have lo := vcN_t hh (n := n) (g := x % 256) (f := 0) (j := j) 4
  have hi := vcN_t hh (n := n) (g := x / 256) (f := 4) (j := j) 4
  unfold vcW
  rw [Nat.testBit_xor]
  by_cases hjn : j < n
  · by_cases h4 : n - 1 - j < 4
    · have hf : (vcN h n (x / 256) 4 4).testBit j = false := Bool.eq_false_iff.mpr (fun q => by
        obtain ⟨k, a, b, c, e⟩ := hi.mp q
        omega)
      rw [hf, Bool.xor_false, lo]
      constructor
      · rintro ⟨k, a, b, c, e⟩
        refine ⟨hjn, ?_⟩
        rw [dg_lo a] at e
        rw [show n - 1 - j = k by omega]
        exact e
      · rintro ⟨_, e⟩
        refine ⟨n - 1 - j, h4, by omega, by omega, ?_⟩
        rw [dg_lo h4]
        exact e
    · have hf : (vcN h n (x % 256) 0 4).testBit j = false := Bool.eq_false_iff.mpr (fun q => by
        obtain ⟨k, a, b, c, e⟩ := lo.mp q
        omega)
      rw [hf, Bool.false_xor, hi]
      constructor
      · rintro ⟨k, a, b, c, e⟩
        refine ⟨hjn, ?_⟩
        rw [dg_hi a] at e
        rw [show n - 1 - j = 4 + k by omega]
        exact e
      · rintro ⟨_, e⟩
        refine ⟨n - 1 - j - 4, by omega, by omega, by omega, ?_⟩
        rw [dg_hi (by omega), show 4 + (n - 1 - j - 4) = n - 1 - j by omega]
        exact e
  · have hf1 : (vcN h n (x / 256) 4 4).testBit j = false := Bool.eq_false_iff.mpr (fun q => by
      obtain ⟨k, a, b, c, e⟩ := hi.mp q
      omega)
    have hf2 : (vcN h n (x % 256) 0 4).testBit j = false := Bool.eq_false_iff.mpr (fun q => by
      obtain ⟨k, a, b, c, e⟩ := lo.mp q
      omega)
    rw [hf1, hf2]
    exact ⟨fun q => (by cases q), fun q => absurd q.1 hjn⟩
theorem pDg_4 (n x j : Nat) : pDg n x j = x / 4 ^ (n - 1 - j) % 4 := by
  unfold pDg
  rw [Nat.pow_mul]
theorem pfR_t {n x j : Nat} : ∀ i, i ≤ 8 → ((pfR n x i).testBit j = true ↔ (j < i ∧ cpX (pDg n x j) = 1) ∨ (8 ≤ j ∧ j - 8 < i ∧ cpZ (pDg n x (j - 8)) = 1))
  | 0, _ => by
    show (0 : Nat).testBit j = true ↔ _
    rw [Nat.zero_testBit]
    exact ⟨fun h => (by cases h), fun h => (by omega)⟩
  | i + 1, hi => by
    have ih := pfR_t (n := n) (x := x) (j := j) i (by omega)
    show ((pfR n x i ||| (if pDg n x i = 1 ∨ pDg n x i = 2 then 2 ^ i else 0)) ||| (if 2 ≤ pDg n x i then 256 * 2 ^ i else 0)).testBit j = true ↔ _
    rw [Nat.testBit_or, Nat.testBit_or, Bool.or_eq_true, Bool.or_eq_true, ih]
    have e1 : (if pDg n x i = 1 ∨ pDg n x i = 2 then 2 ^ i else 0).testBit j = true ↔ j = i ∧ cpX (pDg n x i) = 1 := by
      unfold cpX
      by_cases c : pDg n x i = 1 ∨ pDg n x i = 2
      · rw [if_pos c, if_pos c, Nat.testBit_two_pow]
        exact ⟨fun q => ⟨(of_decide_eq_true q).symm, rfl⟩, fun q => decide_eq_true q.1.symm⟩
      · rw [if_neg c, if_neg c, Nat.zero_testBit]
        exact ⟨fun q => (by cases q), fun q => absurd q.2 (by decide)⟩
    have e2 : (if 2 ≤ pDg n x i then 256 * 2 ^ i else 0).testBit j = true ↔ j = 8 + i ∧ cpZ (pDg n x i) = 1 := by
      unfold cpZ
      by_cases c : 2 ≤ pDg n x i
      · rw [if_pos c, if_pos c, show 256 * 2 ^ i = 2 ^ (8 + i) from by rw [Nat.pow_add], Nat.testBit_two_pow]
        exact ⟨fun q => ⟨(of_decide_eq_true q).symm, rfl⟩, fun q => decide_eq_true q.1.symm⟩
      · rw [if_neg c, if_neg c, Nat.zero_testBit]
        exact ⟨fun q => (by cases q), fun q => absurd q.2 (by decide)⟩
    rw [e1, e2]
    constructor
    · rintro ((h | h) | h)
      · rcases h with h | h
        · exact Or.inl ⟨by omega, h.2⟩
        · exact Or.inr ⟨h.1, by omega, h.2.2⟩
      · exact Or.inl ⟨by omega, by rw [h.1]; exact h.2⟩
      · exact Or.inr ⟨by omega, by omega, by rw [h.1, show 8 + i - 8 = i by omega]; exact h.2⟩
    · rintro (h | h)
      · by_cases e : j = i
        · subst e
          exact Or.inl (Or.inr ⟨rfl, h.2⟩)
        · exact Or.inl (Or.inl (Or.inl ⟨by omega, h.2⟩))
      · by_cases e : j = 8 + i
        · refine Or.inr ⟨e, ?_⟩
          rw [e, show 8 + i - 8 = i by omega] at h
          exact h.2.2
        · exact Or.inl (Or.inl (Or.inr ⟨h.1, by omega, h.2.2⟩))
/-- the reference's PAULI is the class's -/
theorem pfR_v {n x : Nat} (hn : n ≤ 8) : pfR n x n = vcW cpX n x + 256 * vcW cpZ n x := by
  have hl := vcW_l (n := n) (x := x) cpX_1 hn
  apply Nat.eq_of_testBit_eq
  intro j
  rw [show vcW cpX n x + 256 * vcW cpZ n x = 2 ^ 8 * vcW cpZ n x + vcW cpX n x by omega, Nat.testBit_two_pow_mul_add _ hl]
  have h1 := pfR_t (n := n) (x := x) (j := j) n hn
  have h2 := vcW_t cpX_1 (n := n) (x := x) (j := j) hn
  have h3 := vcW_t cpZ_1 (n := n) (x := x) (j := j - 8) hn
  rw [← pDg_4] at h2 h3
  apply Bool.eq_iff_iff.mpr
  rw [h1]
  by_cases h8 : j < 8
  · rw [if_pos h8, h2]
    constructor
    · rintro (h | h)
      · exact h
      · omega
    · exact fun h => Or.inl h
  · rw [if_neg h8, h3]
    constructor
    · rintro (h | h)
      · omega
      · exact h.2
    · exact fun h => Or.inr ⟨by omega, h⟩
