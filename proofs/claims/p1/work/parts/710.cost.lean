/-! the least cost of a network: sets, and what both find -/
theorem land2 (a b : Nat) : a &&& b = 2 * (a / 2 &&& b / 2) + (a % 2 &&& b % 2) := by
  have h := land_sp 1 (a % 2) (a / 2) (b % 2) (b / 2) (Nat.mod_lt _ (by decide)) (Nat.mod_lt _ (by decide))
  rw [Nat.pow_one, Nat.div_add_mod, Nat.div_add_mod] at h
  exact h
theorem lxor2 (a b : Nat) : a ^^^ b = 2 * (a / 2 ^^^ b / 2) + (a % 2 ^^^ b % 2) := by
  have h1 : (a ^^^ b) / 2 = a / 2 ^^^ b / 2 := Nat.xor_div_two
  have h2 : (a ^^^ b) % 2 = (a % 2 ^^^ b % 2) := by
    rcases Nat.mod_two_eq_zero_or_one a with ha | ha <;> rcases Nat.mod_two_eq_zero_or_one b with hb | hb
    · have key := @Nat.xor_mod_two_eq_one a b
      rw [ha, hb] at key ⊢
      have : ¬ (a ^^^ b) % 2 = 1 := fun q => key.mp q Iff.rfl
      show (a ^^^ b) % 2 = 0
      omega
    · have key := @Nat.xor_mod_two_eq_one a b
      rw [ha, hb] at key ⊢
      exact key.mpr (by decide)
    · have key := @Nat.xor_mod_two_eq_one a b
      rw [ha, hb] at key ⊢
      exact key.mpr (by decide)
    · have key := @Nat.xor_mod_two_eq_one a b
      rw [ha, hb] at key ⊢
      have : ¬ (a ^^^ b) % 2 = 1 := fun q => key.mp q Iff.rfl
      show (a ^^^ b) % 2 = 0
      omega
  omega
theorem sb_half {s m : Nat} (hs : s &&& m = s) : s / 2 &&& m / 2 = s / 2 ∧ s % 2 &&& m % 2 = s % 2 := by
  have h := land2 s m
  have h1 : s / 2 &&& m / 2 ≤ s / 2 := Nat.and_le_left
  have h2 : s % 2 &&& m % 2 ≤ s % 2 := Nat.and_le_left
  omega
/-- the next lesser set within m is (s - 1) & m -/
theorem sub_le : ∀ (s m t : Nat), s &&& m = s → t &&& m = t → t < s → t ≤ (s - 1) &&& m := by
  intro s
  induction s using Nat.strongRecOn with
  | _ s ih =>
    intro m t hs ht hlt
    obtain ⟨ds, rs⟩ := sb_half hs
    obtain ⟨dt, rt⟩ := sb_half ht
    rw [land2 (s - 1) m]
    by_cases ho : s % 2 = 1
    · rw [show (s - 1) / 2 = s / 2 by omega, show (s - 1) % 2 = 0 by omega, ds, Nat.zero_and]
      omega
    · rw [show (s - 1) / 2 = s / 2 - 1 by omega, show (s - 1) % 2 = 1 by omega]
      have hi := ih (s / 2) (by omega) (m / 2) (t / 2) ds dt (by omega)
      rcases Nat.mod_two_eq_zero_or_one m with hm | hm
      · rw [hm, Nat.and_zero] at rt ⊢
        omega
      · rw [hm, show (1 : Nat) &&& 1 = 1 from rfl]
        omega
/-- what is left of a set -/
theorem sb_rest : ∀ (S a : Nat), a &&& S = a → (S ^^^ a) + a = S := by
  intro S
  induction S using Nat.strongRecOn with
  | _ S ih =>
    intro a ha
    obtain ⟨da, ra⟩ := sb_half ha
    by_cases h0 : S = 0
    · subst h0
      rw [Nat.and_zero] at ha
      subst ha
      rfl
    · have hi := ih (S / 2) (by omega) (a / 2) da
      rw [lxor2 S a]
      rcases Nat.mod_two_eq_zero_or_one S with hs | hs <;> rcases Nat.mod_two_eq_zero_or_one a with h1 | h1
      · rw [hs, h1, show (0 : Nat) ^^^ 0 = 0 from rfl]; omega
      · rw [hs, h1] at ra; simp at ra
      · rw [hs, h1, show (1 : Nat) ^^^ 0 = 1 from rfl]; omega
      · rw [hs, h1, show (1 : Nat) ^^^ 1 = 0 from rfl]; omega
theorem sb_bit {S a : Nat} (h : a &&& S = a) (i : Nat) (ha : a.testBit i = true) : S.testBit i = true := by
  have := Nat.testBit_and a S i
  rw [h, ha] at this
  simpa using this.symm
theorem sb_of {S a : Nat} (h : ∀ i, a.testBit i = true → S.testBit i = true) : a &&& S = a := by
  apply Nat.eq_of_testBit_eq
  intro i
  rw [Nat.testBit_and]
  cases ha : a.testBit i with
  | false => rfl
  | true => rw [h i ha]; rfl
theorem sb_sub {S a : Nat} (h : a &&& S = a) : (S ^^^ a) &&& S = S ^^^ a := sb_of fun i hi => by
  rw [Nat.testBit_xor] at hi
  cases hs : S.testBit i with
  | true => rfl
  | false =>
    cases ha : a.testBit i with
    | true => rw [sb_bit h i ha] at hs; cases hs
    | false => rw [hs, ha] at hi; cases hi
theorem sb_xx (S a : Nat) : S ^^^ (S ^^^ a) = a := by
  rw [← Nat.xor_assoc, Nat.xor_self, Nat.zero_xor]
/-- a part of S that is neither none nor all -/
def SP (S a : Nat) : Prop := 0 < a ∧ a < S ∧ a &&& S = a
theorem SP_o {S a : Nat} (h : SP S a) : SP S (S ^^^ a) := by
  have h1 := sb_rest S a h.2.2
  exact ⟨by have := h.2.1; omega, by have := h.1; omega, sb_sub h.2.2⟩
/-- the lowest place -/
def lw (S : Nat) : Nat := pc ((S ^^^ (S &&& (S - 1))) - 1)
theorem lw_f : ∀ S, S < 512 → 0 < S → (nI S &&& -(nI S)) - 1 = nI ((S ^^^ (S &&& (S - 1))) - 1) ∧ (S ^^^ (S &&& (S - 1))) - 1 < 65536 ∧ lw S < 9 ∧ S.testBit (lw S) = true ∧ (∀ i, i < 9 → (S &&& (S - 1)).testBit i = (S.testBit i && !(i == lw S))) ∧ (S &&& (S - 1)) < S := by decide +kernel
theorem t9 {S i : Nat} (h : S < 512) (hi : S.testBit i = true) : i < 9 := by
  apply Decidable.byContradiction
  intro hc
  rw [Nat.testBit_lt_two_pow (Nat.lt_of_lt_of_le h (Nat.pow_le_pow_right (n := 2) (by decide) (by omega : 9 ≤ i)))] at hi
  cases hi
theorem SP_low {S a : Nat} (hS : S < 512) (h : SP S a) : a &&& (S &&& (S - 1)) = a ∨ (S ^^^ a) &&& (S &&& (S - 1)) = S ^^^ a := by
  have h0 : 0 < S := by have := h.2.1; omega
  obtain ⟨_, _, l9, lb, lt, _⟩ := lw_f S hS h0
  cases ha : a.testBit (lw S) with
  | false =>
    left
    refine sb_of fun i hi => ?_
    have hSi := sb_bit h.2.2 i hi
    rw [lt i (t9 hS hSi), hSi]
    have : i ≠ lw S := fun e => by rw [e, ha] at hi; cases hi
    simp [this]
  | true =>
    right
    refine sb_of fun i hi => ?_
    have hSi := sb_bit (sb_sub h.2.2) i hi
    rw [lt i (t9 hS hSi), hSi]
    have : i ≠ lw S := fun e => by
      rw [e, Nat.testBit_xor, ha, lb] at hi
      cases hi
    simp [this]
def xr (G : Nat → Nat) (S : Nat) : Nat → Nat
  | 0 => 0
  | i + 1 => xr G S i ^^^ (if S.testBit i = true then G i else 0)
def xl (G : Nat → Nat) (S : Nat) : Nat := xr G S 9
theorem xr_low (G : Nat → Nat) (S : Nat) (hS : S < 512) (h0 : 0 < S) : ∀ i, i ≤ 9 → xr G S i = xr G (S &&& (S - 1)) i ^^^ (if lw S < i then G (lw S) else 0)
  | 0, _ => by simp [xr]
  | i + 1, hi => by
    obtain ⟨_, _, l9, lb, lt, _⟩ := lw_f S hS h0
    have ih := xr_low G S hS h0 i (by omega)
    simp only [xr]
    rw [ih, lt i (by omega)]
    by_cases e : i = lw S
    · rw [if_neg (show ¬ lw S < i by omega), if_pos (show lw S < i + 1 by omega), if_pos (by rw [e]; exact lb), if_neg (by simp [e]), e]
    · by_cases h2 : lw S < i
      · rw [if_pos h2, if_pos (show lw S < i + 1 by omega)]
        have : (S.testBit i && !(i == lw S)) = S.testBit i := by simp [e]
        rw [this, Nat.xor_assoc, Nat.xor_assoc, Nat.xor_comm (G (lw S))]
      · rw [if_neg h2, if_neg (show ¬ lw S < i + 1 by omega)]
        have : (S.testBit i && !(i == lw S)) = S.testBit i := by simp [e]
        rw [this]
        simp
theorem xl_low (G : Nat → Nat) (S : Nat) (hS : S < 512) (h0 : 0 < S) : xl G S = xl G (S &&& (S - 1)) ^^^ G (lw S) := by
  have := xr_low G S hS h0 9 (Nat.le_refl _)
  rw [if_pos (lw_f S hS h0).2.2.1] at this
  exact this
theorem xr_lt {G : Nat → Nat} (hG : ∀ i, i < 9 → G i < 65536) (S : Nat) : ∀ i, i ≤ 9 → xr G S i < 2 ^ 16
  | 0, _ => by simp [xr]
  | i + 1, hi => by
    simp only [xr]
    refine Nat.xor_lt_two_pow (xr_lt hG S i (by omega)) ?_
    split
    · exact hG i (by omega)
    · decide
theorem pcn_b : ∀ k n, pcn k n ≤ k
  | 0, _ => Nat.le_refl _
  | k + 1, n => by
    have := pcn_b k (n / 2)
    simp only [pcn]
    omega
def wt (G : Nat → Nat) (a b : Nat) : Nat := 2 ^ pc (xl G a ||| xl G b)
theorem wt_n {G : Nat → Nat} (hG : ∀ i, i < 9 → G i < 65536) (a b : Nat) : xl G a ||| xl G b < 65536 ∧ pc (xl G a ||| xl G b) ≤ 16 ∧ wt G a b ≤ 65536 := by
  have h : xl G a ||| xl G b < 2 ^ 16 := Nat.or_lt_two_pow (xr_lt hG a 9 (by decide)) (xr_lt hG b 9 (by decide))
  have hp : pc (xl G a ||| xl G b) ≤ 16 := by
    unfold pc
    rw [show (32 : Nat) = 16 + 16 from rfl, pcn_le 16 _ h 16]
    exact pcn_b _ _
  exact ⟨h, hp, Nat.pow_le_pow_right (by decide) hp⟩
theorem wt_c (G : Nat → Nat) (a b : Nat) : wt G a b = wt G b a := by
  unfold wt
  rw [Nat.or_comm]
def cst (G c : Nat → Nat) (S a : Nat) : Nat := c a + c (S ^^^ a) + wt G a (S ^^^ a)
theorem cst_o (G c : Nat → Nat) (S a : Nat) : cst G c S (S ^^^ a) = cst G c S a := by
  unfold cst
  rw [sb_xx, wt_c]
  omega
/-- c tells the least cost at S, if it does below S -/
def CO (G c : Nat → Nat) (S : Nat) : Prop := (S &&& (S - 1) = 0 → c S = 0) ∧ (S &&& (S - 1) ≠ 0 → (∀ a, SP S a → c S ≤ cst G c S a) ∧ ∃ a, SP S a ∧ c S = cst G c S a)
theorem CO_eq {G c c' : Nat → Nat} {N : Nat} (h : ∀ S, 0 < S → S < N → CO G c S) (h' : ∀ S, 0 < S → S < N → CO G c' S) : ∀ S, 0 < S → S < N → c S = c' S := by
  intro S
  induction S using Nat.strongRecOn with
  | _ S ih =>
    intro h0 hN
    have e : ∀ a, SP S a → cst G c S a = cst G c' S a := fun a ha => by
      have hb := SP_o ha
      unfold cst
      rw [ih a ha.2.1 ha.1 (by have := ha.2.1; omega), ih _ hb.2.1 hb.1 (by have := hb.2.1; omega)]
    by_cases hp : S &&& (S - 1) = 0
    · rw [(h S h0 hN).1 hp, (h' S h0 hN).1 hp]
    · obtain ⟨l1, a, ha, e1⟩ := (h S h0 hN).2 hp
      obtain ⟨l2, a', ha', e2⟩ := (h' S h0 hN).2 hp
      have q1 := l1 a' ha'
      have q2 := l2 a ha
      rw [e a' ha'] at q1
      rw [← e a ha] at q2
      omega
theorem cst_b {G c : Nat → Nat} (hG : ∀ i, i < 9 → G i < 65536) {S a : Nat} (hb : ∀ T, 0 < T → T < S → c T ≤ 65536 * (T - 1)) (ha : SP S a) : cst G c S a ≤ 65536 * (S - 1) := by
  have h1 := hb a ha.1 ha.2.1
  have ho := SP_o ha
  have h2 := hb _ ho.1 ho.2.1
  have h3 := (wt_n hG a (S ^^^ a)).2.2
  have h4 := sb_rest S a ha.2.2
  have h5 := ha.1
  have h6 := ho.1
  unfold cst
  omega
