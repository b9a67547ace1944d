/-! measure: which rows have the bit -/
def nxb (n w : Nat) (Y : Nat → RW) : Prop := ∀ j, j < n → (Y j).1.testBit w = false
section NXB
variable {n w : Nat} {Y : Nat → RW}
theorem nx_up {i e : Nat} (hi : i < n) (he : e < n) (hie : i ≠ e) : nxb n w (upR Y i (mulA (Y i) (Y e))) ↔ nxb n w Y := by
  have vi : (upR Y i (mulA (Y i) (Y e)) i).1 = (Y i).1 ^^^ (Y e).1 := by
    unfold upR
    rw [if_pos rfl]
    rfl
  have vo : ∀ j, j ≠ i → upR Y i (mulA (Y i) (Y e)) j = Y j := fun j hj => if_neg hj
  constructor
  · intro h j hj
    by_cases c : j = i
    · have a := h i hi
      have b := h e he
      rw [vo e (fun z => hie z.symm)] at b
      rw [vi, Nat.testBit_xor, b, Bool.xor_false] at a
      rw [c]
      exact a
    · have a := h j hj
      rw [vo j c] at a
      exact a
  · intro h j hj
    by_cases c : j = i
    · rw [c, vi, Nat.testBit_xor, h i hi, h e he]
      rfl
    · rw [vo j c]
      exact h j hj
theorem nx_sw {a b : Nat} (ha : a < n) (hb : b < n) : nxb n w (swR Y a b) ↔ nxb n w Y := by
  have v : ∀ j, swR Y a b j = if j = a then Y b else if j = b then Y a else Y j := fun _ => rfl
  constructor
  · intro h j hj
    by_cases c1 : j = a
    · by_cases c2 : a = b
      · have := h a ha
        rw [v, if_pos rfl, ← c2] at this
        rw [c1]
        exact this
      · have := h b hb
        rw [v, if_neg (fun z => c2 z.symm), if_pos rfl] at this
        rw [c1]
        exact this
    · by_cases c2 : j = b
      · have := h a ha
        rw [v, if_pos rfl] at this
        rw [c2]
        exact this
      · have := h j hj
        rw [v, if_neg c1, if_neg c2] at this
        exact this
  · intro h j hj
    rw [v]
    by_cases c1 : j = a
    · rw [if_pos c1]
      exact h b hb
    · rw [if_neg c1]
      by_cases c2 : j = b
      · rw [if_pos c2]
        exact h a ha
      · rw [if_neg c2]
        exact h j hj
theorem nx_ml {c e : Nat} (he : e < n) : ∀ i, i ≤ n → (nxb n w (mlR n c e Y i) ↔ nxb n w Y)
  | 0, _ => Iff.rfl
  | i + 1, hi => by
    have ih := nx_ml (c := c) he i (by omega)
    show nxb n w (if i ≠ e ∧ hb n (mlR n c e Y i i) c = 1 then upR (mlR n c e Y i) i (mulA (mlR n c e Y i i) (mlR n c e Y i e)) else mlR n c e Y i) ↔ _
    by_cases q : i ≠ e ∧ hb n (mlR n c e Y i i) c = 1
    · rw [if_pos q, nx_up (by omega) he q.1]
      exact ih
    · rw [if_neg q]
      exact ih
theorem nx_rd : ∀ c, (rdR n Y c).2 ≤ n ∧ (nxb n w (rdR n Y c).1 ↔ nxb n w Y)
  | 0 => ⟨Nat.zero_le _, Iff.rfl⟩
  | c + 1 => by
    obtain ⟨l, ih⟩ := nx_rd c
    have F := fd_p n (rdR n Y c).1 c (n - (rdR n Y c).2) (rdR n Y c).2
    show (stR n c (rdR n Y c)).2 ≤ n ∧ (nxb n w (stR n c (rdR n Y c)).1 ↔ nxb n w Y)
    unfold stR
    by_cases q : fdR n (rdR n Y c).1 c (n - (rdR n Y c).2) (rdR n Y c).2 = n
    · rw [if_pos q]
      exact ⟨l, ih⟩
    · rw [if_neg q]
      have fl : fdR n (rdR n Y c).1 c (n - (rdR n Y c).2) (rdR n Y c).2 < n := by
        have := F.2.1
        omega
      have al : (rdR n Y c).2 < n := by
        have := F.1
        omega
      refine ⟨al, ?_⟩
      show nxb n w (mlR n c (rdR n Y c).2 (swR (rdR n Y c).1 (fdR n (rdR n Y c).1 c (n - (rdR n Y c).2) (rdR n Y c).2) (rdR n Y c).2) n) ↔ _
      rw [nx_ml al n (Nat.le_refl _), nx_sw fl al]
      exact ih
theorem nx_red : nxb n w (redR n Y) ↔ nxb n w Y := (nx_rd (2 * n)).2
end NXB
/-! measure: the sign of a Z -/
def lwF (z : Nat) : Nat → Nat → Nat
  | 0, k => k
  | m + 1, k => if z.testBit k = true then k else lwF z m (k + 1)
theorem lwF_p (z : Nat) : ∀ m k, k ≤ lwF z m k ∧ lwF z m k ≤ k + m ∧ (∀ i, k ≤ i → i < lwF z m k → z.testBit i = false) ∧ (lwF z m k < k + m → z.testBit (lwF z m k) = true)
  | 0, k => ⟨Nat.le_refl _, Nat.le_refl _, fun i h1 h2 => by have h2 : i < k := h2; omega, fun h => by have h : k < k + 0 := h; omega⟩
  | m + 1, k => by
    obtain ⟨a, b, c, e⟩ := lwF_p z m (k + 1)
    show k ≤ (if z.testBit k = true then k else lwF z m (k + 1)) ∧ (if z.testBit k = true then k else lwF z m (k + 1)) ≤ k + (m + 1) ∧ (∀ i, k ≤ i → i < (if z.testBit k = true then k else lwF z m (k + 1)) → z.testBit i = false) ∧ ((if z.testBit k = true then k else lwF z m (k + 1)) < k + (m + 1) → z.testBit (if z.testBit k = true then k else lwF z m (k + 1)) = true)
    by_cases q : z.testBit k = true
    · rw [if_pos q]
      exact ⟨Nat.le_refl _, by omega, fun i h1 h2 => by omega, fun _ => q⟩
    · rw [if_neg q]
      refine ⟨by omega, by omega, fun i h1 h2 => ?_, fun h => e (by omega)⟩
      by_cases ik : i = k
      · rw [ik]
        exact Bool.eq_false_iff.mpr q
      · exact c i (by omega) h2
theorem low_b2 {z t : Nat} (h : z.testBit t = true) (h0 : ∀ i, i < t → z.testBit i = false) (i : Nat) : (z.testBit i && !(z - 1).testBit i) = decide (i = t) := by
  have m0 : z % 2 ^ t = 0 := Nat.eq_of_testBit_eq fun i => by
    rw [Nat.testBit_mod_two_pow, Nat.zero_testBit]
    by_cases c : i < t
    · rw [h0 i c, Bool.and_false]
    · rw [decide_eq_false c, Bool.false_and]
  have od : z / 2 ^ t % 2 = 1 := by
    have := h
    rw [Nat.testBit_eq_decide_div_mod_eq] at this
    exact of_decide_eq_true this
  have p := Nat.pow_pos (n := t) (show 0 < 2 by decide)
  have ez : z = 2 ^ t * (2 * (z / 2 ^ t / 2) + 1) + 0 := by
    have := Nat.div_add_mod z (2 ^ t)
    have e2 : 2 * (z / 2 ^ t / 2) + 1 = z / 2 ^ t := by omega
    rw [e2]
    omega
  have e1 : z - 1 = 2 ^ t * (2 * (z / 2 ^ t / 2)) + (2 ^ t - 1) := by
    rw [Nat.mul_add, Nat.mul_one] at ez
    omega
  generalize z / 2 ^ t / 2 = q at *
  rw [e1]
  rw [show z.testBit i = (2 ^ t * (2 * q + 1) + 0).testBit i from by rw [← ez]]
  rw [Nat.testBit_two_pow_mul_add _ p, Nat.testBit_two_pow_mul_add _ (by omega)]
  by_cases c : i < t
  · rw [if_pos c, if_pos c, Nat.zero_testBit, Bool.false_and, decide_eq_false (by omega)]
  · rw [if_neg c, if_neg c]
    by_cases e : i = t
    · rw [e, Nat.sub_self, decide_eq_true rfl]
      simp
    · rw [decide_eq_false e]
      obtain ⟨k, hk⟩ : ∃ k, i - t = k + 1 := ⟨i - t - 1, by omega⟩
      rw [hk, Nat.testBit_succ, Nat.testBit_succ, show (2 * q + 1) / 2 = q by omega, show 2 * q / 2 = q by omega]
      cases q.testBit k <;> rfl
theorem low_n {a z n : Nat} (ha : a < 2 ^ n) (hz : z < 2 ^ n) (n20 : n ≤ 20) : (nI a &&& nI z) &&& -(nI z) = 0 ↔ a.testBit (lwF z n 0) = false := by
  have P : 2 ^ n ≤ 2 ^ 20 := Nat.pow_le_pow_right (by decide) n20
  obtain ⟨_, l2, l3, l4⟩ := lwF_p z n 0
  by_cases z0 : z = 0
  · have e : lwF z n 0 = n := by
      apply Decidable.byContradiction
      intro c
      have := l4 (by omega)
      rw [z0, Nat.zero_testBit] at this
      exact absurd this (by decide)
    rw [e, z0]
    constructor
    · intro _
      exact Nat.testBit_lt_two_pow ha
    · intro _
      show (nI a &&& 0) &&& _ = 0
      rw [Int32.and_zero, Int32.zero_and]
  · have lt : lwF z n 0 < n := by
      apply Decidable.byContradiction
      intro c
      apply z0
      apply Nat.eq_of_testBit_eq
      intro i
      rw [Nat.zero_testBit]
      by_cases q : i < n
      · exact l3 i (Nat.zero_le _) (by omega)
      · exact Nat.testBit_lt_two_pow (Nat.lt_of_lt_of_le hz (Nat.pow_le_pow_right (by decide) (by omega)))
    have bt := l4 (by omega)
    have neg : -(nI z) = nI (2 ^ 32 - z) := by
      have s : nI (2 ^ 32 - z) + nI z = 0 := by
        rw [nI_add, show 2 ^ 32 - z + z = 2 ^ 32 by omega]
        rfl
      have : nI (2 ^ 32 - z) = 0 - nI z := by
        rw [← s, Int32.add_sub_cancel]
      rw [this, Int32.zero_sub]
    rw [neg, nI_and, nI_and, show (0 : Int32) = nI 0 from rfl, nI_eq (Nat.lt_of_le_of_lt Nat.and_le_left (Nat.lt_of_le_of_lt Nat.and_le_left (by omega))) (by decide)]
    have bits : ∀ i, (a &&& z &&& (2 ^ 32 - z)).testBit i = (a.testBit i && decide (i = lwF z n 0)) := fun i => by
      rw [Nat.testBit_and, Nat.testBit_and, show 2 ^ 32 - z = 2 ^ 32 - ((z - 1) + 1) by omega, Nat.testBit_two_pow_sub_succ (by omega)]
      by_cases q : i < 32
      · rw [decide_eq_true q, Bool.true_and, Bool.and_assoc, low_b2 bt (fun i hi => l3 i (Nat.zero_le _) hi) i]
      · have : z.testBit i = false := Nat.testBit_lt_two_pow (Nat.lt_of_lt_of_le hz (Nat.pow_le_pow_right (by decide) (by omega)))
        rw [this, Bool.and_false, Bool.false_and, decide_eq_false (show ¬ i = lwF z n 0 by omega), Bool.and_false]
    constructor
    · intro h
      have := bits (lwF z n 0)
      rw [h, Nat.zero_testBit, decide_eq_true rfl, Bool.and_true] at this
      exact this.symm
    · intro h
      apply Nat.eq_of_testBit_eq
      intro i
      rw [bits i, Nat.zero_testBit]
      by_cases q : i = lwF z n 0
      · rw [q, h, Bool.false_and]
      · rw [decide_eq_false q, Bool.and_false]
/-- what is still needed, and the sign, behind j rows -/
def sgZ (n w : Nat) (Y : Nat → RW) : Nat → Nat × Nat
  | 0 => (2 ^ w, 0)
  | j + 1 => if (Y j).1 = 0 ∧ (sgZ n w Y j).1.testBit (lwF (Y j).2.1 n 0) = true then ((sgZ n w Y j).1 ^^^ (Y j).2.1, (sgZ n w Y j).2 ^^^ (Y j).2.2) else sgZ n w Y j
theorem sgZ_b {n w : Nat} {Y : Nat → RW} (hw : w < n) (h : ∀ j, j < n → rw_n n (Y j)) : ∀ j, j ≤ n → (sgZ n w Y j).1 < 2 ^ n ∧ (sgZ n w Y j).2 < 2
  | 0, _ => ⟨Nat.pow_lt_pow_right (by decide) hw, by show 0 < 2; decide⟩
  | j + 1, hj => by
    obtain ⟨a, b⟩ := sgZ_b hw h j (by omega)
    have r := h j (by omega)
    show (if (Y j).1 = 0 ∧ (sgZ n w Y j).1.testBit (lwF (Y j).2.1 n 0) = true then ((sgZ n w Y j).1 ^^^ (Y j).2.1, (sgZ n w Y j).2 ^^^ (Y j).2.2) else sgZ n w Y j).1 < 2 ^ n ∧ (if (Y j).1 = 0 ∧ (sgZ n w Y j).1.testBit (lwF (Y j).2.1 n 0) = true then ((sgZ n w Y j).1 ^^^ (Y j).2.1, (sgZ n w Y j).2 ^^^ (Y j).2.2) else sgZ n w Y j).2 < 2
    by_cases c : (Y j).1 = 0 ∧ (sgZ n w Y j).1.testBit (lwF (Y j).2.1 n 0) = true
    · rw [if_pos c]
      exact ⟨Nat.xor_lt_two_pow a r.2.1, Nat.xor_lt_two_pow (n := 1) b r.2.2⟩
    · rw [if_neg c]
      exact ⟨a, b⟩
