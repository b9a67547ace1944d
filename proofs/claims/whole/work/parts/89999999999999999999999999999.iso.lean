/-! code: which PAULIS count for the distance: more than the group, or the group alone -/
/-- a thing that is taken bit by bit of a product -/
def adF (f : Nat → Bool) : Prop := f 0 = false ∧ ∀ a b, f (a ^^^ b) = (f a != f b)
theorem adf_0 {f : Nat → Bool} {V : Nat → Nat} {e : Nat} (hf : adF f) : ∀ {k : Nat}, (∀ j, j < k → e / 2 ^ j % 2 = 1 → f (V j) = false) → f (pxr V e k) = false
  | 0, _ => hf.1
  | k + 1, h => by
    have ih := adf_0 hf (k := k) (fun j hj => h j (by omega))
    show f (pxr V e k ^^^ (if e / 2 ^ k % 2 = 1 then V k else 0)) = false
    rw [hf.2, ih]
    by_cases c : e / 2 ^ k % 2 = 1
    · rw [if_pos c, h k (by omega) c]
      rfl
    · rw [if_neg c, hf.1]
      rfl
theorem ad_1 {f : Nat → Bool} {V : Nat → Nat} {e l : Nat} (hf : adF f) (hl : e / 2 ^ l % 2 = 1) (h1 : f (V l) = true) : ∀ {k : Nat}, l < k → (∀ j, j < k → j ≠ l → e / 2 ^ j % 2 = 1 → f (V j) = false) → f (pxr V e k) = true
  | 0, h, _ => absurd h (Nat.not_lt_zero _)
  | k + 1, hk, h => by
    show f (pxr V e k ^^^ (if e / 2 ^ k % 2 = 1 then V k else 0)) = true
    rw [hf.2]
    by_cases e0 : l = k
    · subst e0
      rw [if_pos hl, h1, adf_0 hf (k := l) (fun j hj => h j (by omega) (by omega))]
      rfl
    · rw [ad_1 hf hl h1 (k := k) (by omega) (fun j hj => h j (by omega))]
      by_cases c : e / 2 ^ k % 2 = 1
      · rw [if_pos c, h k (by omega) (fun q => e0 q.symm) c]
        rfl
      · rw [if_neg c, hf.1]
        rfl
/-- two vectors do not commute -/
def sfB (w v : Nat) : Bool := !(qmB (v % 256) (v / 256) (w % 256) (w / 256))
theorem sf_ad (w : Nat) : adF (sfB w) := by
  constructor
  · show (!(qmB 0 0 (w % 256) (w / 256))) = false
    rw [qmB_0]
    rfl
  · intro a b
    have e1 : (a ^^^ b) % 256 = a % 256 ^^^ b % 256 := Nat.xor_mod_two_pow (n := 8)
    have e2 : (a ^^^ b) / 256 = a / 256 ^^^ b / 256 := Nat.xor_div_two_pow (n := 8)
    unfold sfB
    rw [e1, e2, qmB_x]
    cases qmB (a % 256) (a / 256) (w % 256) (w / 256) <;> cases qmB (b % 256) (b / 256) (w % 256) (w / 256) <;> rfl
theorem tb_ad (q : Nat) : adF (fun v => v.testBit q) := by
  constructor
  · exact Nat.zero_testBit q
  · intro a b
    show (a ^^^ b).testBit q = _
    rw [Nat.testBit_xor]
theorem sf_s (v w : Nat) : sfB w v = sfB v w := by
  unfold sfB
  rw [qmB_s]
/-- the vector that does not commute just with those that have bit q -/
def duV (q : Nat) : Nat := if q < 8 then 256 * 2 ^ q else 2 ^ (q - 8)
theorem pcn_0 : ∀ k, pcn k 0 = 0
  | 0 => rfl
  | k + 1 => by
    show 0 % 2 + pcn k (0 / 2) = 0
    rw [Nat.zero_div, pcn_0 k]
theorem pcn_1 : ∀ k q, q < k → pcn k (2 ^ q) = 1
  | 0, q, h => absurd h (Nat.not_lt_zero _)
  | k + 1, 0, _ => by
    show 1 % 2 + pcn k (1 / 2) = 1
    rw [show 1 / 2 = 0 from rfl, pcn_0]
  | k + 1, q + 1, h => by
    show 2 ^ (q + 1) % 2 + pcn k (2 ^ (q + 1) / 2) = 1
    rw [Nat.pow_succ, Nat.mul_mod_left, Nat.mul_div_cancel _ (by decide), pcn_1 k q (by omega)]
theorem pc_and (a q : Nat) (hq : q < 32) : pc (a &&& 2 ^ q) = (if a.testBit q = true then 1 else 0) := by
  have e : a &&& 2 ^ q = (if a.testBit q = true then 2 ^ q else 0) := by
    apply Nat.eq_of_testBit_eq
    intro i
    rw [Nat.testBit_and, Nat.testBit_two_pow]
    by_cases c : q = i
    · subst c
      cases h : a.testBit q with
      | true => simp
      | false => simp
    · rw [decide_eq_false c, Bool.and_false]
      split
      · rw [Nat.testBit_two_pow, decide_eq_false c]
      · rw [Nat.zero_testBit]
  rw [e]
  by_cases c : a.testBit q = true
  · rw [if_pos c, if_pos c]
    exact pcn_1 32 q hq
  · rw [if_neg c, if_neg c]
    exact pcn_0 32
theorem sf_d {w q : Nat} (hq : q < 16) : sfB w (duV q) = w.testBit q := by
  unfold duV
  by_cases c : q < 8
  · rw [if_pos c]
    have e1 : 256 * 2 ^ q % 256 = 0 := Nat.mul_mod_right _ _
    have e2 : 256 * 2 ^ q / 256 = 2 ^ q := Nat.mul_div_cancel_left _ (by decide)
    unfold sfB qmB
    rw [e1, e2, Nat.zero_and, Nat.and_comm (2 ^ q), pc_and _ q (by omega), show pc 0 = 0 from rfl]
    have e3 : (w % 256).testBit q = w.testBit q := by
      rw [show (256 : Nat) = 2 ^ 8 from rfl, Nat.testBit_mod_two_pow, decide_eq_true c, Bool.true_and]
    rw [e3]
    cases w.testBit q <;> rfl
  · rw [if_neg c]
    have hl : 2 ^ (q - 8) < 256 := Nat.pow_lt_pow_right (a := 2) (n := 8) (by decide) (by omega)
    unfold sfB qmB
    rw [Nat.mod_eq_of_lt hl, Nat.div_eq_of_lt hl, Nat.zero_and, Nat.and_comm (2 ^ (q - 8)), pc_and _ (q - 8) (by omega), show pc 0 = 0 from rfl]
    have e3 : (w / 256).testBit (q - 8) = w.testBit q := by
      rw [show (256 : Nat) = 2 ^ 8 from rfl, Nat.testBit_div_two_pow]
      congr 1
      omega
    rw [e3]
    cases w.testBit q <;> rfl
/-- both halves have n bits -/
def hfB (n v : Nat) : Prop := v % 256 < 2 ^ n ∧ v / 256 < 2 ^ n
theorem hf_x {n a b : Nat} (ha : hfB n a) (hb : hfB n b) : hfB n (a ^^^ b) := by
  have e1 : (a ^^^ b) % 256 = a % 256 ^^^ b % 256 := Nat.xor_mod_two_pow (n := 8)
  have e2 : (a ^^^ b) / 256 = a / 256 ^^^ b / 256 := Nat.xor_div_two_pow (n := 8)
  unfold hfB
  rw [e1, e2]
  exact ⟨Nat.xor_lt_two_pow ha.1 hb.1, Nat.xor_lt_two_pow ha.2 hb.2⟩
theorem hfb_0 (n : Nat) : hfB n 0 := ⟨Nat.two_pow_pos n, Nat.two_pow_pos n⟩
theorem hf_p {n e : Nat} {V : Nat → Nat} : ∀ {k : Nat}, (∀ j, j < k → hfB n (V j)) → hfB n (pxr V e k)
  | 0, _ => hfb_0 n
  | k + 1, h => by
    have ih := hf_p (e := e) (k := k) (fun j hj => h j (by omega))
    show hfB n (pxr V e k ^^^ (if e / 2 ^ k % 2 = 1 then V k else 0))
    split
    · exact hf_x ih (h k (by omega))
    · exact hf_x ih (hfb_0 n)
/-- a vector's NUMBER gives it back -/
theorem nu_inj {n a b : Nat} (hn : n ≤ 8) (ha : hfB n a) (hb : hfB n b) (h : nuF (a % 256) (a / 256) n = nuF (b % 256) (b / 256) n) : a = b := by
  have a1 := nuF_v (c := fun _ _ => 0) (x := a % 256) (z := a / 256) cpX_1 hn ha.1 (fun j => (dg_bit j).1)
  have a2 := nuF_v (c := fun _ _ => 0) (x := a % 256) (z := a / 256) cpZ_1 hn ha.2 (fun j => (dg_bit j).2)
  have b1 := nuF_v (c := fun _ _ => 0) (x := b % 256) (z := b / 256) cpX_1 hn hb.1 (fun j => (dg_bit j).1)
  have b2 := nuF_v (c := fun _ _ => 0) (x := b % 256) (z := b / 256) cpZ_1 hn hb.2 (fun j => (dg_bit j).2)
  rw [h] at a1 a2
  omega
/-- a greatest and a least bit -/
theorem bigg_b {e : Nat} : ∀ k, (∃ j, j < k ∧ e / 2 ^ j % 2 = 1) → ∃ l, l < k ∧ e / 2 ^ l % 2 = 1 ∧ ∀ j, l < j → j < k → ¬ e / 2 ^ j % 2 = 1
  | 0, ⟨j, hj, _⟩ => absurd hj (Nat.not_lt_zero _)
  | k + 1, ⟨j, hj, h⟩ => by
    by_cases c : e / 2 ^ k % 2 = 1
    · exact ⟨k, by omega, c, fun i h1 h2 => by omega⟩
    · have hjk : j < k := by
        rcases Nat.lt_or_ge j k with q | q
        · exact q
        · have : j = k := by omega
          subst this
          exact absurd h c
      obtain ⟨l, a, b, d⟩ := bigg_b k ⟨j, hjk, h⟩
      refine ⟨l, by omega, b, fun i h1 h2 => ?_⟩
      by_cases q : i = k
      · subst q
        exact c
      · exact d i h1 (by omega)
theorem sml_b {e : Nat} : ∀ k, (∃ j, j < k ∧ e / 2 ^ j % 2 = 1) → ∃ l, l < k ∧ e / 2 ^ l % 2 = 1 ∧ ∀ j, j < l → ¬ e / 2 ^ j % 2 = 1
  | 0, ⟨j, hj, _⟩ => absurd hj (Nat.not_lt_zero _)
  | k + 1, ⟨j, hj, h⟩ => by
    by_cases c : ∃ i, i < k ∧ e / 2 ^ i % 2 = 1
    · obtain ⟨l, a, b, d⟩ := sml_b k c
      exact ⟨l, by omega, b, d⟩
    · refine ⟨j, hj, h, fun i hi q => c ⟨i, by omega, q⟩⟩
theorem some_b {e k : Nat} (h0 : 0 < e) (hk : e < 2 ^ k) : ∃ j, j < k ∧ e / 2 ^ j % 2 = 1 := by
  apply Classical.byContradiction
  intro c
  have : e = 0 := by
    apply Nat.eq_of_testBit_eq
    intro i
    rw [Nat.zero_testBit, Nat.testBit_eq_decide_div_mod_eq]
    apply decide_eq_false
    intro q
    rcases Nat.lt_or_ge i k with y | y
    · exact c ⟨i, y, q⟩
    · have : e < 2 ^ i := Nat.lt_of_lt_of_le hk (Nat.pow_le_pow_right (by decide) y)
      rw [Nat.div_eq_of_lt this] at q
      exact absurd q (by decide)
  omega
/-- no more than n vectors that commute in pairs and are independent -/
theorem iso_n {n k : Nat} {R p : Nat → Nat} (hn : n ≤ 8) (hk : n < k) (hb : ∀ j, j < k → hfB n (R j)) (hc : ∀ i j, i < k → j < k → sfB (R i) (R j) = false) (hp : ∀ j, j < k → p j < 16 ∧ (R j).testBit (p j) = true) (ht : ∀ i j, i < j → j < k → (R j).testBit (p i) = false) : False := by
  have hd : ∀ j, j < k → hfB n (duV (p j)) := by
    intro j hj
    obtain ⟨h1, h2⟩ := hp j hj
    obtain ⟨b1, b2⟩ := hb j hj
    unfold duV hfB
    by_cases c : p j < 8
    · rw [if_pos c, Nat.mul_mod_right, Nat.mul_div_cancel_left _ (show 0 < 256 by decide)]
      refine ⟨Nat.two_pow_pos n, Nat.pow_lt_pow_right (by decide) ?_⟩
      apply Classical.byContradiction
      intro q
      have e3 : (R j % 256).testBit (p j) = (R j).testBit (p j) := by
        rw [show (256 : Nat) = 2 ^ 8 from rfl, Nat.testBit_mod_two_pow, decide_eq_true c, Bool.true_and]
      rw [h2, Nat.testBit_lt_two_pow (Nat.lt_of_lt_of_le b1 (Nat.pow_le_pow_right (by decide) (by omega)))] at e3
      cases e3
    · have hl : 2 ^ (p j - 8) < 256 := Nat.pow_lt_pow_right (a := 2) (n := 8) (by decide) (by omega)
      rw [if_neg c, Nat.mod_eq_of_lt hl, Nat.div_eq_of_lt hl]
      refine ⟨Nat.pow_lt_pow_right (by decide) ?_, Nat.two_pow_pos n⟩
      apply Classical.byContradiction
      intro q
      have e3 : (R j / 256).testBit (p j - 8) = (R j).testBit (p j) := by
        rw [show (256 : Nat) = 2 ^ 8 from rfl, Nat.testBit_div_two_pow]
        congr 1
        omega
      rw [h2, Nat.testBit_lt_two_pow (Nat.lt_of_lt_of_le b2 (Nat.pow_le_pow_right (by decide) (by omega)))] at e3
      cases e3
  generalize hU : (fun j => if j < k then R j else duV (p (j - k))) = U
  have hU1 : ∀ j, j < k → U j = R j := fun j hj => by rw [← hU]; exact if_pos hj
  have hU2 : ∀ j, k ≤ j → U j = duV (p (j - k)) := fun j hj => by rw [← hU]; exact if_neg (by omega)
  have hUb : ∀ j, j < 2 * k → hfB n (U j) := by
    intro j hj
    rcases Nat.lt_or_ge j k with q | q
    · rw [hU1 j q]
      exact hb j q
    · rw [hU2 j q]
      exact hd (j - k) (by omega)
  have hpw : 4 ^ n < 2 ^ (2 * k) := by
    rw [Nat.pow_mul]
    exact Nat.pow_lt_pow_right (by decide) hk
  obtain ⟨e1, e2, h1, h2, h3⟩ := phb (4 ^ n) (fun e => nuF (pxr U e (2 * k) % 256) (pxr U e (2 * k) / 256) n) (fun e _ => nuF_l _ _ n)
  have h4 := nu_inj hn (hf_p (e := e1) hUb) (hf_p (e := e2) hUb) h3
  have h5 : pxr U (e1 ^^^ e2) (2 * k) = 0 := by rw [pxr_x, h4, Nat.xor_self]
  have h6 : 0 < e1 ^^^ e2 := by
    rcases Nat.eq_zero_or_pos (e1 ^^^ e2) with q | q
    · exact absurd (xor_0.mp q) (by omega)
    · exact q
  have h7 : e1 ^^^ e2 < 2 ^ (2 * k) := Nat.xor_lt_two_pow (by omega) (by omega)
  generalize e1 ^^^ e2 = e at h5 h6 h7
  obtain ⟨l, l1, l2, l3⟩ := bigg_b (2 * k) (some_b h6 h7)
  rcases Nat.lt_or_ge l k with q | q
  · obtain ⟨m, m1, m2, m3⟩ := sml_b (2 * k) ⟨l, l1, l2⟩
    have hml : m ≤ l := by
      apply Classical.byContradiction
      intro c
      exact m3 l (by omega) l2
    have := ad_1 (V := U) (tb_ad (p m)) m2 (by show (U m).testBit (p m) = true; rw [hU1 m (by omega)]; exact (hp m (by omega)).2) m1 (fun j hj hne hbj => by
      have hj1 : m < j := by
        rcases Nat.lt_trichotomy j m with y | y | y
        · exact absurd hbj (m3 j y)
        · exact absurd y hne
        · exact y
      have hj2 : j ≤ l := by
        apply Classical.byContradiction
        intro c
        exact l3 j (by omega) hj hbj
      show (U j).testBit (p m) = false
      rw [hU1 j (by omega)]
      exact ht m j hj1 (by omega))
    rw [h5] at this
    rw [Nat.zero_testBit] at this
    cases this
  · have := ad_1 (V := U) (sf_ad (R (l - k))) l2 (by rw [hU2 l q, sf_d (hp _ (by omega)).1]; exact (hp _ (by omega)).2) l1 (fun j hj hne hbj => by
      rcases Nat.lt_or_ge j k with y | y
      · rw [hU1 j y]
        exact hc _ _ (by omega) y
      · have hj2 : j < l := by
          rcases Nat.lt_trichotomy j l with t | t | t
          · exact t
          · exact absurd t hne
          · exact absurd hbj (l3 j t hj)
        rw [hU2 j y, sf_d (hp _ (by omega)).1]
        exact ht _ _ (by omega) (by omega))
    rw [h5, (sf_ad _).1] at this
    cases this
