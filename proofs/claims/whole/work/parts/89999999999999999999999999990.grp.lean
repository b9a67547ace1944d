/-! code: of the group are just those of which nothing is left; they commute with all rows -/
theorem mB_s {x z : Nat → Nat} {n s u : Nat} : ∀ k, mB x z n s k u = true ↔ ∃ e, e < k ∧ u = nuF (pxr x e s) (pxr z e s) n
  | 0 => ⟨fun h => (by cases h), fun ⟨e, he, _⟩ => absurd he (Nat.not_lt_zero _)⟩
  | k + 1 => by
    have ih := mB_s (x := x) (z := z) (n := n) (s := s) (u := u) k
    show (mB x z n s k u || decide (u = nuF (pxr x k s) (pxr z k s) n)) = true ↔ _
    rw [Bool.or_eq_true, ih, decide_eq_true_eq]
    constructor
    · rintro (⟨e, he, h⟩ | h)
      · exact ⟨e, by omega, h⟩
      · exact ⟨k, by omega, h⟩
    · rintro ⟨e, he, h⟩
      by_cases ek : e = k
      · subst ek
        exact Or.inr h
      · exact Or.inl ⟨e, by omega, h⟩
theorem dig_eq : ∀ {n a b : Nat}, a < 4 ^ n → b < 4 ^ n → (∀ k, k < n → a / 4 ^ k % 4 = b / 4 ^ k % 4) → a = b
  | 0, a, b, ha, hb, _ => by
    have ha : a < 1 := ha
    have hb : b < 1 := hb
    omega
  | n + 1, a, b, ha, hb, h => by
    rw [Nat.pow_succ] at ha hb
    have h0 := h 0 (by omega)
    rw [Nat.pow_zero, Nat.div_one, Nat.div_one] at h0
    have ih := dig_eq (n := n) (a := a / 4) (b := b / 4) (by omega) (by omega) (fun k hk => by
      have := h (k + 1) (by omega)
      rw [Nat.pow_succ, Nat.mul_comm (4 ^ k) 4, ← Nat.div_div_eq_div_mul, ← Nat.div_div_eq_div_mul] at this
      exact this)
    omega
theorem bit_v {h : Nat → Nat} (hh : ∀ k, h k ≤ 1) {n u j : Nat} (hn : n ≤ 8) (hj : j < n) : vcW h n u / 2 ^ j % 2 = h (u / 4 ^ (n - 1 - j) % 4) := by
  have ht := vcW_t hh (n := n) (x := u) (j := j) hn
  have h1 := hh (u / 4 ^ (n - 1 - j) % 4)
  rw [Nat.testBit_eq_decide_div_mod_eq, decide_eq_true_eq] at ht
  by_cases e : h (u / 4 ^ (n - 1 - j) % 4) = 1
  · rw [e]
    exact ht.mpr ⟨hj, e⟩
  · have := fun q => e (ht.mp q).2
    have h2 := Nat.mod_two_eq_zero_or_one (vcW h n u / 2 ^ j)
    omega
theorem dgQ_d : ∀ k, k < 4 → dgQ (cpX k) (cpZ k) = k := by decide
/-- a NUMBER out of its vector -/
theorem nuF_i {n u : Nat} (hn : n ≤ 8) (hu : u < 4 ^ n) : nuF (vcW cpX n u) (vcW cpZ n u) n = u := by
  refine dig_eq (nuF_l _ _ n) hu (fun k hk => ?_)
  have h := nuF_d (x := vcW cpX n u) (z := vcW cpZ n u) (n := n) (j := n - 1 - k) (by omega)
  rw [show n - 1 - (n - 1 - k) = k by omega] at h
  rw [h, bit_v cpX_1 hn (by omega), bit_v cpZ_1 hn (by omega), show n - 1 - (n - 1 - k) = k by omega]
  exact dgQ_d _ (Nat.mod_lt _ (by decide))
theorem pxr_p {f : Nat → Nat} {e n : Nat} : ∀ {i : Nat}, (∀ j, j < i → f j < 2 ^ n) → pxr f e i < 2 ^ n
  | 0, _ => Nat.two_pow_pos n
  | k + 1, h => by
    have h1 := pxr_p (e := e) (n := n) (i := k) (fun j hj => h j (by omega))
    unfold pxr
    split
    · exact Nat.xor_lt_two_pow h1 (h k (by omega))
    · exact Nat.xor_lt_two_pow h1 (Nat.two_pow_pos n)
theorem pxr_2 {x z : Nat → Nat} {e : Nat} : ∀ {i : Nat}, (∀ j, j < i → x j < 256) → pxr (fun j => x j + 256 * z j) e i = pxr x e i + 256 * pxr z e i
  | 0, _ => rfl
  | k + 1, h => by
    have ih := pxr_2 (z := z) (e := e) (i := k) (fun j hj => h j (by omega))
    have hl := pxr_lt (e := e) (i := k) (fun j hj => h j (by omega))
    unfold pxr
    rw [ih]
    by_cases c : e / 2 ^ k % 2 = 1
    · rw [if_pos c, if_pos c, if_pos c, xor_256 hl (h k (by omega))]
    · rw [if_neg c, if_neg c, if_neg c, Nat.xor_zero, Nat.xor_zero, Nat.xor_zero]
theorem dg_bit {a b : Nat} (j : Nat) : (cpX (dgQ (a / 2 ^ j % 2) (b / 2 ^ j % 2)) = 1 ↔ a.testBit j = true) ∧ (cpZ (dgQ (a / 2 ^ j % 2) (b / 2 ^ j % 2)) = 1 ↔ b.testBit j = true) := by
  rw [Nat.testBit_eq_decide_div_mod_eq, Nat.testBit_eq_decide_div_mod_eq, decide_eq_true_eq, decide_eq_true_eq]
  rcases Nat.mod_two_eq_zero_or_one (a / 2 ^ j) with p | p <;> rcases Nat.mod_two_eq_zero_or_one (b / 2 ^ j) with q | q <;> rw [p, q] <;> decide
/-- of the group: nothing is left -/
theorem grp_z {x z : Nat → Nat} {n s u : Nat} (hn : n ≤ 8) (hu : u < 4 ^ n) (hx : ∀ j, j < s → x j < 2 ^ n) (hz : ∀ j, j < s → z j < 2 ^ n) : mB x z n s (2 ^ s) u = true ↔ cdRe x z n s u = 0 := by
  have h8 : 2 ^ n ≤ 2 ^ 8 := Nat.pow_le_pow_right (by decide) hn
  have hx8 : ∀ j, j < s → x j < 256 := fun j hj => by have := hx j hj; omega
  have hz8 : ∀ j, j < s → z j < 256 := fun j hj => by have := hz j hj; omega
  have hV6 : ∀ j, j < s → x j + 256 * z j < 65536 := fun j hj => by have := hx8 j hj; have := hz8 j hj; omega
  have key := rdV_z (V := fun j => x j + 256 * z j) (R := rdT (fun j => x j + 256 * z j) s) (s := s) (fun j hj => rdT_r hj) (fun j hj => rdT_l hV6 s (Nat.le_refl _) j) (vcW cpX n u + 256 * vcW cpZ n u)
  rw [mB_s]
  show _ ↔ rdV (rdT (fun j => x j + 256 * z j) s) (vcW cpX n u + 256 * vcW cpZ n u) s = 0
  rw [key]
  constructor
  · rintro ⟨e, he, rfl⟩
    refine ⟨e, he, ?_⟩
    rw [pxr_2 hx8, nuF_v (c := fun _ _ => 0) cpX_1 hn (pxr_p hx) (fun j => (dg_bit j).1), nuF_v (c := fun _ _ => 0) cpZ_1 hn (pxr_p hz) (fun j => (dg_bit j).2)]
  · rintro ⟨e, he, h⟩
    refine ⟨e, he, ?_⟩
    rw [pxr_2 hx8] at h
    have l1 := vcW_l (n := n) (x := u) cpX_1 hn
    have l2 := pxr_lt (e := e) (i := s) hx8
    have e1 : pxr x e s = vcW cpX n u := by omega
    have e2 : pxr z e s = vcW cpZ n u := by omega
    rw [e1, e2, nuF_i hn hu]
theorem fsY_z {x z : Nat → Nat} {a b : Nat} : ∀ {s : Nat}, (∀ j, j < s → qmB a b (x j) (z j) = true) → fsY x z a b s = 0
  | 0, _ => rfl
  | s + 1, h => by
    have ih := fsY_z (x := x) (z := z) (a := a) (b := b) (s := s) (fun j hj => h j (by omega))
    show fsY x z a b s + (if qmB a b (x s) (z s) = true then 0 else 2 ^ s) = 0
    rw [ih, if_pos (h s (by omega))]
theorem qmB_0 (u v : Nat) : qmB 0 0 u v = true := by
  unfold qmB
  rw [Nat.zero_and, Nat.zero_and]
  rfl
/-- and it commutes with all rows -/
theorem grp_c {x z : Nat → Nat} {n s u : Nat} (hn : n ≤ 8) (hx : ∀ j, j < s → x j < 256) (hz : ∀ j, j < s → z j < 256) (hq : ∀ i j, i < s → j < s → qmB (x i) (z i) (x j) (z j) = true) (h : cdRe x z n s u = 0) : cdSy x z n s u = 0 := by
  have hV6 : ∀ j, j < s → x j + 256 * z j < 65536 := fun j hj => by have := hx j hj; have := hz j hj; omega
  have key := rdV_z (V := fun j => x j + 256 * z j) (R := rdT (fun j => x j + 256 * z j) s) (s := s) (fun j hj => rdT_r hj) (fun j hj => rdT_l hV6 s (Nat.le_refl _) j) (vcW cpX n u + 256 * vcW cpZ n u)
  obtain ⟨e, he, hv⟩ := key.mp h
  rw [pxr_2 hx] at hv
  have l1 := vcW_l (n := n) (x := u) cpX_1 hn
  have l2 := pxr_lt (e := e) (i := s) hx
  have e1 : vcW cpX n u = pxr x e s := by omega
  have e2 : vcW cpZ n u = pxr z e s := by omega
  refine fsY_z (fun j hj => ?_)
  rw [e1, e2]
  have : ∀ k, k ≤ s → qmB (pxr x e k) (pxr z e k) (x j) (z j) = true := by
    intro k
    induction k with
    | zero => intro _; exact qmB_0 _ _
    | succ k ih =>
      intro hk
      unfold pxr
      rw [qmB_x, ih (by omega)]
      split
      · rw [hq k j (by omega) hj]
        rfl
      · rw [qmB_0]
        rfl
  exact this s (Nat.le_refl _)
/-- rows that are right commute in pairs -/
theorem chF_q {x z : Nat → Nat} {n : Nat} (h : (chF x z n).1 = 0) : ∀ i j, i < n → j < n → qmB (x i) (z i) (x j) (z j) = true := by
  have hi : ∀ i, i < n → alQ x z i i = true := by
    intro i hi
    have h1 : (chF x z i).1 = 0 := by
      apply Classical.byContradiction
      intro c
      have := chF_m (x := x) (z := z) c (n - i)
      rw [show i + (n - i) = n by omega] at this
      rw [this] at h
      exact c h
    have h2 : (chF x z (i + 1)).1 = 0 := by
      apply Classical.byContradiction
      intro c
      have := chF_m (x := x) (z := z) c (n - (i + 1))
      rw [show i + 1 + (n - (i + 1)) = n by omega] at this
      rw [this] at h
      exact c h
    have h3 : chK x z i = 0 := by
      have e : chF x z (i + 1) = (chK x z i, i) := if_pos h1
      rw [e] at h2
      exact h2
    unfold chK at h3
    by_cases c : alQ x z i i = false
    · rw [if_pos c] at h3
      exact absurd h3 (by decide)
    · cases q9 : alQ x z i i with
      | true => rfl
      | false => exact absurd q9 c
  have hal : ∀ i m j, alQ x z i m = true → j < m → qmB (x i) (z i) (x j) (z j) = true := by
    intro i m
    induction m with
    | zero => intro j _ hj; exact absurd hj (Nat.not_lt_zero _)
    | succ m ih =>
      intro j ha hj
      have ha : (alQ x z i m && qmB (x i) (z i) (x m) (z m)) = true := ha
      rw [Bool.and_eq_true] at ha
      by_cases e : j = m
      · subst e
        exact ha.2
      · exact ih j ha.1 (by omega)
  intro i j hi1 hj1
  rcases Nat.lt_trichotomy i j with q | q | q
  · rw [← qmB_s]
    exact hal j j i (hi j hj1) q
  · subst q
    unfold qmB
    rw [Nat.and_comm (z i), decide_eq_true_eq]
    omega
  · exact hal i i j (hi i hi1) q
