/-! code: SYNDROMES and what is left, of halves and of the whole; what takeOver leaves is the class's CODE -/
theorem pcn_x : ∀ k a b, pcn k (a ^^^ b) % 2 = (pcn k a + pcn k b) % 2
  | 0, _, _ => rfl
  | k + 1, a, b => by
    have ih := pcn_x k (a / 2) (b / 2)
    have e1 : (a ^^^ b) / 2 = a / 2 ^^^ b / 2 := by
      have := Nat.xor_div_two_pow (a := a) (b := b) (n := 1)
      rw [Nat.pow_one] at this
      exact this
    have e2 := bit_x a b 0
    rw [Nat.pow_zero, Nat.div_one, Nat.div_one, Nat.div_one] at e2
    show ((a ^^^ b) % 2 + pcn k ((a ^^^ b) / 2)) % 2 = ((a % 2 + pcn k (a / 2)) + (b % 2 + pcn k (b / 2))) % 2
    rw [e1]
    omega
theorem pc_xp (a b : Nat) : pc (a ^^^ b) % 2 = (pc a + pc b) % 2 := pcn_x 32 a b
theorem qmB_x (a b a' b' u v : Nat) : qmB (a ^^^ a') (b ^^^ b') u v = (qmB a b u v == qmB a' b' u v) := by
  have h1 := pc_xp (a &&& v) (a' &&& v)
  have h2 := pc_xp (b &&& u) (b' &&& u)
  rw [← Nat.and_xor_distrib_right] at h1 h2
  unfold qmB
  rcases Nat.mod_two_eq_zero_or_one (pc (a &&& v) + pc (b &&& u)) with p | p <;> rcases Nat.mod_two_eq_zero_or_one (pc (a' &&& v) + pc (b' &&& u)) with q | q
  · have e : (pc ((a ^^^ a') &&& v) + pc ((b ^^^ b') &&& u)) % 2 = 0 := by omega
    simp [p, q, e]
  · have e : (pc ((a ^^^ a') &&& v) + pc ((b ^^^ b') &&& u)) % 2 = 1 := by omega
    simp [p, q, e]
  · have e : (pc ((a ^^^ a') &&& v) + pc ((b ^^^ b') &&& u)) % 2 = 1 := by omega
    simp [p, q, e]
  · have e : (pc ((a ^^^ a') &&& v) + pc ((b ^^^ b') &&& u)) % 2 = 0 := by omega
    simp [p, q, e]
theorem xor_p {A B p q j : Nat} (hA : A < 2 ^ j) (hB : B < 2 ^ j) : (A + p * 2 ^ j) ^^^ (B + q * 2 ^ j) = (A ^^^ B) + (p ^^^ q) * 2 ^ j := by
  have hp := Nat.two_pow_pos j
  have m1 : (A + p * 2 ^ j) % 2 ^ j = A := by rw [Nat.add_mul_mod_self_right, Nat.mod_eq_of_lt hA]
  have m2 : (A + p * 2 ^ j) / 2 ^ j = p := by rw [Nat.add_mul_div_right _ _ hp, Nat.div_eq_of_lt hA, Nat.zero_add]
  have m3 : (B + q * 2 ^ j) % 2 ^ j = B := by rw [Nat.add_mul_mod_self_right, Nat.mod_eq_of_lt hB]
  have m4 : (B + q * 2 ^ j) / 2 ^ j = q := by rw [Nat.add_mul_div_right _ _ hp, Nat.div_eq_of_lt hB, Nat.zero_add]
  rw [← Nat.mod_add_div ((A + p * 2 ^ j) ^^^ (B + q * 2 ^ j)) (2 ^ j), Nat.xor_mod_two_pow, Nat.xor_div_two_pow, m1, m2, m3, m4, Nat.mul_comm (2 ^ j)]
theorem fsY_x (x z : Nat → Nat) (a b a' b' : Nat) : ∀ s, fsY x z (a ^^^ a') (b ^^^ b') s = fsY x z a b s ^^^ fsY x z a' b' s
  | 0 => by show 0 = (0 : Nat) ^^^ 0; rw [Nat.xor_self]
  | s + 1 => by
    have ih := fsY_x x z a b a' b' s
    have h1 := fsY_l x z a b s
    have h2 := fsY_l x z a' b' s
    show fsY x z (a ^^^ a') (b ^^^ b') s + (if qmB (a ^^^ a') (b ^^^ b') (x s) (z s) = true then 0 else 2 ^ s) = (fsY x z a b s + (if qmB a b (x s) (z s) = true then 0 else 2 ^ s)) ^^^ (fsY x z a' b' s + (if qmB a' b' (x s) (z s) = true then 0 else 2 ^ s))
    have e : ∀ c : Bool, (if c = true then 0 else 2 ^ s) = (if c = true then 0 else 1) * 2 ^ s := fun c => by cases c <;> simp
    rw [e, e, e, xor_p h1 h2, ih, qmB_x]
    cases qmB a b (x s) (z s) <;> cases qmB a' b' (x s) (z s) <;> rfl
/-- a NUMBER's SYNDROME and what is left of it -/
def cdSy (x z : Nat → Nat) (n s v : Nat) : Nat := fsY x z (vcW cpX n v) (vcW cpZ n v) s
def cdRe (x z : Nat → Nat) (n s v : Nat) : Nat := rdV (rdT (fun j => x j + 256 * z j) s) (vcW cpX n v + 256 * vcW cpZ n v) s
theorem tb_sy (x z : Nat → Nat) (n s v : Nat) : tbS x z n s (v % 256) 0 ^^^ tbS x z n s (v / 256) 4 = cdSy x z n s v := (fsY_x x z _ _ _ _ s).symm
theorem tb_re (x z : Nat → Nat) {n s v : Nat} (hn : n ≤ 8) : tbR x z n s (v % 256) 0 ^^^ tbR x z n s (v / 256) 4 = cdRe x z n s v := by
  unfold tbR cdRe vcW
  rw [← rdV_x, xor_256 (vcN_l cpX_1 hn 4) (vcN_l cpX_1 hn 4)]
theorem to_cd {K N : mm_M} {x z : Nat → Nat} {n s : Nat} (h : toI K N x z n s 512) (n1 : 1 ≤ n) (n8 : n ≤ 8) (s8 : s ≤ 8) : cdT N n s (cdSy x z n s) (fun v => nI (cdRe x z n s v)) := by
  obtain ⟨hF, h10, h11, h17, h47, h51⟩ := h
  refine ⟨h10, h11, n1, n8, s8, fun v hv => ?_⟩
  have hv8 : v < 65536 := by
    have : 4 ^ n ≤ 4 ^ 8 := Nat.pow_le_pow_right (by decide) n8
    have e : (4 : Nat) ^ 8 = 65536 := rfl
    omega
  have a1 := h51 (v % 256) (by omega)
  have a2 := h51 (256 + v / 256) (by omega)
  rw [show v % 256 % 256 = v % 256 by omega, show v % 256 / 256 = 0 by omega, Nat.mul_zero] at a1
  rw [show (256 + v / 256) % 256 = v / 256 by omega, show (256 + v / 256) / 256 = 1 by omega, Nat.mul_one] at a2
  refine ⟨?_, fsY_l _ _ _ _ s, ?_⟩
  · rw [a1.1, a2.1, nI_xor, tb_sy]
  · rw [a1.2, a2.2, nI_xor, tb_re x z n8]
/-- the reference's SYNDROME is this one -/
theorem syR_f {n v : Nat} {x z : Nat → Nat} (hn : n ≤ 8) : ∀ s, (∀ j, j < s → x j < 256 ∧ z j < 256) → syR n v x z s = cdSy x z n s v
  | 0, _ => rfl
  | s + 1, h => by
    have ih := syR_f (v := v) hn s (fun j hj => h j (by omega))
    have hx := vcW_l (n := n) (x := v) cpX_1 hn
    have hz := vcW_l (n := n) (x := v) cpZ_1 hn
    obtain ⟨g1, g2⟩ := h s (by omega)
    have hl : cdSy x z n s v < 2 ^ s := fsY_l _ _ _ _ s
    have e1 : kyR (pfR n v n) = 256 * vcW cpX n v + vcW cpZ n v := by
      rw [pfR_v hn]
      unfold kyR
      omega
    show syR n v x z s ||| iteC (cm (kyR (pfR n v n)) (256 * x s + z s)) 0 (2 ^ s) = cdSy x z n s v + (if qmB (vcW cpX n v) (vcW cpZ n v) (x s) (z s) = true then 0 else 2 ^ s)
    have hq := cm_q (a := vcW cpX n v) (b := vcW cpZ n v) (u := x s) (v := z s) hz hx g2 g1
    rw [ih, e1]
    by_cases c : cm (256 * vcW cpX n v + vcW cpZ n v) (256 * x s + z s)
    · rw [iteC_t c, if_pos (hq.mp c), Nat.or_zero, Nat.add_zero]
    · rw [iteC_f c, if_neg (fun y => c (hq.mpr y))]
      have e2 := cp_add (a := 1) hl
      rw [Nat.one_mul] at e2
      exact e2
