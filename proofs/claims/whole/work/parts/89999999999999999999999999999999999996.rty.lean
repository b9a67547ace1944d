/-! ROUTE: link keeps the CHIP on both sides -/
theorem tbi_1 (m b : Nat) : m / 2 ^ b % 2 = if m.testBit b = true then 1 else 0 := by
  by_cases h : m.testBit b = true
  · rw [if_pos h]
    exact (tb_d m b).mp h
  · rw [if_neg h]
    have : m / 2 ^ b % 2 ≠ 1 := fun z => h ((tb_d m b).mpr z)
    omega
theorem tbi_2 {m b : Nat} {q : Bool} (h : m / 2 ^ b % 2 = if q = true then 1 else 0) : m.testBit b = q := by
  rw [tbi_1] at h
  cases q <;> cases hb : m.testBit b <;> rw [hb] at h <;> first | rfl | exact absurd h (by decide)
theorem lkb_n (v : Int32) (m x : Nat) : lkb v (nI x) (nI m) = nI (if v = 0 then m ^^^ (m &&& x) else m ||| x) := by
  unfold lkb
  by_cases h : v = 0
  · rw [if_pos h, if_pos h, nI_andn]
  · rw [if_neg h, if_neg h, nI_or]
theorem lkn_t (v : Int32) (m h b : Nat) : (if v = 0 then m ^^^ (m &&& 2 ^ h) else m ||| 2 ^ h).testBit b = if h = b then decide (v ≠ 0) else m.testBit b := by
  by_cases z : v = 0
  · rw [if_pos z, Nat.testBit_xor, Nat.testBit_and, Nat.testBit_two_pow]
    by_cases e : h = b
    · rw [if_pos e, decide_eq_true e, Bool.and_true, Bool.xor_self, decide_eq_false (fun w => w z)]
    · rw [if_neg e, decide_eq_false e, Bool.and_false, Bool.xor_false]
  · rw [if_neg z, Nat.testBit_or, Nat.testBit_two_pow]
    by_cases e : h = b
    · rw [if_pos e, decide_eq_true e, Bool.or_true, decide_eq_true z]
    · rw [if_neg e, decide_eq_false e, Bool.or_false]
theorem lkn_l {v : Int32} {m h k : Nat} (hm : m < 2 ^ k) (hh : h < k) : (if v = 0 then m ^^^ (m &&& 2 ^ h) else m ||| 2 ^ h) < 2 ^ k := by
  have h2 : 2 ^ h < 2 ^ k := Nat.pow_lt_pow_right (by decide) hh
  split
  · exact Nat.xor_lt_two_pow hm (Nat.and_lt_two_pow _ h2)
  · exact Nat.or_lt_two_pow hm h2
theorem lkm_n {g l h : Nat} (v : Int32) (hg : g < 2 ^ 15) (hl : l < 6) (hh : h < 6) : ∀ i, i ≤ 15 → ∃ g', g' < 2 ^ 15 ∧ lkm (nI g) l h v i = nI g' ∧ ∀ t, t < 15 → g'.testBit t = if t < i ∧ eT t / 6 = l ∧ eT t % 6 = h then decide (v ≠ 0) else g.testBit t
  | 0, _ => ⟨g, hg, rfl, fun t _ => by rw [if_neg (fun z => Nat.not_lt_zero _ z.1)]⟩
  | i + 1, hi => by
    obtain ⟨g', a, b, c⟩ := lkm_n v hg hl hh i (by omega)
    obtain ⟨x1, x2, x3, _⟩ := eT_f i (by omega)
    have e1 : (xp_a5.getD i 0 = nI l ∧ xp_a6.getD i 0 = nI h) ↔ (eT i / 6 = l ∧ eT i % 6 = h) := by
      rw [x1, x2, nI_eq (by omega) (by omega), nI_eq (by omega) (by omega)]
    have es : lkm (nI g) l h v (i + 1) = if xp_a5.getD i 0 = nI l ∧ xp_a6.getD i 0 = nI h then lkb v (nI (2 ^ i)) (lkm (nI g) l h v i) else lkm (nI g) l h v i := rfl
    by_cases q : eT i / 6 = l ∧ eT i % 6 = h
    · rw [if_pos (e1.mpr q), b, lkb_n] at es
      refine ⟨_, lkn_l a (show i < 15 by omega), es, fun t ht => ?_⟩
      rw [lkn_t]
      by_cases et : i = t
      · subst et
        rw [if_pos rfl, if_pos ⟨Nat.lt_succ_self _, q⟩]
      · rw [if_neg et, c t ht]
        by_cases w : t < i ∧ eT t / 6 = l ∧ eT t % 6 = h
        · rw [if_pos w, if_pos ⟨by omega, w.2⟩]
        · rw [if_neg w, if_neg (fun z => w ⟨by omega, z.2⟩)]
    · rw [if_neg (fun z => q (e1.mp z)), b] at es
      refine ⟨g', a, es, fun t ht => ?_⟩
      rw [c t ht]
      by_cases w : t < i ∧ eT t / 6 = l ∧ eT t % 6 = h
      · rw [if_pos w, if_pos ⟨by omega, w.2⟩]
      · rw [if_neg w, if_neg (fun z => w ⟨by
          apply Classical.byContradiction
          intro y
          have : t = i := by omega
          exact q (by rw [← this]; exact z.2), z.2⟩)]
/-- the LINKS with one set or taken away -/
def lkS (Lk : Nat → Nat → Bool) (a b : Nat) (v : Int32) (x y : Nat) : Bool := if (x = a ∧ y = b) ∨ (x = b ∧ y = a) then decide (v ≠ 0) else Lk x y
theorem lkS_c (Lk : Nat → Nat → Bool) (a b : Nat) (v : Int32) : lkS Lk a b v = lkS Lk b a v := by
  funext x y
  unfold lkS
  by_cases h : (x = a ∧ y = b) ∨ (x = b ∧ y = a)
  · rw [if_pos h, if_pos (Or.symm h)]
  · rw [if_neg h, if_neg (fun z => h (Or.symm z))]
theorem b01_v {v : Int32} (h : v = 0 ∨ v = 1) : b01 (decide (v ≠ 0)) = v := by
  rcases h with rfl | rfl <;> rfl
theorem chJ_1 {M : mm_M} {Lk : Nat → Nat → Bool} {l h : Nat} {v : Int32} (hlh : l < h) (hh : h < 6) (hJ : nrM M Lk ∧ lnK M Lk) : nrM (li_1 M l h v) (lkS Lk l h v) ∧ lnK (li_1 M l h v) (lkS Lk l h v) := by
  obtain ⟨⟨sy, hr⟩, g, g1, g2, g3⟩ := hJ
  have e72 : (li_1 M l h v).1 72 = upd (upd (M.1 72) l (lkb v (nI (2 ^ h)) (M.1 72 l))) h (lkb v (nI (2 ^ l)) (M.1 72 h)) := mm_i1 _ _ _
  have e70 : (li_1 M l h v).1 70 12 = lkm (M.1 70 12) l h v 15 := by
    unfold li_1
    rw [mm_ne _ _ _ _ (by decide)]
    exact li_g _
  refine ⟨⟨fun x y hx hy => ?_, fun x hx => ?_⟩, ?_⟩
  · unfold lkS
    by_cases q : (x = l ∧ y = h) ∨ (x = h ∧ y = l)
    · rw [if_pos q, if_pos (q.elim (fun ⟨a, b⟩ => Or.inr ⟨b, a⟩) (fun ⟨a, b⟩ => Or.inl ⟨b, a⟩))]
    · rw [if_neg q, if_neg (fun z => q (z.elim (fun ⟨a, b⟩ => Or.inr ⟨b, a⟩) (fun ⟨a, b⟩ => Or.inl ⟨b, a⟩))), sy x y hx hy]
  · rw [e72]
    obtain ⟨m, m1, m2, m3⟩ := hr x hx
    by_cases xh : x = h
    · subst xh
      rw [up_at, m2, lkb_n]
      refine ⟨_, lkn_l (k := 6) m1 (by omega), rfl, fun b hb => ?_⟩
      have e : (if l = b then decide (v ≠ 0) else m.testBit b) = lkS Lk l x v x b := by
        unfold lkS
        by_cases lb : l = b
        · rw [if_pos lb, if_pos (Or.inr ⟨rfl, lb.symm⟩)]
        · rw [if_neg lb, if_neg (fun w => w.elim (fun q => by omega) (fun q => lb q.2.symm)), tbi_2 (m3 b hb)]
      rw [tbi_1, lkn_t, e]
    · by_cases xl : x = l
      · subst xl
        rw [up_ne xh, up_at, m2, lkb_n]
        refine ⟨_, lkn_l (k := 6) m1 hh, rfl, fun b hb => ?_⟩
        have e : (if h = b then decide (v ≠ 0) else m.testBit b) = lkS Lk x h v x b := by
          unfold lkS
          by_cases lb : h = b
          · rw [if_pos lb, if_pos (Or.inl ⟨rfl, lb.symm⟩)]
          · rw [if_neg lb, if_neg (fun w => w.elim (fun q => lb q.2.symm) (fun q => xh q.1)), tbi_2 (m3 b hb)]
        rw [tbi_1, lkn_t, e]
      · rw [up_ne xh, up_ne xl]
        refine ⟨m, m1, m2, fun b hb => ?_⟩
        have e : lkS Lk l h v x b = Lk x b := if_neg (fun w => w.elim (fun q => xl q.1) (fun q => xh q.1))
        rw [e]
        exact m3 b hb
  · obtain ⟨g', a, b, c⟩ := lkm_n (g := g) (l := l) (h := h) v g1 (by omega) hh 15 (Nat.le_refl _)
    refine ⟨g', a, by rw [e70, g2]; exact b, fun t ht => ?_⟩
    obtain ⟨_, _, x3, x4⟩ := eT_f t ht
    have e : (if t < 15 ∧ eT t / 6 = l ∧ eT t % 6 = h then decide (v ≠ 0) else g.testBit t) = lkS Lk l h v (eT t / 6) (eT t % 6) := by
      unfold lkS
      by_cases q : eT t / 6 = l ∧ eT t % 6 = h
      · rw [if_pos ⟨ht, q⟩, if_pos (Or.inl q)]
      · rw [if_neg (fun z => q z.2), if_neg (fun w => w.elim (fun z => q z) (fun z => by omega)), tbi_2 (g3 t ht)]
    rw [tbi_1, c t ht, e]
theorem chJ_link {M : mm_M} {Lk : Nat → Nat → Bool} {a b : Nat} {v : Int32} (hv : v = 0 ∨ v = 1) (ha : a < 6) (hb : b < 6) (hab : a ≠ b) (hJ : chJ M Lk) : chJ (li_2 (li_1 M (min a b) (max a b) v) a b v) (lkS Lk a b v) := by
  obtain ⟨h1, h2, h3⟩ := hJ
  have key := chJ_1 (v := v) (show min a b < max a b by omega) (by omega) ⟨h1, h2⟩
  have es : lkS Lk (min a b) (max a b) v = lkS Lk a b v := by
    by_cases q : a < b
    · rw [Nat.min_eq_left (by omega), Nat.max_eq_right (by omega)]
    · rw [Nat.min_eq_right (by omega), Nat.max_eq_left (by omega), lkS_c]
  rw [es] at key
  have e : ∀ k, k = 70 ∨ k = 72 → (li_2 (li_1 M (min a b) (max a b) v) a b v).1 k = (li_1 M (min a b) (max a b) v).1 k := fun k hk => by
    unfold li_2 th0
    rw [mm_ne _ _ _ _ (by omega), mm_ne _ _ _ _ (by omega)]
  have e195 : (li_2 (li_1 M (min a b) (max a b) v) a b v).1 195 = upd (upd (M.1 195) (6 * a + b) v) (6 * b + a) v := by
    unfold li_2
    rw [mm_i1]
    unfold li_1 li_0
    rw [mm_ne _ _ _ _ (by decide), mm_ne _ _ _ _ (by decide)]
  refine ⟨?_, ?_, fun x y hx hy => ?_⟩
  · have := key.1
    unfold nrM at this ⊢
    rw [e 72 (by omega)]
    exact this
  · have := key.2
    unfold lnK at this ⊢
    rw [e 70 (by omega)]
    exact this
  · rw [e195]
    unfold lkS
    by_cases q2 : x = b ∧ y = a
    · rw [if_pos (Or.inr q2), q2.1, q2.2, up_at, b01_v hv]
    · rw [up_ne (by omega)]
      by_cases q1 : x = a ∧ y = b
      · rw [if_pos (Or.inl q1), q1.1, q1.2, up_at, b01_v hv]
      · rw [up_ne (by omega), if_neg (fun w => w.elim (fun z => q1 z) (fun z => q2 z))]
        exact h3 x y hx hy
/-- the CHIP, as total wants it -/
theorem chJ_iv {M : mm_M} {Lk : Nat → Nat → Bool} (h : chJ M Lk) : ch_iv M := by
  obtain ⟨_, ⟨g, g1, g2, g3⟩, h3⟩ := h
  refine ⟨g, g1, g2, fun i hi hl => ?_⟩
  obtain ⟨k1, k2⟩ := eT_s i hi hl
  have e := h3 (i / 6) (i % 6) (by omega) (by omega)
  rw [show 6 * (i / 6) + i % 6 = i by omega] at e
  have eg := g3 (kkN i) k1
  rw [k2] at eg
  rw [e]
  unfold bt
  rw [eg]
  cases Lk (i / 6) (i % 6) <;> rfl
