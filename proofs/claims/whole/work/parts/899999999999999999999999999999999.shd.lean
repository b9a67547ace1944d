/-! SHORTEST: a gate's number; the reference's throughTwo and step -/
def gC (x : bk_X) : Nat := if x.2.2.2.1 = 0 then (if x.1 = 8 then 12 else if x.1 = 6 then 10 + x.2.1 else 2 * x.1 + x.2.1) else 13 + 2 * x.1 + x.2.1
def dcY (r : Nat) : PZ := (r % 4, r / 4 % 4)
theorem lk_0 : ∀ k, k < 7 → (k ≤ 4 ∨ k = 6) → ∀ w, w < 2 → ∀ r, r < 32 → fk0 k w 0 (dcY r) = dcY (szR (if k = 6 then 10 + w else 2 * k + w) r) ∧ gI0 k w (dcY r) (nI (r / 16)) = nI (szR (if k = 6 then 10 + w else 2 * k + w) r / 16) := by decide +kernel
theorem lk_8 : ∀ w, w < 2 → ∀ r, r < 32 → fk0 8 w (1 - w) (dcY r) = dcY (szR 12 r) ∧ gI0 8 w (dcY r) (nI (r / 16)) = nI (szR 12 r / 16) := by decide +kernel
theorem lk_1 : ∀ k, k < 3 → ∀ w, w < 2 → ∀ r, r < 32 → fk1 k (1 - w) w (dcY r) = dcY (szR (13 + 2 * k + w) r) ∧ gI1 k (1 - w) w (dcY r) (nI (r / 16)) = nI (szR (13 + 2 * k + w) r / 16) := by decide +kernel
theorem lk_cc : ∀ c, c < 4 → c ≠ 0 → ∀ w, w < 2 → c.testBit w = false → lw c = 1 - w := by decide
theorem gC_T {x : bk_X} {r : Nat} (ho : ogd 2 x) (hp : pln x) (hr : r < 32) : fT x (dcY r) = dcY (szR (gC x) r) ∧ gT x (dcY r) (nI (r / 16)) = nI (szR (gC x) r / 16) := by
  obtain ⟨⟨k1, w2, _, c4, _⟩, ht, h8⟩ := ho
  unfold fT gT gC
  rcases hp with ⟨h0, hk⟩ | ⟨h0, hk, _⟩
  · rw [if_pos h0, if_pos h0, if_pos h0]
    by_cases e8 : x.1 = 8
    · obtain ⟨v2, ne, _⟩ := h8 e8
      rw [if_pos e8, e8]
      rw [show x.2.2.1 = 1 - x.2.1 by omega]
      exact lk_8 x.2.1 w2 r hr
    · rw [if_neg e8]
      have e0 : fk0 x.1 x.2.1 x.2.2.1 (dcY r) = fk0 x.1 x.2.1 0 (dcY r) := by
        unfold fk0
        rw [if_neg e8, if_neg e8]
      rw [e0]
      exact lk_0 x.1 (by omega) (by omega) x.2.1 w2 r hr
  · rw [if_neg h0, if_neg h0, if_neg h0, lk_cc x.2.2.2.1 c4 h0 x.2.1 w2 ht]
    exact lk_1 x.1 (by omega) x.2.1 w2 r hr
theorem gC_19 {x : bk_X} (ho : ogd 2 x) (hp : pln x) : gC x < 19 := by
  have w2 := ho.1.2.1
  unfold gC
  rcases hp with ⟨h0, hk⟩ | ⟨h0, hk, _⟩
  · rw [if_pos h0]
    split
    · decide
    · split <;> omega
  · rw [if_neg h0]
    omega
/-- a key's number, of its first rows -/
def kV (F : Nat → Nat) : Nat → Nat
  | 0 => 0
  | n + 1 => kV F n + 2 ^ (5 * n) * F n
theorem kV_l {F : Nat → Nat} (h : ∀ j, F j < 32) : ∀ n, kV F n < 2 ^ (5 * n)
  | 0 => Nat.one_pos
  | n + 1 => by
    have := kV_l h n
    have h1 := h n
    have e : 2 ^ (5 * (n + 1)) = 2 ^ (5 * n) * 32 := by rw [Nat.mul_add, Nat.pow_add]
    rw [e]
    show kV F n + 2 ^ (5 * n) * F n < _
    have : 2 ^ (5 * n) * F n + 2 ^ (5 * n) ≤ 2 ^ (5 * n) * 32 := by
      rw [← Nat.mul_succ]
      exact Nat.mul_le_mul_left _ h1
    omega
theorem kV_e {F : Nat → Nat} (h : ∀ j, F j < 32) {i : Nat} : ∀ n, i < n → kV F n / 2 ^ (5 * i) % 32 = F i
  | 0, hi => by omega
  | n + 1, hi => by
    by_cases e : i = n
    · subst e
      show (kV F i + 2 ^ (5 * i) * F i) / 2 ^ (5 * i) % 32 = _
      rw [Nat.add_mul_div_left _ _ (Nat.two_pow_pos _), Nat.div_eq_of_lt (kV_l h i), Nat.zero_add]
      exact Nat.mod_eq_of_lt (h i)
    · have ih := kV_e h n (i := i) (by omega)
      have e2 : 2 ^ (5 * n) = 2 ^ (5 * i) * (32 * 2 ^ (5 * (n - i - 1))) := by
        rw [show 32 = 2 ^ 5 from rfl, ← Nat.pow_add, ← Nat.pow_add]
        congr 1
        omega
      show (kV F n + 2 ^ (5 * n) * F n) / 2 ^ (5 * i) % 32 = _
      rw [e2, Nat.mul_assoc, Nat.add_mul_div_left _ _ (Nat.two_pow_pos _), Nat.mul_assoc, Nat.add_mul_mod_self_left]
      exact ih
def rwK (k : K4) (i : Nat) : Nat := if i = 0 then k.1 else if i = 1 then k.2.1 else if i = 2 then k.2.2.1 else if i = 3 then k.2.2.2 else 0
def kK (k : K4) : Nat := kV (rwK k) 4
theorem rwK_l {k : K4} (h : k4 k) (j : Nat) : rwK k j < 32 := by
  unfold rwK
  split
  · exact h.1
  · split
    · exact h.2.1
    · split
      · exact h.2.2.1
      · split
        · exact h.2.2.2
        · decide
theorem rwK_P (g : Nat) (k : K4) {i : Nat} (hi : i < 4) : rwK (szP g k) i = szR g (rwK k i) := by
  rcases (by omega : i = 0 ∨ i = 1 ∨ i = 2 ∨ i = 3) with rfl | rfl | rfl | rfl <;> rfl
theorem kV_c {F G : Nat → Nat} : ∀ n, (∀ j, j < n → F j = G j) → kV F n = kV G n
  | 0, _ => rfl
  | n + 1, h => by
    show kV F n + 2 ^ (5 * n) * F n = kV G n + 2 ^ (5 * n) * G n
    rw [kV_c n (fun j hj => h j (by omega)), h n (by omega)]
/-- what going through may change -/
def g45 (M N : mm_M) : Prop := (∀ k, k ≠ 108 → N.1 k = M.1 k) ∧ N.2 = M.2 ∧ ∀ y, y ≠ 45 → y ≠ 46 → y ≠ 47 → N.1 108 y = M.1 108 y
theorem g45_r (M : mm_M) : g45 M M := ⟨fun _ _ => rfl, rfl, fun _ _ _ _ => rfl⟩
theorem g45_t {M N K : mm_M} (h : g45 M N) (g : g45 N K) : g45 M K := ⟨fun k a => (g.1 k a).trans (h.1 k a), g.2.1.trans h.2.1, fun y a b c => (g.2.2 y a b c).trans (h.2.2 y a b c)⟩
theorem g45_g (M : mm_M) (y : PZ) (s : Int32) : g45 M (rG M y s) := ⟨fun k a => mm_ne _ _ _ _ a, rfl, fun j a b c => by
  rw [rG_r]
  unfold g3
  rw [if_neg a, if_neg b, if_neg c]⟩
theorem g3_u (g : Nat → Int32) (a b : Nat) (s : Int32) : upd (upd (upd g 45 (nI a)) 46 (nI b)) 47 s = g3 g (a, b) s := by
  funext j
  unfold upd g3
  by_cases h7 : j = 47
  · subst h7
    rfl
  · by_cases h6 : j = 46
    · subst h6
      rfl
    · rw [if_neg h7, if_neg h6]
      by_cases h5 : j = 45
      · rw [if_pos h5, if_pos h5]
      · rw [if_neg h5, if_neg h5, if_neg h6, if_neg h7]
theorem r5_p : ∀ r, r < 32 → nI (dcY r).1 ||| nI (dcY r).2 <<< ((2 : Int32) &&& 31) ||| nI (r / 16) <<< ((4 : Int32) &&& 31) = nI r := by decide +kernel
theorem r5_q : ∀ r, r < 32 → nI r &&& 3 = nI (dcY r).1 ∧ nI r >>> ((2 : Int32) &&& 31) &&& 3 = nI (dcY r).2 ∧ nI r >>> ((4 : Int32) &&& 31) = nI (r / 16) := by decide +kernel
theorem m31 (n : Nat) : nI n &&& 31 = nI (n % 32) := by
  rw [show (31 : Int32) = nI 31 from rfl, nI_and]
  congr 1
  exact Nat.and_two_pow_sub_one_eq_mod n 5
section SHD
variable {d : Nat} {M : mm_M} {x : bk_X} {k : K4}
set_option maxRecDepth 100000 in
theorem th_l {P : am_Q} {X : am_X} (hX : am_K (d + 3) false nm_X12_throughTwo P X) (ho : ogd 2 x) (hp : pln x) (hk : k4 k) (hP : ∀ N, g45 M N → P (.inl (some (aI (nI (kK (szP (gC x) k)))))) N) : ∀ (m i : Nat) (N : mm_M) (v8 : Option am_V), i + m = 4 → g45 M N → X 6 [some (aR 108), some (aI (nI (kK k))), some (aI (nI x.1)), some (aI (nI x.2.1)), some (aI (nI x.2.2.1)), some (aI (nI x.2.2.2.1)), some (aI (nI (kV (rwK (szP (gC x) k)) i))), some (aI (nI i)), v8] [] N := by
  intro m
  induction m with
  | zero =>
    intro i N v8 hi hF
    obtain rfl : i = 4 := by omega
    refine am_run hX 3 _ _ _ _ ?_
    conv => whnf
    refine ⟨fun _ => ?_, fun z => absurd (by decide) z⟩
    refine am_run hX 2 _ _ _ _ ?_
    conv => whnf
    exact ⟨trivial, hP N hF⟩
  | succ m ih =>
    intro i N v8 hi hF
    have i4 : i < 4 := by omega
    have hr := rwK_l hk i
    have hlt : kK k < 2 ^ 20 := kV_l (rwK_l hk) 4
    have e5 : (5 : Int32) * nI i = nI (5 * i) := by rw [show (5 : Int32) = nI 5 from rfl, nI_mul]
    obtain ⟨q1, q2, q3⟩ := r5_q (rwK k i) hr
    obtain ⟨t1, t2⟩ := gC_T ho hp hr
    have key := ct_sgT (d := d) (M := N) (y := dcY (rwK k i)) (s := nI (rwK k i / 16)) (by decide) ho hp ⟨by show rwK k i % 4 < 256; omega, by show rwK k i / 4 % 4 < 256; omega⟩
    rw [t1, t2] at key
    refine am_run hX 3 _ _ _ _ ?_
    conv => whnf
    refine ⟨fun z => absurd z (nI_ge (a := i) (b := 4) i4 (by decide)), fun _ => ?_⟩
    refine am_run hX 31 _ _ _ _ ?_
    conv => whnf
    rw [e5, nI_sh (by omega) (5 * i) (by omega), m31, show kK k / 2 ^ (5 * i) % 32 = rwK k i from kV_e (rwK_l hk) 4 i4]
    simp only [mm_i1, mm_ii]
    rw [q1, q2, q3, g3_u]
    refine am_c0 key ?_
    refine am_run hX 21 _ _ _ _ ?_
    conv => whnf
    have hr' : szR (gC x) (rwK k i) < 32 := sz_lt _ _
    have hl := kV_l (rwK_l (szP_k (gC x) k)) i
    have p20 : szR (gC x) (rwK k i) * 2 ^ (5 * i) < 2 ^ 32 := by
      have a1 : 2 ^ (5 * i) ≤ 2 ^ 15 := Nat.pow_le_pow_right (by decide) (by omega)
      have a2 : szR (gC x) (rwK k i) * 2 ^ (5 * i) ≤ 31 * 2 ^ 15 := Nat.mul_le_mul (by omega) a1
      omega
    simp only [rG_r]
    rw [show g3 (N.1 108) (dcY (szR (gC x) (rwK k i))) (nI (szR (gC x) (rwK k i) / 16)) 45 = nI (dcY (szR (gC x) (rwK k i))).1 from rfl, show g3 (N.1 108) (dcY (szR (gC x) (rwK k i))) (nI (szR (gC x) (rwK k i) / 16)) 46 = nI (dcY (szR (gC x) (rwK k i))).2 from rfl, show g3 (N.1 108) (dcY (szR (gC x) (rwK k i))) (nI (szR (gC x) (rwK k i) / 16)) 47 = nI (szR (gC x) (rwK k i) / 16) from rfl, r5_p _ hr', e5, nI_ors (by omega) hl p20, nI_1, ← rwK_P (gC x) k i4]
    exact ih (i + 1) _ _ (by omega) (g45_t hF (g45_g _ _ _))
set_option maxRecDepth 100000 in
theorem ct_thr (ho : ogd 2 x) (hp : pln x) (hk : k4 k) : am_M (d + 4) false nm_X12_throughTwo [aR 108, aI (nI (kK k)), aI (nI x.1), aI (nI x.2.1), aI (nI x.2.2.1), aI (nI x.2.2.2.1)] M (fun r N => r = .inl (some (aI (nI (kK (szP (gC x) k))))) ∧ g45 M N) := by
  refine ⟨rfl, rfl, rfl, fun X hX => am_run hX 4 _ _ _ _ ?_⟩
  conv => whnf
  exact th_l (d := d) (M := M) hX ho hp hk (fun N h => ⟨rfl, h⟩) 4 0 M none (by omega) (g45_r M)
end SHD
