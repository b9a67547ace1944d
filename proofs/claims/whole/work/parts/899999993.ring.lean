/-! ROOTS: products, the conjugate, turns by w, the sum of the squares -/
def mu (x y : R4) : R4 := (x.1 * y.1 - x.2.1 * y.2.2.2 - x.2.2.1 * y.2.2.1 - x.2.2.2 * y.2.1, x.1 * y.2.1 + x.2.1 * y.1 - x.2.2.1 * y.2.2.2 - x.2.2.2 * y.2.2.1, x.1 * y.2.2.1 + x.2.1 * y.2.1 + x.2.2.1 * y.1 - x.2.2.2 * y.2.2.2, x.1 * y.2.2.2 + x.2.1 * y.2.2.1 + x.2.2.1 * y.2.1 + x.2.2.2 * y.1)
def cj (x : R4) : R4 := (x.1, -x.2.2.2, -x.2.2.1, -x.2.1)
def t8 (x : R4) : R4 := (-x.2.2.2, x.1, x.2.1, x.2.2.1)
def t8n : Nat → R4 → R4
  | 0, x => x
  | n + 1, x => t8 (t8n n x)
def nrm (x : R4) : Int := x.1 * x.1 + x.2.1 * x.2.1 + x.2.2.1 * x.2.2.1 + x.2.2.2 * x.2.2.2
def r0 : R4 := (0, 0, 0, 0)
theorem mu_c (x y : R4) : mu x y = mu y x := by
  obtain ⟨a, b, c, d⟩ := x
  obtain ⟨e, f, g, h⟩ := y
  simp only [mu, Prod.mk.injEq]
  refine ⟨?_, ?_, ?_, ?_⟩ <;> grind
theorem mu_rr (x y : R4) : mu (rr x) y = rr (mu x y) := by
  obtain ⟨a, b, c, d⟩ := x
  obtain ⟨e, f, g, h⟩ := y
  simp only [mu, rr, Prod.mk.injEq]
  refine ⟨?_, ?_, ?_, ?_⟩ <;> grind
theorem mu_t8 (x y : R4) : mu (t8 x) y = t8 (mu x y) := by
  obtain ⟨a, b, c, d⟩ := x
  obtain ⟨e, f, g, h⟩ := y
  simp only [mu, t8, Prod.mk.injEq]
  refine ⟨?_, ?_, ?_, ?_⟩ <;> grind
theorem mu_cj (x y : R4) : cj (mu x y) = mu (cj x) (cj y) := by
  obtain ⟨a, b, c, d⟩ := x
  obtain ⟨e, f, g, h⟩ := y
  simp only [mu, cj, Prod.mk.injEq]
  refine ⟨?_, ?_, ?_, ?_⟩ <;> grind
theorem cj_cj (x : R4) : cj (cj x) = x := by
  obtain ⟨a, b, c, d⟩ := x
  simp only [cj, Prod.mk.injEq]
  refine ⟨?_, ?_, ?_, ?_⟩ <;> first | trivial | omega
theorem cj_ra (x y : R4) : cj (ra x y) = ra (cj x) (cj y) := by
  obtain ⟨a, b, c, d⟩ := x
  obtain ⟨e, f, g, h⟩ := y
  simp only [cj, ra, Prod.mk.injEq]
  refine ⟨?_, ?_, ?_, ?_⟩ <;> first | trivial | omega
theorem t8_ra (x y : R4) : t8 (ra x y) = ra (t8 x) (t8 y) := by
  obtain ⟨a, b, c, d⟩ := x
  obtain ⟨e, f, g, h⟩ := y
  simp only [t8, ra, Prod.mk.injEq]
  refine ⟨?_, ?_⟩ <;> first | trivial | omega
theorem cj_rr (x : R4) : cj (rr x) = rr (cj x) := by
  obtain ⟨a, b, c, d⟩ := x
  simp only [cj, rr, Prod.mk.injEq]
  omega
theorem t8_rr (x : R4) : t8 (rr x) = rr (t8 x) := by
  obtain ⟨a, b, c, d⟩ := x
  simp only [t8, rr, Prod.mk.injEq]
  refine ⟨?_, ?_, ?_, ?_⟩ <;> first | trivial | omega
theorem t8_8 (x : R4) : t8n 8 x = x := by
  obtain ⟨a, b, c, d⟩ := x
  simp only [t8n, t8, Prod.mk.injEq]
  omega
/-- the conjugate of a turn turns back -/
theorem cj_t8 (x : R4) : cj (t8 x) = t8n 7 (cj x) := by
  obtain ⟨a, b, c, d⟩ := x
  simp only [cj, t8n, t8, Prod.mk.injEq]
  refine ⟨?_, ?_, ?_, ?_⟩ <;> first | trivial | omega
theorem t8n_a (x : R4) : ∀ m n, t8n (m + n) x = t8n m (t8n n x)
  | 0, n => by rw [Nat.zero_add]; rfl
  | m + 1, n => by
    rw [show m + 1 + n = m + n + 1 by omega]
    show t8 (t8n (m + n) x) = t8 (t8n m (t8n n x))
    rw [t8n_a x m n]
theorem t8n_8 (x : R4) : ∀ m, t8n (8 * m) x = x
  | 0 => rfl
  | m + 1 => by
    rw [show 8 * (m + 1) = 8 + 8 * m by omega, t8n_a, t8n_8 x m, t8_8]
theorem t8n_m (x : R4) (n : Nat) : t8n n x = t8n (n % 8) x := by
  conv => lhs; rw [show n = n % 8 + 8 * (n / 8) by omega, t8n_a, t8n_8]
theorem t8n_ra (x y : R4) : ∀ n, t8n n (ra x y) = ra (t8n n x) (t8n n y)
  | 0 => rfl
  | n + 1 => by
    show t8 (t8n n (ra x y)) = ra (t8 (t8n n x)) (t8 (t8n n y))
    rw [t8n_ra x y n, t8_ra]
theorem t8n_rr (x : R4) : ∀ n, t8n n (rr x) = rr (t8n n x)
  | 0 => rfl
  | n + 1 => by
    show t8 (t8n n (rr x)) = rr (t8 (t8n n x))
    rw [t8n_rr x n, t8_rr]
theorem cj_t8n (x : R4) : ∀ n, cj (t8n n x) = t8n (7 * n) (cj x)
  | 0 => rfl
  | n + 1 => by
    show cj (t8 (t8n n x)) = _
    rw [cj_t8, cj_t8n x n, ← t8n_a, show 7 + 7 * n = 7 * (n + 1) by omega]
theorem mu_t8n (x y : R4) : ∀ n, mu (t8n n x) y = t8n n (mu x y)
  | 0 => rfl
  | n + 1 => by
    show mu (t8 (t8n n x)) y = t8 (t8n n (mu x y))
    rw [mu_t8, mu_t8n x y n]
theorem mu_rn (x y : R4) : ∀ m, mu (rn m x) y = rn m (mu x y)
  | 0 => rfl
  | m + 1 => by
    show mu (rr (rn m x)) y = rr (rn m (mu x y))
    rw [mu_rr, mu_rn x y m]
theorem mu_rn2 (x y : R4) (m n : Nat) : mu (rn m x) (rn n y) = rn (m + n) (mu x y) := by
  rw [mu_rn, mu_c x, mu_rn, mu_c y, rn_a]
theorem cj_rn (x : R4) : ∀ m, cj (rn m x) = rn m (cj x)
  | 0 => rfl
  | m + 1 => by
    show cj (rr (rn m x)) = rr (rn m (cj x))
    rw [cj_rr, cj_rn x m]
theorem t8_rn (x : R4) : ∀ m, t8 (rn m x) = rn m (t8 x)
  | 0 => rfl
  | m + 1 => by
    show t8 (rr (rn m x)) = rr (rn m (t8 x))
    rw [t8_rr, t8_rn x m]
theorem t8n_rn (x : R4) (m : Nat) : ∀ n, t8n n (rn m x) = rn m (t8n n x)
  | 0 => rfl
  | n + 1 => by
    show t8 (t8n n (rn m x)) = rn m (t8 (t8n n x))
    rw [t8n_rn x m n, t8_rn]
theorem ra_rn (x y : R4) : ∀ m, ra (rn m x) (rn m y) = rn m (ra x y)
  | 0 => rfl
  | m + 1 => by
    show ra (rr (rn m x)) (rr (rn m y)) = rr (rn m (ra x y))
    rw [← rr_ra, ra_rn x y m]
theorem bd_rn {x : R4} : ∀ m, bd (rn m x) → bd x
  | 0, h => h
  | m + 1, h => bd_rn m (by
    have h : bd (rr (rn m x)) := h
    rw [← hv_rr (rn m x)]
    exact bd_hv h)
/-- X over r^K is told as y over r^l -/
def vr (K : Nat) (X : R4) (l : Nat) (y : R4) : Prop := l ≤ K ∧ rn (K - l) y = X
theorem vr_red (K : Nat) (X : R4) : vr K X (red K X).2 (red K X).1 := red_v K X
theorem vr_u {K l : Nat} {X y : R4} (h : vr K X l y) : red l y = red K X := by
  refine red_u ?_
  rw [← h.2, ← rn_a]
  congr 1
  have := h.1
  omega
theorem vr_bd {K l : Nat} {X y : R4} (h : vr K X l y) (hb : bd X) : bd y := bd_rn (K - l) (by rw [h.2]; exact hb)
theorem vr_cj {K l : Nat} {X y : R4} (h : vr K X l y) : vr K (cj X) l (cj y) := ⟨h.1, by rw [← cj_rn, h.2]⟩
theorem vr_t8n {K l : Nat} {X y : R4} (n : Nat) (h : vr K X l y) : vr K (t8n n X) l (t8n n y) := ⟨h.1, by rw [← t8n_rn, h.2]⟩
theorem vr_mu {K L k l : Nat} {X Y x y : R4} (h : vr K X k x) (h' : vr L Y l y) : vr (K + L) (mu X Y) (k + l) (mu x y) := by
  have h1 := h.1
  have h2 := h'.1
  refine ⟨by omega, ?_⟩
  rw [← h.2, ← h'.2, mu_rn2]
  congr 1
  omega
/-- the sum of two, over the greater power -/
def rsum (k : Nat) (x : R4) (l : Nat) (y : R4) : R4 := ra (rn (max k l - k) x) (rn (max k l - l) y)
theorem vr_ra {K k l : Nat} {X Y x y : R4} (h : vr K X k x) (h' : vr K Y l y) : vr K (ra X Y) (max k l) (rsum k x l y) := by
  have h1 := h.1
  have h2 := h'.1
  refine ⟨by omega, ?_⟩
  unfold rsum
  rw [← ra_rn, ← rn_a, ← rn_a, show K - max k l + (max k l - k) = K - k by omega, show K - max k l + (max k l - l) = K - l by omega, h.2, h'.2]
/-! the sum of squares -/
theorem sq0 (a : Int) : 0 ≤ a * a := by
  rcases Int.le_total 0 a with h | h
  · exact Int.mul_nonneg h h
  · exact Int.mul_nonneg_of_nonpos_of_nonpos h h
theorem sqs (a b : Int) : 2 * (a * b) ≤ a * a + b * b := by
  have h := sq0 (a - b)
  have e : (a - b) * (a - b) = a * a - 2 * (a * b) + b * b := by grind
  rw [e] at h
  omega
theorem sqn (a b : Int) : -(2 * (a * b)) ≤ a * a + b * b := by
  have h := sq0 (a + b)
  have e : (a + b) * (a + b) = a * a + 2 * (a * b) + b * b := by grind
  rw [e] at h
  omega
theorem nrm0 (x : R4) : 0 ≤ nrm x := by
  have h1 := sq0 x.1
  have h2 := sq0 x.2.1
  have h3 := sq0 x.2.2.1
  have h4 := sq0 x.2.2.2
  unfold nrm
  omega
theorem nrm_cj (x : R4) : nrm (cj x) = nrm x := by
  obtain ⟨a, b, c, d⟩ := x
  simp only [nrm, cj]
  grind
theorem nrm_t8 (x : R4) : nrm (t8 x) = nrm x := by
  obtain ⟨a, b, c, d⟩ := x
  simp only [nrm, t8]
  grind
theorem nrm_t8n (x : R4) : ∀ n, nrm (t8n n x) = nrm x
  | 0 => rfl
  | n + 1 => by
    show nrm (t8 (t8n n x)) = _
    rw [nrm_t8, nrm_t8n x n]
theorem nrm_rr (x : R4) : nrm (rr x) = 2 * nrm x := by
  obtain ⟨a, b, c, d⟩ := x
  simp only [nrm, rr]
  grind
/-- every part's double stays within b -/
def lm (b : Int) (x : R4) : Prop := (-b ≤ 2 * x.1 ∧ 2 * x.1 ≤ b) ∧ (-b ≤ 2 * x.2.1 ∧ 2 * x.2.1 ≤ b) ∧ (-b ≤ 2 * x.2.2.1 ∧ 2 * x.2.2.1 ≤ b) ∧ (-b ≤ 2 * x.2.2.2 ∧ 2 * x.2.2.2 ≤ b)
theorem lm_mu (x y : R4) : lm (nrm x + nrm y) (mu x y) := by
  obtain ⟨a, b, c, d⟩ := x
  obtain ⟨e, f, g, h⟩ := y
  have a1 := sqs a e
  have a2 := sqs a f
  have a3 := sqs a g
  have a4 := sqs a h
  have b1 := sqs b e
  have b2 := sqs b f
  have b3 := sqs b g
  have b4 := sqs b h
  have c1 := sqs c e
  have c2 := sqs c f
  have c3 := sqs c g
  have c4 := sqs c h
  have d1 := sqs d e
  have d2 := sqs d f
  have d3 := sqs d g
  have d4 := sqs d h
  have a1' := sqn a e
  have a2' := sqn a f
  have a3' := sqn a g
  have a4' := sqn a h
  have b1' := sqn b e
  have b2' := sqn b f
  have b3' := sqn b g
  have b4' := sqn b h
  have c1' := sqn c e
  have c2' := sqn c f
  have c3' := sqn c g
  have c4' := sqn c h
  have d1' := sqn d e
  have d2' := sqn d f
  have d3' := sqn d g
  have d4' := sqn d h
  simp only [lm, nrm, mu]
  refine ⟨⟨?_, ?_⟩, ⟨?_, ?_⟩, ⟨?_, ?_⟩, ?_, ?_⟩ <;> omega
theorem lm_ra {b c : Int} {x y : R4} (h : lm b x) (h' : lm c y) : lm (b + c) (ra x y) := by
  obtain ⟨x1, x2, x3, x4⟩ := x
  obtain ⟨y1, y2, y3, y4⟩ := y
  simp only [lm, ra] at *
  omega
theorem lm_le {b c : Int} {x : R4} (h : lm b x) (hb : b ≤ c) : lm c x := by
  obtain ⟨x1, x2, x3, x4⟩ := x
  simp only [lm] at *
  omega
theorem lm_bd {x : R4} (h : lm (2 ^ 62) x) : bd x := by
  obtain ⟨x1, x2, x3, x4⟩ := x
  simp only [lm, bd] at *
  omega
theorem sq_le {a b : Int} (h : a * a ≤ b) : a ≤ b ∧ -b ≤ a := by
  rcases Int.lt_or_le 0 a with h1 | h1
  · have : a * 1 ≤ a * a := Int.mul_le_mul_of_nonneg_left (by omega) (by omega)
    have := sq0 a
    omega
  · have h2 : 0 ≤ -a := by omega
    by_cases h3 : a = 0
    · subst h3
      omega
    · have : (-a) * 1 ≤ (-a) * (-a) := Int.mul_le_mul_of_nonneg_left (by omega) (by omega)
      have e : (-a) * (-a) = a * a := by grind
      rw [e] at this
      have := sq0 a
      omega
theorem nrm_bd {x : R4} (h : nrm x ≤ 2 ^ 61) : bd x := by
  obtain ⟨a, b, c, d⟩ := x
  simp only [nrm] at h
  have h1 := sq0 a
  have h2 := sq0 b
  have h3 := sq0 c
  have h4 := sq0 d
  have g1 := sq_le (a := a) (b := 2 ^ 61) (by omega)
  have g2 := sq_le (a := b) (b := 2 ^ 61) (by omega)
  have g3 := sq_le (a := c) (b := 2 ^ 61) (by omega)
  have g4 := sq_le (a := d) (b := 2 ^ 61) (by omega)
  simp only [bd]
  omega
/-- turning keeps the least power -/
theorem t8_0 (x : R4) : t8 x = (0, 0, 0, 0) ↔ x = (0, 0, 0, 0) := by
  obtain ⟨a, b, c, d⟩ := x
  simp only [t8, Prod.mk.injEq]
  omega
theorem t8_dv (x : R4) : dv (t8 x) ↔ dv x := by
  obtain ⟨a, b, c, d⟩ := x
  simp only [dv, t8]
  omega
theorem t8_hv {x : R4} (h : dv x) : hv (t8 x) = t8 (hv x) := by
  obtain ⟨a, b, c, d⟩ := x
  simp only [dv, hv, t8, Prod.mk.injEq] at *
  refine ⟨?_, ?_, ?_, ?_⟩ <;> first | trivial | omega
theorem red_t8 : ∀ (k : Nat) (x : R4), red k (t8 x) = (t8 (red k x).1, (red k x).2)
  | 0, x => rfl
  | k + 1, x => by
    simp only [red]
    by_cases h : x = (0, 0, 0, 0)
    · subst h
      rfl
    · rw [if_neg (fun q => h ((t8_0 x).mp q)), if_neg h]
      by_cases hd : dvB x = true
      · rw [if_pos hd, if_pos ((dvB_iff _).mpr ((t8_dv x).mpr ((dvB_iff x).mp hd))), t8_hv ((dvB_iff x).mp hd), red_t8 k (hv x)]
      · rw [if_neg hd, if_neg (fun q => hd ((dvB_iff x).mpr ((t8_dv x).mp ((dvB_iff _).mp q))))]
theorem red_t8n (k : Nat) (x : R4) : ∀ n, red k (t8n n x) = (t8n n (red k x).1, (red k x).2)
  | 0 => rfl
  | n + 1 => by
    show red k (t8 (t8n n x)) = _
    rw [red_t8, red_t8n k x n]
    rfl
/-! sums over a row -/
def sI (F : Nat → Int) : Nat → Int
  | 0 => 0
  | n + 1 => sI F n + F n
theorem sI_le {F G : Nat → Int} : ∀ n, (∀ i, i < n → F i ≤ G i) → sI F n ≤ sI G n
  | 0, _ => Int.le_refl _
  | n + 1, h => by
    have := sI_le n fun i hi => h i (by omega)
    have := h n (by omega)
    simp only [sI]
    omega
theorem sI_0 {F : Nat → Int} : ∀ n, (∀ i, i < n → 0 ≤ F i) → 0 ≤ sI F n
  | 0, _ => Int.le_refl _
  | n + 1, h => by
    have := sI_0 n fun i hi => h i (by omega)
    have := h n (by omega)
    simp only [sI]
    omega
theorem sI_at {F : Nat → Int} : ∀ n, (∀ i, i < n → 0 ≤ F i) → ∀ j, j < n → F j ≤ sI F n
  | 0, _, j, hj => by omega
  | n + 1, h, j, hj => by
    have h0 := sI_0 n fun i hi => h i (by omega)
    have hn := h n (by omega)
    simp only [sI]
    by_cases e : j = n
    · subst e
      omega
    · have := sI_at n (fun i hi => h i (by omega)) j (by omega)
      omega
theorem sI_mono {F : Nat → Int} (n : Nat) : ∀ m, (∀ i, i < n + m → 0 ≤ F i) → sI F n ≤ sI F (n + m)
  | 0, _ => Int.le_refl _
  | m + 1, h => by
    have := sI_mono n m fun i hi => h i (by omega)
    have := h (n + m) (by omega)
    show sI F n ≤ sI F (n + m) + F (n + m)
    omega
theorem sI_ext {F G : Nat → Int} : ∀ n, (∀ i, i < n → F i = G i) → sI F n = sI G n
  | 0, _ => rfl
  | n + 1, h => by
    simp only [sI]
    rw [sI_ext n fun i hi => h i (by omega), h n (by omega)]
theorem sI_app (F : Nat → Int) (n : Nat) : ∀ m, sI F (n + m) = sI F n + sI (fun i => F (n + i)) m
  | 0 => by simp [sI]
  | m + 1 => by
    show sI F (n + m) + F (n + m) = sI F n + (sI (fun i => F (n + i)) m + F (n + m))
    rw [sI_app F n m]
    omega
theorem sI_add (F G : Nat → Int) : ∀ n, sI (fun i => F i + G i) n = sI F n + sI G n
  | 0 => rfl
  | n + 1 => by
    simp only [sI]
    rw [sI_add F G n]
    omega
theorem sI_neg (F : Nat → Int) : ∀ n, sI (fun i => - F i) n = - sI F n
  | 0 => rfl
  | n + 1 => by
    simp only [sI]
    rw [sI_neg F n]
    omega
theorem xq_lt {i w x : Nat} (hi : i < 2 ^ w) (hx : x < 2 ^ w) : i ^^^ x < 2 ^ w := Nat.xor_lt_two_pow hi hx
theorem xq_hi {i w x : Nat} (hi : i < 2 ^ w) (hx : x < 2 ^ w) : (2 ^ w + i) ^^^ x = 2 ^ w + (i ^^^ x) := by
  apply Nat.eq_of_testBit_eq
  intro j
  have h1 := xq_lt hi hx
  rw [Nat.testBit_xor]
  by_cases hj : j < w
  · rw [Nat.testBit_two_pow_add_gt hj, Nat.testBit_two_pow_add_gt hj, Nat.testBit_xor]
  · by_cases e : j = w
    · subst e
      rw [Nat.testBit_two_pow_add_eq, Nat.testBit_two_pow_add_eq, Nat.testBit_lt_two_pow hi, Nat.testBit_lt_two_pow hx, Nat.testBit_lt_two_pow h1]
      rfl
    · have hp : 2 ^ (w + 1) ≤ 2 ^ j := Nat.pow_le_pow_right (by decide) (by omega)
      rw [Nat.pow_succ] at hp
      rw [Nat.testBit_lt_two_pow (by omega), Nat.testBit_lt_two_pow (by omega), Nat.testBit_lt_two_pow (by omega)]
      rfl
theorem xq_hx {i w x : Nat} (hi : i < 2 ^ w) (hx : x < 2 ^ w) : i ^^^ (2 ^ w + x) = 2 ^ w + (i ^^^ x) := by
  rw [Nat.xor_comm, xq_hi hx hi, Nat.xor_comm]
theorem xq_hh {i w x : Nat} (hi : i < 2 ^ w) (hx : x < 2 ^ w) : (2 ^ w + i) ^^^ (2 ^ w + x) = i ^^^ x := by
  apply Nat.eq_of_testBit_eq
  intro j
  rw [Nat.testBit_xor, Nat.testBit_xor]
  by_cases hj : j < w
  · rw [Nat.testBit_two_pow_add_gt hj, Nat.testBit_two_pow_add_gt hj]
  · by_cases e : j = w
    · subst e
      rw [Nat.testBit_two_pow_add_eq, Nat.testBit_two_pow_add_eq]
      cases Nat.testBit i j <;> cases Nat.testBit x j <;> rfl
    · have hp : 2 ^ (w + 1) ≤ 2 ^ j := Nat.pow_le_pow_right (by decide) (by omega)
      rw [Nat.pow_succ] at hp
      rw [Nat.testBit_lt_two_pow (by omega), Nat.testBit_lt_two_pow (by omega), Nat.testBit_lt_two_pow (by omega), Nat.testBit_lt_two_pow (by omega)]
/-- a sum over all, gone through in another order -/
theorem sI_x : ∀ (w x : Nat) (F : Nat → Int), x < 2 ^ w → sI (fun i => F (i ^^^ x)) (2 ^ w) = sI F (2 ^ w)
  | 0, x, F, hx => by
    have : x = 0 := by
      have : 2 ^ 0 = 1 := rfl
      omega
    subst this
    rfl
  | w + 1, x, F, hx => by
    have e : 2 ^ (w + 1) = 2 ^ w + 2 ^ w := by rw [Nat.pow_succ]; omega
    rw [e] at hx ⊢
    rw [sI_app, sI_app]
    by_cases h : x < 2 ^ w
    · rw [sI_x w x F h, sI_ext (F := fun i => F ((2 ^ w + i) ^^^ x)) (G := fun i => (fun j => F (2 ^ w + j)) (i ^^^ x)) (2 ^ w) (fun i hi => by rw [xq_hi hi h]), sI_x w x (fun j => F (2 ^ w + j)) h]
    · obtain ⟨y, rfl⟩ : ∃ y, x = 2 ^ w + y := ⟨x - 2 ^ w, by omega⟩
      have hy : y < 2 ^ w := by omega
      rw [sI_ext (F := fun i => F (i ^^^ (2 ^ w + y))) (G := fun i => (fun j => F (2 ^ w + j)) (i ^^^ y)) (2 ^ w) (fun i hi => by rw [xq_hx hi hy]), sI_x w y (fun j => F (2 ^ w + j)) hy, sI_ext (F := fun i => F ((2 ^ w + i) ^^^ (2 ^ w + y))) (G := fun i => F (i ^^^ y)) (2 ^ w) (fun i hi => by rw [xq_hh hi hy]), sI_x w y F hy]
      omega
/-- sums of ROOTS over one power -/
def sR (T : Nat → R4) : Nat → R4
  | 0 => (0, 0, 0, 0)
  | n + 1 => ra (sR T n) (T n)
theorem sR_c (T : Nat → R4) : ∀ n, sR T n = (sI (fun i => (T i).1) n, sI (fun i => (T i).2.1) n, sI (fun i => (T i).2.2.1) n, sI (fun i => (T i).2.2.2) n)
  | 0 => rfl
  | n + 1 => by
    simp only [sR, sI]
    rw [sR_c T n]
    rfl
theorem sR_cj (T : Nat → R4) : ∀ n, cj (sR T n) = sR (fun i => cj (T i)) n
  | 0 => rfl
  | n + 1 => by
    simp only [sR]
    rw [cj_ra, sR_cj T n]
theorem sR_x {w x : Nat} (T : Nat → R4) (hx : x < 2 ^ w) : sR (fun i => T (i ^^^ x)) (2 ^ w) = sR T (2 ^ w) := by
  rw [sR_c, sR_c T, sI_x w x (fun i => (T i).1) hx, sI_x w x (fun i => (T i).2.1) hx, sI_x w x (fun i => (T i).2.2.1) hx, sI_x w x (fun i => (T i).2.2.2) hx]
theorem sR_ext {F G : Nat → R4} : ∀ n, (∀ i, i < n → F i = G i) → sR F n = sR G n
  | 0, _ => rfl
  | n + 1, h => by
    simp only [sR]
    rw [sR_ext n fun i hi => h i (by omega), h n (by omega)]
theorem sR_lm {T : Nat → R4} {F : Nat → Int} : ∀ n, (∀ i, i < n → lm (F i) (T i)) → lm (sI F n) (sR T n)
  | 0, _ => ⟨⟨Int.le_refl _, Int.le_refl _⟩, ⟨Int.le_refl _, Int.le_refl _⟩, ⟨Int.le_refl _, Int.le_refl _⟩, Int.le_refl _, Int.le_refl _⟩
  | n + 1, h => lm_ra (sR_lm n fun i hi => h i (by omega)) (h n (by omega))
/-! what is real: over halves -/
def rh : Nat → Int → Int → (Int × Int) × Nat
  | 0, u, v => ((u, v), 0)
  | h + 1, u, v => if u = 0 ∧ v = 0 then ((0, 0), 0) else if u % 2 = 0 ∧ v % 2 = 0 then rh h (u / 2) (v / 2) else ((u, v), h + 1)
theorem rh_0 (h : Nat) : rh h 0 0 = ((0, 0), 0) := by
  cases h with
  | zero => rfl
  | succ h => simp [rh]
theorem rh_2 (h : Nat) (u v : Int) : rh (h + 1) (2 * u) (2 * v) = rh h u v := by
  by_cases e : u = 0 ∧ v = 0
  · obtain ⟨rfl, rfl⟩ := e
    rw [show (2 : Int) * 0 = 0 from rfl, rh_0, rh_0]
  · simp only [rh]
    rw [if_neg (by omega), if_pos (by omega), show 2 * u / 2 = u by omega, show 2 * v / 2 = v by omega]
def p2 : Nat → Int → Int
  | 0, u => u
  | n + 1, u => 2 * p2 n u
theorem rh_n (h : Nat) (u v : Int) : ∀ n, rh (h + n) (p2 n u) (p2 n v) = rh h u v
  | 0 => rfl
  | n + 1 => by
    show rh (h + n + 1) (2 * p2 n u) (2 * p2 n v) = _
    rw [rh_2, rh_n h u v n]
theorem rn_re (u v : Int) : ∀ n, rn (2 * n) (u, v, 0, -v) = (p2 n u, p2 n v, 0, - p2 n v)
  | 0 => rfl
  | n + 1 => by
    rw [show 2 * (n + 1) = 2 * n + 1 + 1 by omega]
    show rr (rr (rn (2 * n) (u, v, 0, -v))) = _
    rw [rn_re u v n]
    simp only [rr, p2, Prod.mk.injEq]
    omega
/-- the least power's numbers, made to halves -/
def rhs (l : Nat) (y : R4) : (Int × Int) × Nat := if l % 2 = 1 then rh ((l + 1) / 2) (2 * y.2.1) y.1 else rh (l / 2) y.1 y.2.1
theorem cj_re {X : R4} (h : cj X = X) : X = (X.1, X.2.1, 0, -X.2.1) := by
  obtain ⟨a, b, c, d⟩ := X
  simp only [cj, Prod.mk.injEq] at *
  refine ⟨?_, ?_, ?_, ?_⟩ <;> first | trivial | omega
theorem vr_rh {k l : Nat} {X y : R4} (h : vr (2 * k) X l y) (hr : cj X = X) : rhs l y = rh k X.1 X.2.1 := by
  have hl := h.1
  have h2 := h.2
  have hy : cj y = y := rn_i (2 * k - l) (by rw [← cj_rn, h2, hr])
  rw [cj_re hy] at h2
  unfold rhs
  generalize y.1 = u at *
  generalize y.2.1 = v at *
  by_cases ho : l % 2 = 1
  · rw [if_pos ho]
    have e : 2 * k - l = 2 * (k - (l + 1) / 2) + 1 := by omega
    rw [e, rn_a] at h2
    have e2 : rn 1 (u, v, 0, -v) = (2 * v, u, 0, -u) := by
      show rr (u, v, 0, -v) = _
      simp only [rr, Prod.mk.injEq]
      omega
    rw [e2, rn_re] at h2
    rw [← h2]
    show _ = rh k (p2 (k - (l + 1) / 2) (2 * v)) (p2 (k - (l + 1) / 2) u)
    conv => rhs; rw [show k = (l + 1) / 2 + (k - (l + 1) / 2) by omega]
    rw [show (l + 1) / 2 + (k - (l + 1) / 2) - (l + 1) / 2 = k - (l + 1) / 2 by omega, rh_n]
  · rw [if_neg ho]
    have e : 2 * k - l = 2 * (k - l / 2) := by omega
    rw [e, rn_re] at h2
    rw [← h2]
    show _ = rh k (p2 (k - l / 2) u) (p2 (k - l / 2) v)
    conv => rhs; rw [show k = l / 2 + (k - l / 2) by omega]
    rw [show l / 2 + (k - l / 2) - l / 2 = k - l / 2 by omega, rh_n]
