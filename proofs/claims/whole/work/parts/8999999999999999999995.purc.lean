/-! purity, the class -/
/-- the DENSITY, by its numbers: the sum of the squares of all parts is at most the power of two -/
def de_d (M : mm_M) (w k : Nat) (xs : Nat → R4) : Prop := 1 ≤ w ∧ w ≤ 3 ∧ k ≤ 120 ∧ M.1 104 1 = nI w ∧ M.1 108 88 = nI w ∧ M.1 105 2 = nI (2 ^ (2 * w)) ∧ M.1 105 3 = nI k ∧ M.1 104 2 = M.1 108 89 ∧ M.1 104 3 = M.1 108 90 ∧ (∀ c, c < 2 ^ (2 * w) → rt_at M 107 c (xs c)) ∧ (∀ i j, i < 2 ^ w → j < 2 ^ w → rf_at M 162 (8 * i + j) (red k (xs (i + 2 ^ w * j)))) ∧ sI (fun c => nrm (xs c)) (2 ^ (2 * w)) ≤ 2 ^ k
def de_x (M : mm_M) : Prop := (M.1 104 1 = 0 ∧ M.1 108 88 = -1) ∨ ∃ w k xs, de_d M w k xs
theorem sq_b {a : Int} (h : a * a ≤ 2 ^ 120) : -2 ^ 61 ≤ a ∧ a ≤ 2 ^ 61 := by
  have e : (2 : Int) ^ 120 = 2 ^ 60 * 2 ^ 60 := by decide
  have p : (0 : Int) < 2 ^ 60 := by decide
  constructor
  · apply Decidable.byContradiction
    intro c
    have c : a < -2 ^ 61 := by omega
    have : (2 ^ 60) * (2 ^ 60) < (-a) * (-a) := Int.mul_lt_mul (by omega) (by omega) p (by omega)
    rw [Int.neg_mul_neg] at this
    omega
  · apply Decidable.byContradiction
    intro c
    have : (2 ^ 60) * (2 ^ 60) < a * a := Int.mul_lt_mul (by omega) (by omega) p (by omega)
    omega
theorem sq_0 (a : Int) : 0 ≤ a * a := by
  rcases Int.le_total 0 a with h | h
  · exact Int.mul_nonneg h h
  · have := Int.mul_nonneg (show 0 ≤ -a by omega) (show 0 ≤ -a by omega)
    rw [Int.neg_mul_neg] at this
    exact this
theorem nrm_b2 {x : R4} (h : nrm x ≤ 2 ^ 120) : bd x := by
  unfold nrm at h
  have a := sq_0 x.1
  have b := sq_0 x.2.1
  have c := sq_0 x.2.2.1
  have e := sq_0 x.2.2.2
  exact ⟨sq_b (by omega), sq_b (by omega), sq_b (by omega), sq_b (by omega)⟩
theorem p120 {k : Nat} (h : k ≤ 120) : (2 : Int) ^ k ≤ 2 ^ 120 := by
  have : (2 : Nat) ^ k ≤ 2 ^ 120 := Nat.pow_le_pow_right (by decide) h
  have e : ((2 ^ k : Nat) : Int) ≤ ((2 ^ 120 : Nat) : Int) := Int.ofNat_le.mpr this
  rw [Int.natCast_pow, Int.natCast_pow] at e
  exact e
section PUC
variable {d w k : Nat} {M : mm_M} {xs : Nat → R4}
theorem de_bd (h : de_d M w k xs) {c : Nat} (hc : c < 2 ^ (2 * w)) : bd (xs c) := by
  have s := h.2.2.2.2.2.2.2.2.2.2.2
  have a := sI_at (F := fun c => nrm (xs c)) (2 ^ (2 * w)) (fun i _ => nrm0 (xs i)) c hc
  have b := p120 h.2.2.1
  exact nrm_b2 (by have a : nrm (xs c) ≤ _ := a; omega)
theorem w64 (h : w ≤ 3) : 2 ^ (2 * w) ≤ 64 := (Nat.pow_le_pow_right (n := 2) (by decide) (by omega) : 2 ^ (2 * w) ≤ 2 ^ 6)
def mxP (f : Nat → Nat) : Nat → Nat
  | 0 => 0
  | i + 1 => max (mxP f i) (f i)
theorem mxP_b {f : Nat → Nat} {b : Nat} : ∀ n, mxP f n ≤ b ↔ ∀ i, i < n → f i ≤ b
  | 0 => ⟨fun _ i hi => absurd hi (Nat.not_lt_zero _), fun _ => Nat.zero_le _⟩
  | n + 1 => by
    have ih := mxP_b (f := f) (b := b) n
    show max (mxP f n) (f n) ≤ b ↔ _
    rw [Nat.max_le, ih]
    constructor
    · rintro ⟨h1, h2⟩ i hi
      rcases (by omega : i < n ∨ i = n) with e | e
      · exact h1 i e
      · rw [e]; exact h2
    · intro h
      exact ⟨fun i hi => h i (by omega), h n (by omega)⟩
theorem nJ_max {a b : Nat} (ha : a < 2 ^ 31) (hb : b < 2 ^ 31) : (if (nI a).toInt64 < (nI b).toInt64 then (nI b).toInt64 else (nI a).toInt64) = (nI (max a b)).toInt64 := by
  have e : (nI a).toInt64 < (nI b).toInt64 ↔ nI a < nI b := by
    rw [Int64.lt_iff_toInt_lt, Int32.lt_iff_toInt_lt, Int32.toInt_toInt64, Int32.toInt_toInt64]
  rw [← nI_max ha hb]
  by_cases c : nI a < nI b
  · rw [if_pos c, if_pos (e.mpr c)]
  · rw [if_neg c, if_neg fun z => c (e.mp z)]
set_option maxRecDepth 100000 in
theorem gp_l {Pp : am_Q} {X : am_X} (hX : am_K (d + 2) false nm_X1_greatestPower Pp X) (h : de_d M w k xs) (hP : Pp (.inl (some (aI (nI (mxP (fun c => (red k (xs c)).2) (2 ^ (2 * w))))))) M) : ∀ m i, i + m = 2 ^ (2 * w) → X 4 [some (aR 104), some (aJ (nI (mxP (fun c => (red k (xs c)).2) i)).toInt64), none, some (aI (nI i))] [] M := by
  have w3 := h.2.1
  have k120 := h.2.2.1
  have h64 := w64 w3
  have e2 := h.2.2.2.2.2.1
  have mb : ∀ i, mxP (fun c => (red k (xs c)).2) i ≤ k := fun i => (mxP_b i).mpr fun j _ => (red_v k (xs j)).1
  intro m
  induction m with
  | zero =>
    intro i hi
    have hi : i = 2 ^ (2 * w) := by omega
    subst hi
    have := mb (2 ^ (2 * w))
    refine am_run hX 5 _ _ _ _ ?_
    conv => whnf
    rw [e2]
    refine ⟨fun _ => ?_, fun c => absurd (nI_le (by omega) (by omega)) c⟩
    refine am_run hX 3 _ _ _ _ ?_
    conv => whnf
    rw [Int32.toInt32_toInt64]
    exact ⟨trivial, hP⟩
  | succ m ih =>
    intro i hi
    have m1 := mb i
    have m2 := (red_v k (xs i)).1
    refine am_run hX 5 _ _ _ _ ?_
    conv => whnf
    rw [e2]
    refine ⟨fun c => absurd c (nI_ge (by omega) (by omega)), fun _ => ?_⟩
    refine am_run hX 6 _ _ _ _ ?_
    conv => whnf
    refine am_c1 (ct_part105 (d := d) 4 (by omega) (h.2.2.2.2.2.2.2.2.2.1 i (by omega)) (de_bd h (by omega)) h.2.2.2.2.2.2.1 (by omega)) ?_
    conv => whnf
    refine am_run hX 4 _ _ _ _ ?_
    conv => whnf
    rw [show rp (red k (xs i)) 4 = (nI (red k (xs i)).2).toInt64 from rfl, nJ_max (by omega) (by omega), nI_1, Nat.max_comm]
    exact ih (i + 1) (by omega)
set_option maxRecDepth 100000 in
theorem ct_gpow (h : de_d M w k xs) : am_M (d + 3) false nm_X1_greatestPower [aR 104] M (am_q1 (aI (nI (mxP (fun c => (red k (xs c)).2) (2 ^ (2 * w))))) M) := by
  refine ⟨rfl, rfl, rfl, fun X hX => am_run hX 4 _ _ _ _ ?_⟩
  conv => whnf
  exact gp_l (d := d) hX h ⟨rfl, rfl⟩ (2 ^ (2 * w)) 0 (by omega)
end PUC

section PUD
variable {d w k : Nat} {M : mm_M} {xs : Nat → R4} {g : Nat → Int64}
set_option maxRecDepth 100000 in
theorem wp_l106 {P : am_Q} {X : am_X} {N : Nat} {xs : Nat → R4} {s v q : Int32} (hX : am_K (d + 2) false nm_X6_weightPart P X) (hN : M.1 105 2 = nI N) (hN2 : N ≤ 64) (hx : ∀ j, j < N → rt_at M 107 j (xs j)) (hK : X 40 [some (aR 105), some (aI s), some (aI v), some (aI q), some (aI (nI N))] [] (mm_l M 106 (s4 g (sR (wtT xs s v) N)))) : ∀ (m i : Nat), i + m = N → X 7 [some (aR 105), some (aI s), some (aI v), some (aI q), some (aI (nI i))] [] (mm_l M 106 (s4 g (sR (wtT xs s v) i))) := by
  intro m
  induction m with
  | zero =>
    intro i hi
    have hi : i = N := by omega
    subst hi
    refine am_run hX 4 _ _ _ _ ?_
    conv => whnf
    rw [show (mm_l M 106 (s4 g (sR (wtT xs s v) i))).1 105 2 = nI i from hN]
    refine ⟨fun _ => hK, fun c => absurd (nI_le (by omega) (by omega)) c⟩
  | succ m ih =>
    intro i hi
    have ih := ih (i + 1) (by omega)
    simp only [sR] at ih
    refine am_run hX 4 _ _ _ _ ?_
    conv => whnf
    rw [show (mm_l M 106 (s4 g (sR (wtT xs s v) i))).1 105 2 = nI N from hN]
    refine ⟨fun c => absurd c (nI_ge (by omega) (by omega)), fun _ => ?_⟩
    refine am_run hX 5 _ _ _ _ ?_
    conv => whnf
    refine ⟨fun c => ?_, fun c => ?_⟩
    · refine am_run hX 2 _ _ _ _ ?_
      conv => whnf
      rw [nI_1]
      rw [show wtT xs s v i = (0, 0, 0, 0) from if_neg c, ra_0] at ih
      exact ih
    · have c : nI i &&& s = v := Decidable.byContradiction c
      refine am_run hX 8 _ _ _ _ ?_
      conv => whnf
      refine am_c0 (ct_prod106 (d := d) (e := 0) (by omega) (by omega) (by omega) (hx i (by omega)) (hx i (by omega))) ?_
      conv => whnf
      rw [nI_1]
      rw [show wtT xs s v i = mu (cj (xs i)) (xs i) from if_pos c] at ih
      exact ih
set_option maxRecDepth 100000 in
theorem ct_wpart106 {N k : Nat} {xs : Nat → R4} {s v q : Int32} (hN : M.1 105 2 = nI N) (hN2 : N ≤ 64) (hk : M.1 105 3 = nI k) (hk2 : k ≤ 60) (hx : ∀ j, j < N → rt_at M 107 j (xs j)) (hb : bd (sR (wtT xs s v) N)) : am_M (d + 3) false nm_X6_weightPart [aR 105, aI s, aI v, aI q] M (am_q1 (aJ (rq (rh k (sR (wtT xs s v) N).1 (sR (wtT xs s v) N).2.1) q)) (mm_l M 106 (s4 (M.2 106) (sR (wtT xs s v) N)))) := by
  have hbb := hb
  simp only [bd] at hbb
  refine ⟨rfl, rfl, rfl, fun X hX => am_run hX 4 _ _ _ _ ?_⟩
  conv => whnf
  refine am_c0 (ct_clear106 (d := d)) ?_
  conv => whnf
  refine wp_l106 (d := d) (M := M) (g := M.2 106) hX hN hN2 hx ?_ N 0 (by omega)
  refine am_run hX 30 _ _ _ _ ?_
  conv => whnf
  refine ⟨by first | exact i5_0 | exact i5_1 | exact i5_2 | exact i5_3 | exact i5_4 | exact i5_01 | exact i5_02 | exact i5_03 | exact i5_04 | exact i4_0 | exact i4_1 | exact i4_2 | exact i4_3 | decide, ?_⟩
  conv => whnf
  refine ⟨by first | exact i5_0 | exact i5_1 | exact i5_2 | exact i5_3 | exact i5_4 | exact i5_01 | exact i5_02 | exact i5_03 | exact i5_04 | exact i4_0 | exact i4_1 | exact i4_2 | exact i4_3 | decide, ?_⟩
  conv => whnf
  rw [mm_l2, show (mm_l M 106 (s4 (M.2 106) (sR (wtT xs s v) N))).1 105 3 = nI k from hk, k_0, k_1]
  refine am_c1 (ct_real (d := d + 1) (u := (sR (wtT xs s v) N).1) (v := (sR (wtT xs s v) N).2.1) q (by omega) (by omega) (by omega)) ?_
  conv => whnf
  exact ⟨trivial, rfl, rfl⟩
theorem nrm_rn (y : R4) : ∀ n, nrm (rn n y) = 2 ^ n * nrm y
  | 0 => by
    show nrm y = 1 * nrm y
    omega
  | n + 1 => by
    show nrm (rr (rn n y)) = _
    rw [nrm_rr, nrm_rn y n, Int.pow_succ, Int.mul_comm (2 ^ n) 2, Int.mul_assoc]
theorem sI_mul (c : Int) (F : Nat → Int) : ∀ n, sI (fun i => c * F i) n = c * sI F n
  | 0 => by
    show (0 : Int) = c * 0
    rw [Int.mul_zero]
  | n + 1 => by
    show sI (fun i => c * F i) n + c * F n = c * (sI F n + F n)
    rw [sI_mul c F n, Int.mul_add]
theorem sI_e {F G : Nat → Int} : ∀ n, (∀ i, i < n → F i = G i) → sI F n = sI G n
  | 0, _ => rfl
  | n + 1, h => by
    show sI F n + F n = sI G n + G n
    rw [sI_e n fun i hi => h i (by omega), h n (by omega)]
/-- the least power -/
theorem low_d (h : de_d M w k xs) : (lowA (2 ^ (2 * w)) k xs).1 ≤ k ∧ (∀ c, c < 2 ^ (2 * w) → red k (xs c) = red (lowA (2 ^ (2 * w)) k xs).1 ((lowA (2 ^ (2 * w)) k xs).2 c)) ∧ sI (fun c => nrm ((lowA (2 ^ (2 * w)) k xs).2 c)) (2 ^ (2 * w)) ≤ 2 ^ (lowA (2 ^ (2 * w)) k xs).1 ∧ (mxP (fun c => (red k (xs c)).2) (2 ^ (2 * w)) ≤ 50 → (lowA (2 ^ (2 * w)) k xs).1 ≤ 50) := by
  obtain ⟨v, e⟩ := low_v (2 ^ (2 * w)) k xs
  have l := (low_b (N := 2 ^ (2 * w)) (k := k) (xs := xs) fun j hj => de_bd h hj).1
  have s := h.2.2.2.2.2.2.2.2.2.2.2
  generalize lowA (2 ^ (2 * w)) k xs = F at *
  have er : ∀ c, c < 2 ^ (2 * w) → red k (xs c) = red F.1 (F.2 c) := fun c hc => by
    obtain ⟨_, q⟩ := v c hc
    rw [← q]
    have := red_rn F.1 (F.2 c) (k - F.1)
    rw [show F.1 + (k - F.1) = k by omega] at this
    exact this
  refine ⟨l, er, ?_, fun hm => ?_⟩
  · have a : sI (fun c => nrm (xs c)) (2 ^ (2 * w)) = 2 ^ (k - F.1) * sI (fun c => nrm (F.2 c)) (2 ^ (2 * w)) := by
      rw [← sI_mul]
      exact sI_e _ fun c hc => by
        obtain ⟨_, q⟩ := v c hc
        rw [← q, nrm_rn]
    rw [a, show (2 : Int) ^ k = 2 ^ (k - F.1) * 2 ^ F.1 by rw [← Int.pow_add, show k - F.1 + F.1 = k by omega]] at s
    exact Int.le_of_mul_le_mul_left s (Int.pow_pos (by decide))
  · rcases e with e | ⟨j, hj, e⟩
    · omega
    · have a := (mxP_b _).mp hm j hj
      have a : (red k (xs j)).2 ≤ 50 := a
      rw [er j hj, red_nd e] at a
      exact a
/-- the memory behind it -/
def lwM (M : mm_M) (N : Nat) (F : Nat × (Nat → R4)) : mm_M := mm_l (mm_i M 105 (upd (upd (M.1 105) 2 (nI N)) 3 (nI F.1))) 107 (cq (M.2 107) N F.2)
theorem lwM_0 (h : de_d M w k xs) : lwM M (2 ^ (2 * w)) (k, xs) = M := by
  unfold lwM
  rw [← h.2.2.2.2.2.1, upd_self, ← h.2.2.2.2.2.2.1, upd_self, mm_iz, ← cq_of (M := M) (c := 107) h.2.2.2.2.2.2.2.2.2.1, mm_lz]
theorem lwM_d (h : de_d M w k xs) (g : Nat → Int64) : de_d (mm_l (lwM M (2 ^ (2 * w)) (lowA (2 ^ (2 * w)) k xs)) 106 g) w (lowA (2 ^ (2 * w)) k xs).1 (lowA (2 ^ (2 * w)) k xs).2 := by
  obtain ⟨l, er, s, _⟩ := low_d h
  obtain ⟨h1, h2, h3, h4, h5, h6, h7, h8, h9, h10, h11, h12⟩ := h
  have n8 : 2 ^ (2 * w) = 2 ^ w * 2 ^ w := by rw [← Nat.pow_add, show w + w = 2 * w by omega]
  refine ⟨h1, h2, by omega, h4, h5, rfl, rfl, h8, h9, fun c hc => ?_, fun i j hi hj => ?_, s⟩
  · exact cq_rt (M := mm_l (lwM M (2 ^ (2 * w)) (lowA (2 ^ (2 * w)) k xs)) 106 g) (c := 107) rfl hc
  · have hc : i + 2 ^ w * j < 2 ^ (2 * w) := by
      rw [n8]
      have : 2 ^ w * j + 2 ^ w ≤ 2 ^ w * 2 ^ w := by
        rw [← Nat.mul_succ]
        exact Nat.mul_le_mul_left _ hj
      omega
    rw [← er _ hc]
    exact h11 i j hi hj
set_option maxRecDepth 100000 in
theorem ct_pupt {q : Int32} (h : de_d M w k xs) (hm : mxP (fun c => (red k (xs c)).2) (2 ^ (2 * w)) ≤ 50) (hb : bd (sR (wtT (lowA (2 ^ (2 * w)) k xs).2 0 0) (2 ^ (2 * w)))) : am_M (d + 4) false nm_X1_purityPart [aR 104, aI q] M (am_q1 (aJ (rq (rh (lowA (2 ^ (2 * w)) k xs).1 (sR (wtT (lowA (2 ^ (2 * w)) k xs).2 0 0) (2 ^ (2 * w))).1 (sR (wtT (lowA (2 ^ (2 * w)) k xs).2 0 0) (2 ^ (2 * w))).2.1) q)) (mm_l (lwM M (2 ^ (2 * w)) (lowA (2 ^ (2 * w)) k xs)) 106 (s4 (M.2 106) (sR (wtT (lowA (2 ^ (2 * w)) k xs).2 0 0) (2 ^ (2 * w)))))) := by
  have h64 := w64 h.2.1
  have k120 := h.2.2.1
  have key := ct_lower107 (d := d + 1) (M := M) (g := M.2 107) (N := 2 ^ (2 * w)) (k := k) (xs := xs) h64 (by omega) (fun j hj => de_bd h hj)
  have e0 : mm_l (mm_i M 105 (upd (upd (M.1 105) 2 (nI (2 ^ (2 * w)))) 3 (nI k))) 107 (cq (M.2 107) (2 ^ (2 * w)) xs) = M := lwM_0 h
  rw [e0] at key
  have hd := lwM_d h ((lwM M (2 ^ (2 * w)) (lowA (2 ^ (2 * w)) k xs)).2 106)
  rw [mm_lz] at hd
  have l50 := (low_d h).2.2.2 hm
  refine ⟨rfl, rfl, rfl, fun X hX => am_run hX 3 _ _ _ _ ?_⟩
  conv => whnf
  refine am_c0 key ?_
  conv => whnf
  show X 7 _ _ (lwM M (2 ^ (2 * w)) (lowA (2 ^ (2 * w)) k xs))
  have e106 : (lwM M (2 ^ (2 * w)) (lowA (2 ^ (2 * w)) k xs)).2 106 = M.2 106 := rfl
  generalize lwM M (2 ^ (2 * w)) (lowA (2 ^ (2 * w)) k xs) = N at *
  refine am_run hX 6 _ _ _ _ ?_
  conv => whnf
  refine am_c1 (ct_wpart106 (d := d) (M := N) (N := 2 ^ (2 * w)) (s := 0) (v := 0) (q := q) hd.2.2.2.2.2.1 h64 hd.2.2.2.2.2.2.1 (by omega) hd.2.2.2.2.2.2.2.2.2.1 hb) ?_
  conv => whnf
  refine am_run hX 1 _ _ _ _ ?_
  conv => whnf
  exact ⟨trivial, rfl, by rw [e106]⟩
end PUD
