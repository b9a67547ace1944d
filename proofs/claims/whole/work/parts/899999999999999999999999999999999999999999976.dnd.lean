/-! DENSITIES: every step of the program keeps them -/
section DNF
variable {W r K : Nat} {xs ys : Nat → R4}
theorem lin_10 (x y : R4) : lin 1 x 0 y = x := by
  simp only [lin, Int.one_mul, Int.zero_mul, Int.add_zero]
theorem lin_00 (x y : R4) : lin 0 x 0 y = (0, 0, 0, 0) := by
  simp only [lin, Int.zero_mul, Int.add_zero]
theorem lin_11 (x y : R4) : lin 1 x 1 y = ra x y := by
  simp only [lin, ra, Int.one_mul]
theorem rw_lt (hr : r < W) : 2 ^ r < 2 ^ W := Nat.pow_lt_pow_right (by decide) hr
theorem wp_same {i j : Nat} (hW : W ≤ 3) (hr : r < W) (hi : i < 2 ^ W) (hj : j < 2 ^ W) (h : (i &&& 2 ^ r = 0 ↔ j &&& 2 ^ r = 0)) : wpN W r xs (i + 2 ^ W * j) = xs (i + 2 ^ W * j) := by
  have c := (ce_f hW hr hi hj).1
  have d := (smB_f hW hr hi hj).2.2.2.1
  unfold wpN
  rw [if_neg]
  intro q
  refine c.mp q ?_
  have : (decide (i &&& 2 ^ r = 0) == decide (j &&& 2 ^ r = 0)) = true := by
    rw [beq_iff_eq, decide_eq_decide]
    exact h
  rw [this] at d
  exact of_decide_eq_true d
theorem wp_diff {i j : Nat} (hW : W ≤ 3) (hr : r < W) (hi : i < 2 ^ W) (hj : j < 2 ^ W) (h : ¬ (i &&& 2 ^ r = 0 ↔ j &&& 2 ^ r = 0)) : wpN W r xs (i + 2 ^ W * j) = (0, 0, 0, 0) := by
  have c := (ce_f hW hr hi hj).1
  have d := (smB_f hW hr hi hj).2.2.2.1
  unfold wpN
  rw [if_pos]
  refine c.mpr fun q => ?_
  have e : decide ((i ^^^ j) &&& 2 ^ r = 0) = true := decide_eq_true q
  rw [e] at d
  have d := d.symm
  rw [beq_iff_eq, decide_eq_decide] at d
  exact h d
theorem fl_b {i : Nat} (hW : W ≤ 3) (hr : r < W) (hi : i < 2 ^ W) : (i ^^^ 2 ^ r) &&& 2 ^ r = 0 ↔ ¬ i &&& 2 ^ r = 0 := by
  have d := (smB_f hW hr hi hi).2.2.1
  by_cases c : i &&& 2 ^ r = 0
  · rw [decide_eq_true c] at d
    exact ⟨fun q => absurd q (of_decide_eq_false d), fun q => absurd c q⟩
  · rw [decide_eq_false c] at d
    exact ⟨fun _ => c, fun _ => of_decide_eq_true d⟩
/-- a measured WIRE -/
theorem lg_wp (hW : W ≤ 3) (hr : r < W) (h : lgD W K xs) : lgD W K (wpN W r xs) := by
  refine lg_op (q := 0) (C := 1) [(1, fb0 r), (1, fb1 r)] [] (rw_lt hr) (fun x => (sc_1 x).symm) (fun i _ => ?_) (fun i j hi hj => ?_) h
  · by_cases c : i &&& 2 ^ r = 0 <;> simp [wSt, fb0, fb1, c]
  · unfold opM
    by_cases c : i &&& 2 ^ r = 0 <;> by_cases d : j &&& 2 ^ r = 0
    · rw [wp_same hW hr hi hj ⟨fun _ => d, fun _ => c⟩, show wSt [(1, fb0 r), (1, fb1 r)] i j = 1 by simp [wSt, fb0, fb1, c, d]]
      exact (lin_10 _ _).symm
    · rw [wp_diff hW hr hi hj (fun q => d (q.mp c)), show wSt [(1, fb0 r), (1, fb1 r)] i j = 0 by simp [wSt, fb0, fb1, c, d]]
      exact (lin_00 _ _).symm
    · rw [wp_diff hW hr hi hj (fun q => c (q.mpr d)), show wSt [(1, fb0 r), (1, fb1 r)] i j = 0 by simp [wSt, fb0, fb1, c, d]]
      exact (lin_00 _ _).symm
    · rw [wp_same hW hr hi hj ⟨fun z => absurd z c, fun z => absurd z d⟩, show wSt [(1, fb0 r), (1, fb1 r)] i j = 1 by simp [wSt, fb0, fb1, c, d]]
      exact (lin_10 _ _).symm
/-- a reset WIRE -/
theorem lg_pd (hW : W ≤ 3) (hr : r < W) (h : lgD W K xs) : lgD W K (pdN W r (wpN W r xs)) := by
  refine lg_op (q := 0) (C := 1) [(1, fb0 r)] [(1, fb0 r)] (rw_lt hr) (fun x => (sc_1 x).symm) (fun i hi => ?_) (fun i j hi hj => ?_) h
  · have f := fl_b hW hr hi
    by_cases c : i &&& 2 ^ r = 0
    · have f : ¬ (i ^^^ 2 ^ r) &&& 2 ^ r = 0 := fun q => f.mp q c
      simp [wSt, fb0, c, f]
    · have f : (i ^^^ 2 ^ r) &&& 2 ^ r = 0 := f.mpr c
      simp [wSt, fb0, c, f]
  · obtain ⟨_, e1, e2, e3⟩ := ce_f hW hr hi hj
    have xi : i ^^^ 2 ^ r < 2 ^ W := Nat.xor_lt_two_pow hi (rw_lt hr)
    have xj : j ^^^ 2 ^ r < 2 ^ W := Nat.xor_lt_two_pow hj (rw_lt hr)
    unfold opM pdN
    by_cases c : i &&& 2 ^ r = 0 <;> by_cases d : j &&& 2 ^ r = 0
    · rw [if_pos (e1.mpr ⟨c, d⟩), e3, (smB_f hW hr hi hj).2.2.2.2 c, (smB_f hW hr hj hi).2.2.2.2 d, wp_same hW hr hi hj ⟨fun _ => d, fun _ => c⟩, wp_same hW hr xi xj ⟨fun z => absurd c ((fl_b hW hr hi).mp z), fun z => absurd d ((fl_b hW hr hj).mp z)⟩, show wSt [(1, fb0 r)] i j = 1 by simp [wSt, fb0, c, d]]
      exact (lin_11 _ _).symm
    · rw [if_neg (fun q => d (e1.mp q).2), if_neg (fun q => (e2.mp q).1 c), wp_diff hW hr hi hj (fun q => d (q.mp c)), show wSt [(1, fb0 r)] i j = 0 by simp [wSt, fb0, c, d]]
      exact (lin_00 _ _).symm
    · rw [if_neg (fun q => c (e1.mp q).1), if_neg (fun q => (e2.mp q).2 d), wp_diff hW hr hi hj (fun q => c (q.mpr d)), show wSt [(1, fb0 r)] i j = 0 by simp [wSt, fb0, c, d]]
      exact (lin_00 _ _).symm
    · rw [if_neg (fun q => c (e1.mp q).1), if_pos (e2.mpr ⟨c, d⟩), show wSt [(1, fb0 r)] i j = 0 by simp [wSt, fb0, c, d]]
      exact (lin_00 _ _).symm
/-- what mix does -/
theorem lg_mx {x : bk_X} (hW : W ≤ 3) (ho : ogd W x) (h : lgD W K xs) : lgD W (mxK x K) (mxN W x xs) := by
  unfold mxN mxK
  by_cases k9 : x.1 < 9
  · rw [if_pos k9]
    exact lg_G hW ho (by omega) h
  · rw [if_neg k9, if_neg (by omega)]
    by_cases k10 : x.1 = 10
    · rw [if_pos k10]
      exact lg_pd hW ho.1.2.1 h
    · rw [if_neg k10]
      exact lg_wp hW ho.1.2.1 h
/-- what spoil does -/
theorem lg_spx {y k : Nat} (hW : W ≤ 3) (hr : r < W) (P Q : List (Nat × (Nat → Int))) (hP : ∀ i j, spS y k (decide (i &&& 2 ^ r = 0) == decide (j &&& 2 ^ r = 0)) = wSt P i j) (hQ : ∀ i j, spC y k (decide (i &&& 2 ^ r = 0) == decide (j &&& 2 ^ r = 0)) = wSt Q i j) {C : Int} (hq : ∀ x, rn (spQ y) x = scl C x) (hC : spS y k true + spC y k true = C) (h : lgD W K xs) : lgD W (K + spQ y) (spN W r y k xs) := by
  refine lg_op (C := C) P Q (rw_lt hr) hq (fun i _ => ?_) (fun i j hi hj => ?_) h
  · rw [← hP, ← hQ, beq_self_eq_true, beq_self_eq_true, hC]
  · obtain ⟨a, b, _⟩ := smB_f hW hr hi hj
    unfold opM spN
    rw [← hP, ← hQ, a, b]
theorem lg_sp {y k : Nat} (hW : W ≤ 3) (hr : r < W) (hy : y < 4) (hk : k < 17) (h : lgD W K xs) : lgD W (K + spQ y) (spN W r y k xs) := by
  have e4 : ((64 - 4 * k : Nat) : Int) = 64 - 4 * (k : Int) := by omega
  have e1 : ((16 - k : Nat) : Int) = 16 - (k : Int) := by omega
  have e2 : ((2 * k : Nat) : Int) = 2 * (k : Int) := by omega
  rcases (by omega : y = 0 ∨ y = 1 ∨ y = 2 ∨ y = 3) with rfl | rfl | rfl | rfl
  · refine lg_spx (C := 64) hW hr [(64 - 4 * k, fun _ => 1), (2 * k, fb0 r), (2 * k, fb1 r)] [(2 * k, fb0 r), (2 * k, fb1 r)] (fun i j => ?_) (fun i j => ?_) rn_12s ?_ h
    · by_cases c : i &&& 2 ^ r = 0 <;> by_cases d : j &&& 2 ^ r = 0 <;> simp [wSt, fb0, fb1, spS, c, d, e4, e2]
    · by_cases c : i &&& 2 ^ r = 0 <;> by_cases d : j &&& 2 ^ r = 0 <;> simp [wSt, fb0, fb1, spC, c, d, e2]
    · simp [spS, spC]
      omega
  · refine lg_spx (C := 16) hW hr [(16 - k, fun _ => 1)] [(k, fun _ => 1)] (fun i j => ?_) (fun i j => ?_) rn_8s ?_ h
    · by_cases c : i &&& 2 ^ r = 0 <;> by_cases d : j &&& 2 ^ r = 0 <;> simp [wSt, spS, c, d, e1]
    · by_cases c : i &&& 2 ^ r = 0 <;> by_cases d : j &&& 2 ^ r = 0 <;> simp [wSt, spC, c, d]
    · simp [spS, spC]
  · refine lg_spx (C := 16) hW hr [(16 - k, fun _ => 1)] [(k, fbs r)] (fun i j => ?_) (fun i j => ?_) rn_8s ?_ h
    · by_cases c : i &&& 2 ^ r = 0 <;> by_cases d : j &&& 2 ^ r = 0 <;> simp [wSt, spS, c, d, e1]
    · by_cases c : i &&& 2 ^ r = 0 <;> by_cases d : j &&& 2 ^ r = 0 <;> simp [wSt, fbs, spC, c, d]
    · simp [spS, spC]
  · refine lg_spx (C := 16) hW hr [(16 - k, fun _ => 1), (k, fbs r)] [] (fun i j => ?_) (fun i j => ?_) rn_8s ?_ h
    · by_cases c : i &&& 2 ^ r = 0 <;> by_cases d : j &&& 2 ^ r = 0 <;> simp [wSt, fbs, spS, c, d, e1] <;> omega
    · simp [wSt, spC]
    · simp [spS, spC]
theorem lgD_e (h : lgD W K xs) (he : ∀ c, c < 2 ^ (2 * W) → ys c = xs c) : lgD W K ys := by
  obtain ⟨⟨e, l, h1⟩, h2⟩ := h
  have ij : ∀ i j, i < 2 ^ W → j < 2 ^ W → i + 2 ^ W * j < 2 ^ (2 * W) := fun i j hi hj => by
    rw [show 2 * W = W + W by omega, Nat.pow_add]
    have : 2 ^ W * j + 2 ^ W ≤ 2 ^ W * 2 ^ W := by
      rw [← Nat.mul_succ]
      exact Nat.mul_le_mul_left _ (by omega)
    omega
  refine ⟨⟨e, l, fun i j hi hj => by rw [he _ (ij i j hi hj)]; exact h1 i j hi hj⟩, ?_⟩
  rw [← h2]
  exact sR_ext _ fun i hi => he _ (ij i i hi hi)
/-- lowered powers -/
theorem lg_low {k : Nat} (hk : k ≤ K) (h : lgD W K xs) (he : ∀ c, c < 2 ^ (2 * W) → rn (K - k) (ys c) = xs c) : lgD W k ys := by
  have h' : lgD W K (fun c => rn (K - k) (ys c)) := lgD_e h he
  obtain ⟨⟨e, l, h1⟩, h2⟩ := h'
  refine ⟨⟨e + (K - k), l, fun i j hi hj => by rw [rn_a]; exact h1 i j hi hj⟩, rn_i (K - k) ?_⟩
  rw [← sR_rn, ← rn_a, show K - k + k = K by omega]
  exact h2
/-- a new DENSITY -/
def bsD (w s : Nat) : Nat → R4 := fun c => if c = s + 2 ^ w * s then (1, 0, 0, 0) else (0, 0, 0, 0)
theorem sR_bs (s : Nat) : ∀ n, sR (fun i => if i = s then ((1, 0, 0, 0) : R4) else (0, 0, 0, 0)) n = if s < n then (1, 0, 0, 0) else (0, 0, 0, 0)
  | 0 => rfl
  | n + 1 => by
    show ra (sR (fun i => if i = s then ((1, 0, 0, 0) : R4) else (0, 0, 0, 0)) n) (if n = s then (1, 0, 0, 0) else (0, 0, 0, 0)) = _
    rw [sR_bs s n]
    by_cases e : n = s
    · rw [if_pos e, if_neg (by omega), if_pos (by omega)]
      rfl
    · rw [if_neg e]
      by_cases c : s < n
      · rw [if_pos c, if_pos (by omega)]
        rfl
      · rw [if_neg c, if_neg (by omega)]
        rfl
theorem ij_e {w i j s : Nat} (hi : i < 2 ^ w) (hs : s < 2 ^ w) : i + 2 ^ w * j = s + 2 ^ w * s ↔ i = s ∧ j = s := by
  constructor
  · intro h
    have a := congrArg (· % 2 ^ w) h
    have a : (i + 2 ^ w * j) % 2 ^ w = (s + 2 ^ w * s) % 2 ^ w := a
    rw [Nat.add_mul_mod_self_left, Nat.add_mul_mod_self_left, Nat.mod_eq_of_lt hi, Nat.mod_eq_of_lt hs] at a
    have b : 2 ^ w * j = 2 ^ w * s := by omega
    exact ⟨a, Nat.eq_of_mul_eq_mul_left (Nat.two_pow_pos w) b⟩
  · rintro ⟨rfl, rfl⟩
    rfl
theorem lg_new {w s : Nat} (hs : s < 2 ^ w) : lgD w 0 (bsD w s) := by
  refine ⟨⟨0, [(1, fun i => if i = s then (1, 0, 0, 0) else (0, 0, 0, 0))], fun i j hi hj => ?_⟩, ?_⟩
  · show (if i + 2 ^ w * j = s + 2 ^ w * s then ((1, 0, 0, 0) : R4) else (0, 0, 0, 0)) = ra (scl 1 (mu (if i = s then (1, 0, 0, 0) else (0, 0, 0, 0)) (cj (if j = s then (1, 0, 0, 0) else (0, 0, 0, 0))))) (0, 0, 0, 0)
    have e := ij_e (j := j) hi hs
    by_cases a : i = s <;> by_cases b : j = s
    · rw [if_pos (e.mpr ⟨a, b⟩), if_pos a, if_pos b]
      decide
    · rw [if_neg (fun q => b (e.mp q).2), if_pos a, if_neg b]
      decide
    · rw [if_neg (fun q => a (e.mp q).1), if_neg a, if_pos b]
      decide
    · rw [if_neg (fun q => a (e.mp q).1), if_neg a, if_neg b]
      decide
  · rw [sR_ext (G := fun i => if i = s then ((1, 0, 0, 0) : R4) else (0, 0, 0, 0)) (2 ^ w) (fun i hi => ?_), sR_bs, if_pos hs]
    · rfl
    · unfold bsD
      by_cases a : i = s
      · rw [if_pos a, if_pos (by rw [a])]
      · rw [if_neg a, if_neg (fun q => a ((ij_e hi hs).mp q).1)]
end DNF
