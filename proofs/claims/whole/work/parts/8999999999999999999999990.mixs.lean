/-! mix: measured and reset, both alike -/
def ceB (W r a b : Nat) : Bool := (decide ((a + 2 ^ W * b) &&& boW W r = 2 ^ r ∨ (a + 2 ^ W * b) &&& boW W r = 2 ^ r * 2 ^ W) == !decide ((a ^^^ b) &&& 2 ^ r = 0)) && ((decide ((a + 2 ^ W * b) &&& boW W r = 0) == decide (a &&& 2 ^ r = 0 ∧ b &&& 2 ^ r = 0)) && ((decide ((a + 2 ^ W * b) &&& boW W r = boW W r) == decide (¬ a &&& 2 ^ r = 0 ∧ ¬ b &&& 2 ^ r = 0)) && decide ((a + 2 ^ W * b) ||| boW W r = (a ||| 2 ^ r) + 2 ^ W * (b ||| 2 ^ r))))
theorem ce_all : ∀ W, W < 4 → ∀ r, r < W → ∀ a, a < 2 ^ W → ∀ b, b < 2 ^ W → ceB W r a b = true := by decide +kernel
theorem ce_f {W r a b : Nat} (hW : W ≤ 3) (hr : r < W) (ha : a < 2 ^ W) (hb : b < 2 ^ W) : (((a + 2 ^ W * b) &&& boW W r = 2 ^ r ∨ (a + 2 ^ W * b) &&& boW W r = 2 ^ r * 2 ^ W) ↔ ¬ (a ^^^ b) &&& 2 ^ r = 0) ∧ ((a + 2 ^ W * b) &&& boW W r = 0 ↔ (a &&& 2 ^ r = 0 ∧ b &&& 2 ^ r = 0)) ∧ ((a + 2 ^ W * b) &&& boW W r = boW W r ↔ (¬ a &&& 2 ^ r = 0 ∧ ¬ b &&& 2 ^ r = 0)) ∧ (a + 2 ^ W * b) ||| boW W r = (a ||| 2 ^ r) + 2 ^ W * (b ||| 2 ^ r) := by
  have h := ce_all W (by omega) r hr a ha b hb
  unfold ceB at h
  rw [Bool.and_eq_true, Bool.and_eq_true, Bool.and_eq_true, beq_iff_eq, beq_iff_eq, beq_iff_eq, decide_eq_true_eq, ← decide_not, decide_eq_decide, decide_eq_decide, decide_eq_decide] at h
  exact h
section MXS
variable {d W r K : Nat} {M : mm_M} {xs : Nat → R4}
theorem wp_m1 (hW : W ≤ 3) (hr : r < W) {a b : Nat} (ha : a < 2 ^ W) (hb : b < 2 ^ W) : m1R (2 ^ r) (fun a b => xs (a + 2 ^ W * b)) (2 ^ W) 0 a b = wpN W r xs (a + 2 ^ W * b) := by
  have h := (ce_f hW hr ha hb).1
  unfold wpN
  by_cases c : (a ^^^ b) &&& 2 ^ r = 0
  · rw [if_neg (fun z => h.mp z c)]
    exact iteR_f fun z => z.2 c
  · rw [if_pos (h.mpr c)]
    exact iteR_t ⟨Or.inl ha, c⟩
theorem pd_m2 (hW : W ≤ 3) (hr : r < W) {ys : Nat → R4} {a b : Nat} (ha : a < 2 ^ W) (hb : b < 2 ^ W) : m2R (2 ^ r) (fun a b => ys (a + 2 ^ W * b)) (2 ^ W) 0 a b = pdN W r ys (a + 2 ^ W * b) := by
  obtain ⟨_, h1, h2, h3⟩ := ce_f hW hr ha hb
  have xa : a ^^^ 2 ^ r < 2 ^ W := Nat.xor_lt_two_pow (n := W) ha (Nat.pow_lt_pow_right (a := 2) (by decide) hr)
  unfold pdN
  by_cases c1 : a &&& 2 ^ r = 0 ∧ b &&& 2 ^ r = 0
  · rw [if_pos (h1.mpr c1), m2R_1 ⟨c1.1, c1.2, Or.inl ha⟩, h3]
  · rw [if_neg (fun z => c1 (h1.mp z))]
    by_cases c2 : ¬ a &&& 2 ^ r = 0 ∧ ¬ b &&& 2 ^ r = 0
    · rw [if_pos (h2.mpr c2), m2R_2 ⟨c2.1, c2.2, Or.inl xa⟩]
    · rw [if_neg (fun z => c2 (h2.mp z)), m2R_3 (fun z => c1 ⟨z.1, z.2.1⟩) (fun z => c2 ⟨z.1, z.2.1⟩)]
theorem sq_60 {a : Int} (h : a * a ≤ 2 ^ 120) : -2 ^ 60 ≤ a ∧ a ≤ 2 ^ 60 := by
  have e : (2 : Int) ^ 120 = 2 ^ 60 * 2 ^ 60 := by decide
  have p : (0 : Int) < 2 ^ 60 := by decide
  constructor
  · apply Decidable.byContradiction
    intro c
    have : (2 ^ 60) * (2 ^ 60) < (-a) * (-a) := Int.mul_lt_mul (by omega) (by omega) p (by omega)
    rw [Int.neg_mul_neg] at this
    omega
  · apply Decidable.byContradiction
    intro c
    have : (2 ^ 60) * (2 ^ 60) < a * a := Int.mul_lt_mul (by omega) (by omega) p (by omega)
    omega
theorem nrm_2 {x y : R4} (h : nrm x ≤ 2 ^ 120) (h' : nrm y ≤ 2 ^ 120) : bd (ra x y) := by
  unfold nrm at h h'
  have a := sq_0 x.1
  have b := sq_0 x.2.1
  have c := sq_0 x.2.2.1
  have e := sq_0 x.2.2.2
  have a' := sq_0 y.1
  have b' := sq_0 y.2.1
  have c' := sq_0 y.2.2.1
  have e' := sq_0 y.2.2.2
  have A := sq_60 (a := x.1) (by omega)
  have B := sq_60 (a := x.2.1) (by omega)
  have C := sq_60 (a := x.2.2.1) (by omega)
  have E := sq_60 (a := x.2.2.2) (by omega)
  have A' := sq_60 (a := y.1) (by omega)
  have B' := sq_60 (a := y.2.1) (by omega)
  have C' := sq_60 (a := y.2.2.1) (by omega)
  have E' := sq_60 (a := y.2.2.2) (by omega)
  unfold ra
  refine ⟨⟨?_, ?_⟩, ⟨?_, ?_⟩, ⟨?_, ?_⟩, ⟨?_, ?_⟩⟩ <;> dsimp only <;> omega
theorem wp_n {c : Nat} : nrm (wpN W r xs c) ≤ nrm (xs c) := by
  unfold wpN
  by_cases q : c &&& boW W r = 2 ^ r ∨ c &&& boW W r = 2 ^ r * 2 ^ W
  · rw [if_pos q]
    exact nrm0 _
  · rw [if_neg q]
    exact Int.le_refl _
set_option maxRecDepth 100000 in
theorem ct_mixM {f : Nat} (hf : f = 0 ∨ f = 1) (hW : W ≤ 3) (hr : r < W) (hK : K ≤ 120) (e88 : M.1 108 88 = nI W) (hb : ∀ c, c < 2 ^ (2 * W) → nrm (xs c) ≤ 2 ^ 120) (hY : ceS M W K (fun a b => xs (a + 2 ^ W * b))) : am_M (d + 3) false nm_X12_mixMeasured [aR 108, aI (nI r), aI (nI f)] M (fun t N => t = .inl none ∧ moF M N ∧ ceS N W K (fun a b => (if f = 1 then pdN W r (wpN W r xs) else wpN W r xs) (a + 2 ^ W * b))) := by
  have w8 : 2 ^ W ≤ 8 := (Nat.pow_le_pow_right (n := 2) (by decide) hW : 2 ^ W ≤ 2 ^ 3)
  have pr : 2 ^ r < 8 := Nat.lt_of_lt_of_le (Nat.pow_lt_pow_right (a := 2) (by decide) hr) w8
  have cl : ∀ a b, a < 2 ^ W → b < 2 ^ W → a + 2 ^ W * b < 2 ^ (2 * W) := fun a b ha hb => by
    rw [n22]
    have : 2 ^ W * b + 2 ^ W ≤ 2 ^ W * 2 ^ W := by
      rw [← Nat.mul_succ]
      exact Nat.mul_le_mul_left _ hb
    omega
  refine ⟨rfl, rfl, rfl, fun X hX => am_run hX 6 _ _ _ _ ?_⟩
  conv => whnf
  rw [sh2 r (by omega)]
  refine mm_i1' (d := d + 1) (M := M) (Y := fun a b => xs (a + 2 ^ W * b)) (K := K) hX hW pr e88 (fun N l4 l5 f1 h1 => ?_) (2 ^ W) 0 M _ (by omega) (moF_r M) (fun a b ha hb' => ?_)
  · have h2 : ceS N W K (fun a b => wpN W r xs (a + 2 ^ W * b)) := fun a b ha hb' => by
      have := h1 a b ha hb'
      rw [wp_m1 hW hr ha hb'] at this
      exact this
    refine am_run hX 2 _ _ _ _ ?_
    conv => whnf
    rcases hf with rfl | rfl
    · refine am_run hX 6 _ _ _ _ ?_
      conv => whnf
      rw [f1.1, e88, sh2 W (by omega)]
      have p := Nat.pow_pos (n := W) (show 0 < 2 by decide)
      refine ⟨fun c => absurd c (nI_ge (a := 0) p (by omega)), fun _ => ?_⟩
      refine am_run hX 2 _ _ _ _ ?_
      conv => whnf
      refine ⟨fun _ => ?_, fun c => absurd rfl c⟩
      refine am_run hX 1 _ _ _ _ ?_
      conv => whnf
      exact ⟨trivial, rfl, f1, h2⟩
    · refine mxr_i (d := d) (M := M) (K := K) (Z := fun a b => wpN W r xs (a + 2 ^ W * b)) hX hW hr hK e88 (fun a b a' b' ha hb1 ha' hb2 => ?_) (fun N1 f2 h3 => ?_) (2 ^ W) 0 N _ (by omega) f1 (fun a b ha hb' => ?_)
      · exact nrm_2 (Int.le_trans wp_n (hb _ (cl a b ha hb1))) (Int.le_trans wp_n (hb _ (cl a' b' ha' hb2)))
      · refine ⟨rfl, f2, fun a b ha hb' => ?_⟩
        have := h3 a b ha hb'
        rw [pd_m2 hW hr ha hb'] at this
        exact this
      · rw [m2R_3 (fun z => by have := z.2.2; unfold lx at this; omega) (fun z => by have := z.2.2; unfold lx at this; omega)]
        exact h2 a b ha hb'
  · have e : m1R (2 ^ r) (fun a b => xs (a + 2 ^ W * b)) 0 0 a b = xs (a + 2 ^ W * b) := iteR_f fun z => by
      have := z.1
      unfold lx at this
      omega
    rw [e]
    exact hY a b ha hb'
end MXS
