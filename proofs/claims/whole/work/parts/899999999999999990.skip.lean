/-! DIAGRAMS: a SPIDER is passed: the two neighbours -/
theorem sm_0x {f : Nat → Nat} : ∀ n, sm f n = 0 → ∀ x, x < n → f x = 0
  | 0, _, x, hx => absurd hx (Nat.not_lt_zero _)
  | n + 1, h, x, hx => by
    have h : sm f n + f n = 0 := h
    by_cases e : x = n
    · rw [e]; omega
    · exact sm_0x n (by omega) x (by omega)
theorem sm_1x {f : Nat → Nat} (hf : ∀ j, f j ≤ 1) : ∀ n, sm f n = 1 → ∃ c, c < n ∧ f c = 1 ∧ ∀ x, x < n → f x ≠ 0 → x = c
  | 0, h => absurd h (fun z => by cases z)
  | n + 1, h => by
    have h : sm f n + f n = 1 := h
    have := hf n
    by_cases e : f n = 1
    · refine ⟨n, by omega, e, fun x hx hz => ?_⟩
      by_cases ex : x = n
      · exact ex
      · exact absurd (sm_0x n (by omega) x (by omega)) hz
    · obtain ⟨c, h1, h2, h3⟩ := sm_1x hf n (by omega)
      refine ⟨c, by omega, h2, fun x hx hz => ?_⟩
      by_cases ex : x = n
      · rw [ex] at hz
        omega
      · exact h3 x (by omega) hz
theorem sm_2x {f : Nat → Nat} (hf : ∀ j, f j ≤ 1) : ∀ n, sm f n = 2 → ∃ c e, c < e ∧ e < n ∧ f c = 1 ∧ f e = 1 ∧ ∀ x, x < n → f x ≠ 0 → x = c ∨ x = e
  | 0, h => absurd h (fun z => by cases z)
  | n + 1, h => by
    have h : sm f n + f n = 2 := h
    have := hf n
    by_cases e : f n = 1
    · obtain ⟨c, h1, h2, h3⟩ := sm_1x hf n (by omega)
      refine ⟨c, n, h1, by omega, h2, e, fun x hx hz => ?_⟩
      by_cases ex : x = n
      · exact Or.inr ex
      · exact Or.inl (h3 x (by omega) hz)
    · obtain ⟨c, d, h1, h2, h3, h4, h5⟩ := sm_2x hf n (by omega)
      refine ⟨c, d, h1, by omega, h3, h4, fun x hx hz => ?_⟩
      by_cases ex : x = n
      · rw [ex] at hz
        omega
      · exact h5 x (by omega) hz
/-- just these two are its neighbours -/
def nbW (W : WB) (a c e : Nat) : Prop := c < e ∧ ∀ x, W.2.2 a x ≠ 0 ↔ x = c ∨ x = e
theorem dg_2 {m inp a : Nat} {W : WB} (g : gdW m inp W) (h : dgW W a = 2) : ∃ c e, nbW W a c e := by
  have m60 := g.1
  obtain ⟨c, e, h1, h2, h3, h4, h5⟩ := sm_2x (f := fun j => if W.2.2 a j = 0 then 0 else 1) (fun j => by
    try dsimp only
    by_cases z : W.2.2 a j = 0
    · rw [if_pos z]; decide
    · rw [if_neg z]; decide) 60 h
  have on : ∀ x, (if W.2.2 a x = 0 then 0 else 1) = 1 → W.2.2 a x ≠ 0 := fun x hx z => by
    rw [if_pos z] at hx
    exact absurd hx (by decide)
  refine ⟨c, e, h1, fun x => ⟨fun hz => ?_, ?_⟩⟩
  · have := g.2.2.2.2.1 x (g.2.2.2.2.2.2.2.2.2.1 a x hz).2
    refine h5 x (by omega) ?_
    try dsimp only
    rw [if_neg hz]
    decide
  · rintro (rfl | rfl)
    · exact on _ h3
    · exact on _ h4
theorem rst64 (v : Int64) (i : Nat) (hi : i < 64) : (v &&& (v - 1)).toBitVec.getLsbD i = (v.toBitVec.getLsbD i && decide (∃ k, k < i ∧ v.toBitVec.getLsbD k = true)) := by
  have e : (v - 1).toBitVec = ~~~(-v.toBitVec) := by
    show v.toBitVec - 1#64 = ~~~(-v.toBitVec)
    rw [BitVec.not_eq_neg_add, BitVec.neg_neg]
  show (v.toBitVec &&& (v - 1).toBitVec).getLsbD i = _
  rw [e, BitVec.getLsbD_and, BitVec.getLsbD_not, BitVec.getLsbD_neg]
  cases v.toBitVec.getLsbD i with
  | false => rfl
  | true => simp [hi]
/-- INPUTS and OUTPUTS -/
def outJ (inp : Nat) : Int64 := bw (2 * inp) - 1
theorem out_b {inp i : Nat} (h : inp ≤ 4) (hi : i < 64) : (outJ inp).toBitVec.getLsbD i = decide (i < 2 * inp) := by
  have : ∀ inp, inp < 5 → ∀ i, i < 64 → (outJ inp).toBitVec.getLsbD i = decide (i < 2 * inp) := by decide +kernel
  exact this inp (by omega) i hi
theorem outn_b {inp i : Nat} (h : inp ≤ 4) (hi : i < 64) : (outJ inp ^^^ -1).toBitVec.getLsbD i = decide (2 * inp ≤ i) := by
  have : ∀ inp, inp < 5 → ∀ i, i < 64 → (outJ inp ^^^ -1).toBitVec.getLsbD i = decide (2 * inp ≤ i) := by decide +kernel
  exact this inp (by omega) i hi
section SKP
variable {d m inp : Nat} {N : mm_M} {W : WB}
set_option maxRecDepth 100000 in
theorem ct_out (h : cwR N m inp W) : am_M (d + 1) false nm_X10_outer [aR 39] N (am_q1 (aJ (outJ inp)) N) := by
  refine ⟨rfl, rfl, rfl, fun X hX => am_run hX 20 _ _ _ _ ?_⟩
  conv => whnf
  rw [h.2.1, show (2 : Int32) = nI 2 from rfl, nI_mul]
  exact ⟨trivial, rfl, rfl⟩
end SKP
