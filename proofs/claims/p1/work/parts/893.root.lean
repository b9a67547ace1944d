/-! ROOTS: the class tells the parts of one -/
/-- numbers that stay far from a long's end -/
def bd (x : R4) : Prop := (-2 ^ 61 ≤ x.1 ∧ x.1 ≤ 2 ^ 61) ∧ (-2 ^ 61 ≤ x.2.1 ∧ x.2.1 ≤ 2 ^ 61) ∧ (-2 ^ 61 ≤ x.2.2.1 ∧ x.2.2.1 ≤ 2 ^ 61) ∧ (-2 ^ 61 ≤ x.2.2.2 ∧ x.2.2.2 ≤ 2 ^ 61)
theorem bd_hv {x : R4} (h : bd x) : bd (hv x) := by
  obtain ⟨a, b, c, d⟩ := x
  simp only [bd, hv] at *
  omega
theorem lor_0 (a b : Int64) : a ||| b = 0 ↔ a = 0 ∧ b = 0 := by
  rw [l_0, l_0, l_0]
  constructor
  · intro h
    constructor
    · intro i
      have := h i
      rw [Int64.toBitVec_or, BitVec.getLsbD_or] at this
      cases ha : a.toBitVec.getLsbD i with
      | false => rfl
      | true => rw [ha] at this; simp at this
    · intro i
      have := h i
      rw [Int64.toBitVec_or, BitVec.getLsbD_or] at this
      cases hb : b.toBitVec.getLsbD i with
      | false => rfl
      | true => rw [hb] at this; simp at this
  · intro h i
    rw [Int64.toBitVec_or, BitVec.getLsbD_or, h.1 i, h.2 i]
    rfl
theorem bd_0 {x : R4} (h : bd x) : lI x.1 ||| lI x.2.1 ||| lI x.2.2.1 ||| lI x.2.2.2 = 0 ↔ x = (0, 0, 0, 0) := by
  obtain ⟨a, b, c, d⟩ := x
  simp only [bd] at h
  show lI a ||| lI b ||| lI c ||| lI d = 0 ↔ _
  rw [lor_0, lor_0, lor_0, lI_0 (by omega) (by omega), lI_0 (by omega) (by omega), lI_0 (by omega) (by omega), lI_0 (by omega) (by omega)]
  simp only [Prod.mk.injEq]
  constructor
  · rintro ⟨⟨⟨h1, h2⟩, h3⟩, h4⟩; exact ⟨h1, h2, h3, h4⟩
  · rintro ⟨h1, h2, h3, h4⟩; exact ⟨⟨⟨h1, h2⟩, h3⟩, h4⟩
/-- a part of a ROOT -/
def rp (y : R4 × Nat) (q : Int32) : Int64 := if q = 0 then lI y.1.1 else if q = 1 then lI y.1.2.1 else if q = 2 then lI y.1.2.2.1 else if q = 3 then lI y.1.2.2.2 else (nI y.2).toInt64
section RTP
variable {d : Nat} {M : mm_M}
set_option maxRecDepth 100000 in
theorem rt_e {X : am_X} {x : R4} {j : Nat} {q : Int32} {F : R4 × Nat} (hX : am_K d false nm_X6_rootPart (am_q1 (aJ (rp F q)) M) X) (hF : (x, j) = F) (l8 l11 l12 l13 l14 : Option am_V) : X 93 [some (aJ (lI x.1)), none, some (aJ (lI x.2.1)), none, some (aJ (lI x.2.2.1)), none, some (aJ (lI x.2.2.2)), none, l8, some (aI q), some (aI (nI j)), l11, l12, l13, l14] [] M := by
  subst hF
  unfold rp at hX
  refine am_run hX 10 _ _ _ _ ?_
  conv => whnf
  refine ⟨fun e => ?_, fun e0 => ?_⟩
  · conv => whnf
    exact ⟨trivial, by rw [if_pos e], rfl⟩
  · refine ⟨fun e => ?_, fun e1 => ?_⟩
    · conv => whnf
      exact ⟨trivial, by rw [if_neg e0, if_pos e], rfl⟩
    · refine ⟨fun e => ?_, fun e2 => ?_⟩
      · conv => whnf
        exact ⟨trivial, by rw [if_neg e0, if_neg e1, if_pos e], rfl⟩
      · refine ⟨fun e => ?_, fun e3 => ?_⟩
        · conv => whnf
          exact ⟨trivial, by rw [if_neg e0, if_neg e1, if_neg e2, if_pos e], rfl⟩
        · conv => whnf
          exact ⟨trivial, by rw [if_neg e0, if_neg e1, if_neg e2, if_neg e3], rfl⟩
set_option maxRecDepth 100000 in
theorem rt_l {X : am_X} {q : Int32} {F : R4 × Nat} (hX : am_K d false nm_X6_rootPart (am_q1 (aJ (rp F q)) M) X) (l8 : Option am_V) : ∀ (j : Nat) (x : R4), j < 2 ^ 31 → bd x → (x = (0, 0, 0, 0) → j = 0) → red j x = F → ∀ l11 l12 l13 l14, X 22 [some (aJ (lI x.1)), none, some (aJ (lI x.2.1)), none, some (aJ (lI x.2.2.1)), none, some (aJ (lI x.2.2.2)), none, l8, some (aI q), some (aI (nI j)), l11, l12, l13, l14] [] M := by
  intro j
  induction j with
  | zero =>
    intro x hj hb h0 hF l11 l12 l13 l14
    refine am_run hX 2 _ _ _ _ ?_
    conv => whnf
    exact ⟨fun _ => rt_e hX hF _ _ _ _ _, fun c => absurd (by decide) c⟩
  | succ j ih =>
    intro x hj hb h0 hF l11 l12 l13 l14
    have hx : ¬ x = (0, 0, 0, 0) := fun e => by have := h0 e; omega
    have hbb := hb
    simp only [bd] at hbb
    simp only [red] at hF
    rw [if_neg hx] at hF
    refine am_run hX 2 _ _ _ _ ?_
    conv => whnf
    refine ⟨fun c => absurd c (nI_nle (by omega) hj), fun _ => ?_⟩
    refine am_run hX 8 _ _ _ _ ?_
    conv => whnf
    rw [lI_sub, lg_0, lI_par]
    refine ⟨fun c1 => ?_, fun c1 => ?_⟩
    · refine rt_e hX ?_ _ _ _ _ _
      rw [← hF, if_neg (fun q => c1 ((dvB_iff x).mp q).1)]
    · have c1 : (x.1 - x.2.2.1) % 2 = 0 := Decidable.byContradiction c1
      refine am_run hX 8 _ _ _ _ ?_
      conv => whnf
      rw [lI_sub, lg_0, lI_par]
      refine ⟨fun c2 => ?_, fun c2 => ?_⟩
      · refine rt_e hX ?_ _ _ _ _ _
        rw [← hF, if_neg (fun q => c2 ((dvB_iff x).mp q).2)]
      · have c2 : (x.2.1 - x.2.2.2) % 2 = 0 := Decidable.byContradiction c2
        rw [if_pos ((dvB_iff x).mpr ⟨c1, c2⟩)] at hF
        refine am_run hX 30 _ _ _ _ ?_
        conv => whnf
        rw [lI_add, lI_sub, lI_sub, lI_add, lI_sh (by omega) (by omega), lI_sh (by omega) (by omega), lI_sh (by omega) (by omega), lI_sh (by omega) (by omega), nI_m1']
        refine ih (hv x) (by omega) (bd_hv hb) (fun e => ?_) hF _ _ _ _
        exfalso
        apply hx
        rw [← rr_hv ⟨c1, c2⟩, e]
        rfl
set_option maxRecDepth 100000 in
theorem ct_root {x : R4} {k : Nat} (q : Int32) (hk : k < 2 ^ 31) (hb : bd x) : am_M (d + 1) false nm_X6_rootPart [aJ (lI x.1), aJ (lI x.2.1), aJ (lI x.2.2.1), aJ (lI x.2.2.2), aI (nI k), aI q] M (am_q1 (aJ (rp (red k x) q)) M) := by
  refine ⟨rfl, rfl, rfl, fun X hX => am_run hX 10 _ _ _ _ ?_⟩
  conv => whnf
  rw [lg_0, bd_0 hb]
  refine ⟨fun hc => ?_, fun hc => ?_⟩
  · refine am_run hX 2 _ _ _ _ ?_
    conv => whnf
    exact rt_l hX _ k x hk hb (fun e => absurd e hc) rfl _ _ _ _
  · have hc : x = (0, 0, 0, 0) := by
      apply Classical.byContradiction
      exact hc
    refine am_run hX 3 _ _ _ _ ?_
    conv => whnf
    refine rt_l hX _ 0 x (by decide) hb (fun _ => rfl) ?_ _ _ _ _
    rw [hc, red_0, red_0]
end RTP
