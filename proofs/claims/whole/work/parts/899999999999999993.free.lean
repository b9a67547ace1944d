/-! DIAGRAMS: the class's areFree and joinAll -/
/-- none is INPUT or OUTPUT, none has a PLAIN EDGE to another -/
def frP (inp : Nat) (W : WB) (S : Nat → Bool) : Prop := (∀ i j, S i = true → S j = true → W.2.2 i j ≠ 1) ∧ ∀ i, S i = true → 2 * inp ≤ i
theorem bit_ex {v : Int64} (h : ¬ v = 0) : ∃ i, i < 64 ∧ v.toBitVec.getLsbD i = true := by
  obtain ⟨j, h1, h2, _⟩ := low64 h
  exact ⟨j, h1, h2⟩
theorem bit_no {v : Int64} (h : ∀ i, i < 64 → v.toBitVec.getLsbD i = false) : v = 0 := by
  rw [l_0]
  intro i
  by_cases hi : i < 64
  · exact h i hi
  · exact BitVec.getLsbD_of_ge _ _ (by omega)
theorem bit_0 (i : Nat) : (0 : Int64).toBitVec.getLsbD i = false := by
  show (0#64).getLsbD i = false
  exact BitVec.getLsbD_zero
section FRC
variable {d m inp : Nat} {N : mm_M} {W : WB} {v : Int64} {S : Nat → Bool}
set_option maxRecDepth 100000 in
theorem fr_lp {Pp : am_Q} {X : am_X} (hX : am_K (d + 1) false nm_X10_areFree Pp X) (h : cwR N m inp W) (m60 : m ≤ 60) (hv : ∀ i, i < 64 → v.toBitVec.getLsbD i = S i) (hS : ∀ i, S i = true → i < m) (hN : ¬ (∀ i j, S i = true → S j = true → W.2.2 i j ≠ 1) → Pp (.inl (some (aI 0))) N) (hK : (∀ i j, S i = true → S j = true → W.2.2 i j ≠ 1) → X 41 [some (aR 39), some (aJ v), none, some (aI (nI m))] [] N) : ∀ w i, i + w = m → (∀ x j, x < i → S x = true → S j = true → W.2.2 x j ≠ 1) → X 2 [some (aR 39), some (aJ v), none, some (aI (nI i))] [] N := by
  intro w
  induction w with
  | zero =>
    intro i hi hd
    have hi : i = m := by omega
    subst hi
    refine am_run hX 4 _ _ _ _ ?_
    conv => whnf
    rw [h.1]
    refine ⟨fun _ => hK fun x j hx hj => hd x j (hS x hx) hx hj, fun c => absurd (nI_le (by omega) (by omega)) c⟩
  | succ w ih =>
    intro i hi hd
    have key := lb_us (x := v) (i := i) (by omega)
    rw [hv i (by omega)] at key
    have hI : vp_in (nI i) 60 := vp_in_nI (by omega) (by decide)
    have nx : (∀ j, S i = true → S j = true → W.2.2 i j ≠ 1) → X 35 [some (aR 39), some (aJ v), none, some (aI (nI i))] [] N := fun hq => by
      refine am_run hX 2 _ _ _ _ ?_
      conv => whnf
      rw [nI_1]
      refine ih (i + 1) (by omega) fun x j hx => ?_
      by_cases e : x = i
      · rw [e]
        exact hq j
      · exact hd x j (by omega)
    refine am_run hX 4 _ _ _ _ ?_
    conv => whnf
    rw [h.1]
    refine ⟨fun c => absurd c (nI_ge (by omega) (by omega)), fun _ => ?_⟩
    refine am_run hX 8 _ _ _ _ ?_
    conv => whnf
    cases hs : S i with
    | false =>
      rw [hs] at key
      exact ⟨fun _ => nx fun j z => absurd z (by rw [hs]; decide), fun c => absurd (key.mpr rfl) c⟩
    | true =>
      rw [hs] at key
      refine ⟨fun c => absurd (key.mp c) (by decide), fun _ => ?_⟩
      refine am_run hX 9 _ _ _ _ ?_
      conv => whnf
      refine ⟨hI, ?_⟩
      conv => whnf
      rw [nI_clamp (n := i) (by omega), lg_0]
      have bits : ∀ j, j < 64 → (N.2 40 i &&& v).toBitVec.getLsbD j = (decide (W.2.2 i j = 1) && S j) := fun j hj => by
        rw [Int64.toBitVec_and, BitVec.getLsbD_and, (h.2.2.2.2 i (by omega) j hj).1, hv j hj]
      refine ⟨fun z => nx fun j _ hj e => ?_, fun z => ?_⟩
      · have := bits j (by have := hS j hj; omega)
        rw [z, bit_0, decide_eq_true e, hj] at this
        exact absurd this (by decide)
      · obtain ⟨j, hj, hb⟩ := bit_ex z
        rw [bits j hj, Bool.and_eq_true] at hb
        refine am_run hX 2 _ _ _ _ ?_
        conv => whnf
        exact ⟨rfl, hN fun y => y i j hs hb.2 (of_decide_eq_true hb.1)⟩
set_option maxRecDepth 100000 in
theorem ct_frC (h : cwR N m inp W) (g : gdW m inp W) (hv : ∀ i, i < 64 → v.toBitVec.getLsbD i = S i) (hS : ∀ i, S i = true → i < m) : am_M (d + 2) false nm_X10_areFree [aR 39, aJ v] N (fun r M' => M' = N ∧ ((frP inp W S ∧ r = .inl (some (aI 1))) ∨ (¬ frP inp W S ∧ r = .inl (some (aI 0))))) := by
  have m60 := g.1
  refine ⟨rfl, rfl, rfl, fun X hX => am_run hX 2 _ _ _ _ ?_⟩
  conv => whnf
  refine fr_lp (d := d) hX h m60 hv hS (fun hno => ⟨rfl, Or.inr ⟨fun z => hno z.1, rfl⟩⟩) (fun hyes => ?_) m 0 (by omega) (fun x j hx => absurd hx (Nat.not_lt_zero _))
  refine am_run hX 7 _ _ _ _ ?_
  conv => whnf
  refine am_c1 (ct_out (d := d) h) ?_
  conv => whnf
  rw [lg_0]
  have bits : ∀ i, i < 64 → (v &&& outJ inp).toBitVec.getLsbD i = (S i && decide (i < 2 * inp)) := fun i hi => by
    rw [Int64.toBitVec_and, BitVec.getLsbD_and, hv i hi, out_b g.2.2.1 hi]
  refine ⟨fun z => ?_, fun z => ?_⟩
  · obtain ⟨j, hj, hb⟩ := bit_ex z
    rw [bits j hj, Bool.and_eq_true] at hb
    refine am_run hX 2 _ _ _ _ ?_
    conv => whnf
    refine ⟨rfl, rfl, Or.inr ⟨fun y => ?_, rfl⟩⟩
    have := y.2 j hb.1
    have := of_decide_eq_true hb.2
    omega
  · have z := Decidable.byContradiction z
    refine am_run hX 3 _ _ _ _ ?_
    conv => whnf
    refine ⟨rfl, rfl, Or.inl ⟨⟨hyes, fun i hi => Nat.le_of_not_lt fun y => ?_⟩, rfl⟩⟩
    have := bits i (by have := hS i hi; omega)
    rw [z, bit_0, hi, decide_eq_true y] at this
    exact absurd this (by decide)
/-- joined to all of these -/
def jaW (W : WB) (i : Nat) (S : Nat → Bool) : Nat → WB
  | 0 => W
  | j + 1 => if S j = true then jnW (jaW W i S j) i j 2 else jaW W i S j
theorem ja_p {i j : Nat} (h : S j = true) : jaW W i S (j + 1) = jnW (jaW W i S j) i j 2 := if_pos h
theorem ja_n {i j : Nat} (h : ¬ S j = true) : jaW W i S (j + 1) = jaW W i S j := if_neg h
theorem ja_T {i : Nat} : ∀ n, (jaW W i S n).1 = W.1
  | 0 => rfl
  | n + 1 => by
    by_cases h : S n = true
    · rw [ja_p h, jn_T, ja_T n]
    · rw [ja_n h, ja_T n]
theorem ja_gd {i : Nat} (g : gdW m inp W) (hi : W.1 i = true) (hs : ∀ j, S j = true → W.1 j = true ∧ j ≠ i) : ∀ n, gdW m inp (jaW W i S n)
  | 0 => g
  | n + 1 => by
    have ih := ja_gd g hi hs n
    by_cases h : S n = true
    · rw [ja_p h]
      exact gd_jn ih (by rw [ja_T]; exact hi) (by rw [ja_T]; exact (hs n h).1) (fun z => (hs n h).2 z.symm) (Or.inr rfl)
    · rw [ja_n h]
      exact ih
set_option maxRecDepth 100000 in
theorem ja_l {i : Nat} {N0 : mm_M} {Pp : am_Q} {X : am_X} (hX : am_K (d + 2) false nm_X10_joinAll Pp X) (g : gdW m inp W) (hi : W.1 i = true) (hs : ∀ j, S j = true → W.1 j = true ∧ j ≠ i) (hv : ∀ i, i < 64 → v.toBitVec.getLsbD i = S i) (hP : ∀ N, cwK N0 N → cwR N m inp (jaW W i S m) → Pp (.inl none) N) : ∀ w j N, j + w = m → cwK N0 N → cwR N m inp (jaW W i S j) → X 3 [some (aR 39), some (aI (nI i)), some (aJ v), none, some (aI (nI j))] [] N := by
  have m60 := g.1
  have li := g.2.2.2.2.1 i hi
  intro w
  induction w with
  | zero =>
    intro j N hj hf h
    have hj : j = m := by omega
    subst hj
    refine am_run hX 5 _ _ _ _ ?_
    conv => whnf
    rw [h.1]
    refine ⟨fun _ => ?_, fun c => absurd (nI_le (by omega) (by omega)) c⟩
    conv => whnf
    exact ⟨trivial, hP N hf h⟩
  | succ w ih =>
    intro j N hj hf h
    have key := lb_us (x := v) (i := j) (by omega)
    rw [hv j (by omega)] at key
    have nx : ∀ N', cwK N0 N' → cwR N' m inp (jaW W i S (j + 1)) → X 31 [some (aR 39), some (aI (nI i)), some (aJ v), none, some (aI (nI j))] [] N' := fun N' f' h' => by
      refine am_run hX 2 _ _ _ _ ?_
      conv => whnf
      rw [nI_1]
      exact ih (j + 1) N' (by omega) f' h'
    refine am_run hX 4 _ _ _ _ ?_
    conv => whnf
    rw [h.1]
    refine ⟨fun c => absurd c (nI_ge (by omega) (by omega)), fun _ => ?_⟩
    refine am_run hX 8 _ _ _ _ ?_
    conv => whnf
    cases hsj : S j with
    | false =>
      rw [hsj] at key
      exact ⟨fun _ => nx N hf (by rw [ja_n (by rw [hsj]; decide)]; exact h), fun c => absurd (key.mpr rfl) c⟩
    | true =>
      rw [hsj] at key
      refine ⟨fun c => absurd (key.mp c) (by decide), fun _ => ?_⟩
      have gj := ja_gd g hi hs j
      refine am_run hX 5 _ _ _ _ ?_
      conv => whnf
      refine am_cq (ct_jnC (d := d) (a := i) (b := j) (t := 1) h m60 (gj.2.2.2.2.2.2.2.2.1 i j) (gj.2.2.2.2.2.2.1 j i) (fun z => (hs j hsj).2 z.symm) li (by omega) (by decide)) ?_
      rintro r N' ⟨rfl, f', h'⟩
      refine ⟨none, rfl, ?_⟩
      conv => whnf
      exact nx N' (cwK_t hf f') (by rw [ja_p hsj]; exact h')
set_option maxRecDepth 100000 in
theorem ct_jaC {i : Nat} (h : cwR N m inp W) (g : gdW m inp W) (hi : W.1 i = true) (hs : ∀ j, S j = true → W.1 j = true ∧ j ≠ i) (hv : ∀ i, i < 64 → v.toBitVec.getLsbD i = S i) : am_M (d + 3) false nm_X10_joinAll [aR 39, aI (nI i), aJ v] N (fun r N' => r = .inl none ∧ cwK N N' ∧ cwR N' m inp (jaW W i S m)) := by
  refine ⟨rfl, rfl, rfl, fun X hX => am_run hX 2 _ _ _ _ ?_⟩
  conv => whnf
  exact ja_l (d := d) (N0 := N) hX g hi hs hv (fun N' f' h' => ⟨rfl, f', h'⟩) m 0 N (by omega) cwK_r h
end FRC
