/-! DIAGRAMS: one way of a MEANING, at the reference -/
def b1 (t : Bool) : Nat := bif t then 1 else 0
/-- phases of the inner ones -/
def egI (W : WB) (u : Nat → Bool) (κ : Nat → Nat) : Nat → Nat
  | 0 => 0
  | t + 1 => egI W u κ t + b1 (u (κ t)) * W.2.1 (κ t)
/-- TURNED EDGES to those below -/
def prJ (W : WB) (u : Nat → Bool) (i : Nat) : Nat → Nat
  | 0 => 0
  | j + 1 => prJ W u i j + (if W.2.2 i j = 2 ∧ u i = true ∧ u j = true then 4 else 0)
def prI (W : WB) (u : Nat → Bool) : Nat → Nat
  | 0 => 0
  | i + 1 => prI W u i + (if W.1 i = true then prJ W u i i else 0)
def wyR (W : WB) (u : Nat → Bool) : Prop := ∀ i j, j < i → W.2.2 i j = 1 → u i = u j
section WYR
variable {d m inp n : Nat} {N : mm_M} {W : WB} {u : Nat → Bool} {κ : Nat → Nat}
theorem prJ_b {i : Nat} : ∀ j, prJ W u i j ≤ 4 * j
  | 0 => Nat.le_refl _
  | j + 1 => by
    have := prJ_b (i := i) j
    show prJ W u i j + (if W.2.2 i j = 2 ∧ u i = true ∧ u j = true then 4 else 0) ≤ 4 * (j + 1)
    by_cases h : W.2.2 i j = 2 ∧ u i = true ∧ u j = true
    · rw [if_pos h]; omega
    · rw [if_neg h]; omega
theorem prI_b : ∀ i, i ≤ 60 → prI W u i ≤ 240 * i
  | 0, _ => Nat.le_refl _
  | i + 1, hi => by
    have := prI_b i (by omega)
    have := prJ_b (W := W) (u := u) (i := i) i
    show prI W u i + (if W.1 i = true then prJ W u i i else 0) ≤ 240 * (i + 1)
    by_cases h : W.1 i = true
    · rw [if_pos h]; omega
    · rw [if_neg h]; omega
theorem egI_b (g : gdW m inp W) (hκ : ∀ t, t < n → W.1 (κ t) = true) : ∀ t, t ≤ n → egI W u κ t ≤ 8 * t
  | 0, _ => Nat.le_refl _
  | t + 1, ht => by
    have := egI_b g hκ t (by omega)
    have := g.2.2.2.2.2.2.2.2.2.2 (κ t) (hκ t (by omega))
    show egI W u κ t + b1 (u (κ t)) * W.2.1 (κ t) ≤ 8 * (t + 1)
    cases u (κ t) with
    | true =>
      show egI W u κ t + 1 * W.2.1 (κ t) ≤ 8 * (t + 1)
      omega
    | false =>
      show egI W u κ t + 0 * W.2.1 (κ t) ≤ 8 * (t + 1)
      omega
/-- what is given: 1 or 0 for each SPIDER -/
def gvR (N : mm_M) (W : WB) (u : Nat → Bool) : Prop := ∀ i, W.1 i = true → N.1 175 i = nI (b1 (u i))
set_option maxRecDepth 100000 in
theorem wr_1 {Pp : am_Q} {X : am_X} (hX : am_K d false nm_X12_addWay Pp X) (h : rwR N inp W) (g : gdW m inp W) (hn : n ≤ 60) (hg : gvR N W u) (hκ : ∀ t, t < n → W.1 (κ t) = true ∧ N.1 174 t = nI (κ t)) (hK : X 41 [some (aR 108), some (aI (nI n)), some (aI (nI (egI W u κ n))), some (aI (nI n)), none, none] [] N) : ∀ w t, t + w = n → X 4 [some (aR 108), some (aI (nI n)), some (aI (nI (egI W u κ t))), some (aI (nI t)), none, none] [] N := by
  have m60 := g.1
  intro w
  induction w with
  | zero =>
    intro t ht
    have ht : t = n := by omega
    subst ht
    refine am_run hX 3 _ _ _ _ ?_
    conv => whnf
    exact ⟨fun _ => hK, fun c => absurd (nI_le (by omega) (by omega)) c⟩
  | succ w ih =>
    intro t ht
    obtain ⟨tt, e1⟩ := hκ t (by omega)
    have lk := g.2.2.2.2.1 (κ t) tt
    have hI : vp_in (nI t) 60 := vp_in_nI (by omega) (by decide)
    have hJ : vp_in (nI (κ t)) 60 := vp_in_nI (by omega) (by decide)
    refine am_run hX 3 _ _ _ _ ?_
    conv => whnf
    refine ⟨fun c => absurd c (nI_ge (by omega) (by omega)), fun _ => ?_⟩
    refine am_run hX 20 _ _ _ _ ?_
    conv => whnf
    refine ⟨hI, ?_⟩
    conv => whnf
    rw [nI_clamp (n := t) (by omega), e1]
    refine ⟨hJ, ?_⟩
    conv => whnf
    refine ⟨hI, ?_⟩
    conv => whnf
    rw [nI_clamp (n := t) (by omega), e1]
    refine ⟨hJ, ?_⟩
    conv => whnf
    rw [nI_clamp (n := κ t) (by omega), hg (κ t) tt, h.2.2.2.1 (κ t) tt, nI_mul, nI_add, nI_1]
    exact ih (t + 1) (by omega)
set_option maxRecDepth 100000 in
theorem wr_99 {i j q : Nat} {Pp : am_Q} {X : am_X} {vn : Int32} (hX : am_K d false nm_X12_addWay Pp X) (e2 : W.2.2 i j ≤ 2) (hg : gvR N W u) (ti : W.1 i = true) (tj : W.2.2 i j ≠ 0 → W.1 j = true) (li : i < 60) (lj : j < 60) (hK : ∀ l5, X 52 [some (aR 108), some (aI vn), some (aI (nI (q + if W.2.2 i j = 2 ∧ u i = true ∧ u j = true then 4 else 0))), some (aI (nI i)), some (aI (nI (j + 1))), l5] [] N) : X 99 [some (aR 108), some (aI vn), some (aI (nI q)), some (aI (nI i)), some (aI (nI j)), some (aI (nI (W.2.2 i j)))] [] N := by
  have hI : vp_in (nI i) 60 := vp_in_nI li (by decide)
  have hJ : vp_in (nI j) 60 := vp_in_nI lj (by decide)
  have no : ¬ (W.2.2 i j = 2 ∧ u i = true ∧ u j = true) → X 131 [some (aR 108), some (aI vn), some (aI (nI q)), some (aI (nI i)), some (aI (nI j)), some (aI (nI (W.2.2 i j)))] [aI (nI q)] N := fun hq => by
    refine am_run hX 5 _ _ _ _ ?_
    conv => whnf
    rw [nI_1, show nI q + 0 = nI (q + 0) from nI_add q 0]
    have := hK (some (aI (nI (W.2.2 i j))))
    rw [if_neg hq] at this
    exact this
  refine am_run hX 4 _ _ _ _ ?_
  conv => whnf
  by_cases c2 : W.2.2 i j = 2
  · refine ⟨fun c => absurd (by rw [c2]; rfl) c, fun _ => ?_⟩
    refine am_run hX 6 _ _ _ _ ?_
    conv => whnf
    refine ⟨hI, ?_⟩
    conv => whnf
    rw [nI_clamp (n := i) (by omega), hg i ti]
    cases hu : u i with
    | false =>
      exact ⟨fun _ => no fun z => by rw [hu] at z; exact absurd z.2.1 (by decide), fun c => absurd (by decide) c⟩
    | true =>
      refine ⟨fun c => absurd rfl c, fun _ => ?_⟩
      refine am_run hX 6 _ _ _ _ ?_
      conv => whnf
      refine ⟨hJ, ?_⟩
      conv => whnf
      rw [nI_clamp (n := j) (by omega), hg j (tj (by omega))]
      cases hw : u j with
      | false =>
        exact ⟨fun _ => no fun z => by rw [hw] at z; exact absurd z.2.2 (by decide), fun c => absurd (by decide) c⟩
      | true =>
        refine ⟨fun c => absurd rfl c, fun _ => ?_⟩
        refine am_run hX 6 _ _ _ _ ?_
        conv => whnf
        rw [nI_1, show (4 : Int32) = nI 4 from rfl, nI_add]
        have := hK (some (aI (nI (W.2.2 i j))))
        rw [if_pos ⟨c2, hu, hw⟩] at this
        exact this
  · exact ⟨fun _ => no fun z => c2 z.1, fun c => absurd (fun y => c2 ((nI_eq (a := W.2.2 i j) (b := 2) (by omega) (by decide)).mp y)) c⟩
set_option maxRecDepth 100000 in
theorem wr_j {i q : Nat} {Pp : am_Q} {X : am_X} {vn : Int32} (hX : am_K (d + 1) false nm_X12_addWay Pp X) (h : rwR N inp W) (g : gdW m inp W) (hg : gvR N W u) (ti : W.1 i = true) (li : i < 60) (hN : ¬ wyR W u → Pp (.inl none) N) (hK : (∀ j, j < i → W.2.2 i j = 1 → u i = u j) → ∀ l4 l5, X 140 [some (aR 108), some (aI vn), some (aI (nI (q + prJ W u i i))), some (aI (nI i)), l4, l5] [] N) : ∀ w j l5, j + w = i → (∀ x, x < j → W.2.2 i x = 1 → u i = u x) → X 52 [some (aR 108), some (aI vn), some (aI (nI (q + prJ W u i j))), some (aI (nI i)), some (aI (nI j)), l5] [] N := by
  have m60 := g.1
  have hI : vp_in (nI i) 60 := vp_in_nI li (by decide)
  intro w
  induction w with
  | zero =>
    intro j l5 hj hd
    have hj : j = i := by omega
    subst hj
    refine am_run hX 3 _ _ _ _ ?_
    conv => whnf
    exact ⟨fun _ => hK hd _ _, fun c => absurd (nI_le (by omega) (by omega)) c⟩
  | succ w ih =>
    intro j l5 hj hd
    have e2 := g.2.2.2.2.2.2.2.2.1 i j
    have tj : W.2.2 i j ≠ 0 → W.1 j = true := fun z => (g.2.2.2.2.2.2.2.2.2.1 i j z).2
    have hJ : vp_in (nI j) 60 := vp_in_nI (by omega) (by decide)
    have k99 : (W.2.2 i j = 1 → u i = u j) → X 99 [some (aR 108), some (aI vn), some (aI (nI (q + prJ W u i j))), some (aI (nI i)), some (aI (nI j)), some (aI (nI (W.2.2 i j)))] [] N := fun hq => by
      refine wr_99 hX e2 hg ti tj li (by omega) fun l5 => ?_
      rw [Nat.add_assoc]
      refine ih (j + 1) l5 (by omega) fun x hx => ?_
      by_cases e : x = j
      · rw [e]
        exact hq
      · exact hd x (by omega)
    refine am_run hX 3 _ _ _ _ ?_
    conv => whnf
    refine ⟨fun c => absurd c (nI_ge (by omega) (by omega)), fun _ => ?_⟩
    refine am_run hX 5 _ _ _ _ ?_
    conv => whnf
    refine ⟨hI, ?_⟩
    conv => whnf
    rw [nI_clamp (n := i) (by omega), h.2.2.1 i li, if_pos ti]
    refine ⟨fun c => absurd c (by decide), fun _ => ?_⟩
    refine am_run hX 5 _ _ _ _ ?_
    conv => whnf
    refine am_c1 (ct_ekR (d := d) h li (by omega)) ?_
    conv => whnf
    refine am_run hX 3 _ _ _ _ ?_
    conv => whnf
    by_cases c1 : W.2.2 i j = 1
    · refine ⟨fun c => absurd (by rw [c1]; rfl) c, fun _ => ?_⟩
      refine am_run hX 9 _ _ _ _ ?_
      conv => whnf
      refine ⟨hI, ?_⟩
      conv => whnf
      refine ⟨hJ, ?_⟩
      conv => whnf
      rw [nI_clamp (n := i) (by omega), nI_clamp (n := j) (by omega), hg i ti, hg j (tj (by omega))]
      by_cases eu : u i = u j
      · exact ⟨fun _ => k99 fun _ => eu, fun c => absurd (by rw [eu]) c⟩
      · have en : ¬ nI (b1 (u i)) = nI (b1 (u j)) := by
          revert eu
          cases u i with
          | true =>
            cases u j with
            | true => exact fun z => absurd rfl z
            | false => exact fun _ => by decide
          | false =>
            cases u j with
            | true => exact fun _ => by decide
            | false => exact fun z => absurd rfl z
        refine ⟨fun c => absurd c en, fun _ => ?_⟩
        refine am_run hX 1 _ _ _ _ ?_
        conv => whnf
        exact ⟨trivial, hN fun y => eu (y i j (by omega) c1)⟩
    · exact ⟨fun _ => k99 fun z => absurd z c1, fun c => absurd (fun y => c1 ((nI_eq (a := W.2.2 i j) (b := 1) (by omega) (by decide)).mp y)) c⟩
set_option maxRecDepth 100000 in
theorem wr_i {q : Nat} {Pp : am_Q} {X : am_X} {vn : Int32} (hX : am_K (d + 1) false nm_X12_addWay Pp X) (h : rwR N inp W) (g : gdW m inp W) (hg : gvR N W u) (hN : ¬ wyR W u → Pp (.inl none) N) (hK : wyR W u → ∀ l4 l5, X 146 [some (aR 108), some (aI vn), some (aI (nI (q + prI W u 60))), some (aI (nI 60)), l4, l5] [] N) : ∀ w i l4 l5, i + w = 60 → (∀ x j, x < i → j < x → W.2.2 x j = 1 → u x = u j) → X 43 [some (aR 108), some (aI vn), some (aI (nI (q + prI W u i))), some (aI (nI i)), l4, l5] [] N := by
  have m60 := g.1
  intro w
  induction w with
  | zero =>
    intro i l4 l5 hi hd
    have hi : i = 60 := by omega
    subst hi
    refine am_run hX 3 _ _ _ _ ?_
    conv => whnf
    refine ⟨fun _ => hK (fun x j hj e => hd x j ?_ hj e) _ _, fun c => absurd (by decide) c⟩
    have := g.2.2.2.2.1 x (g.2.2.2.2.2.2.2.2.2.1 x j (by omega)).1
    omega
  | succ w ih =>
    intro i l4 l5 hi hd
    have hI : vp_in (nI i) 60 := vp_in_nI (by omega) (by decide)
    have nx : ∀ q', q' = q + prI W u (i + 1) → (∀ j, j < i → W.2.2 i j = 1 → u i = u j) → ∀ l4 l5, X 140 [some (aR 108), some (aI vn), some (aI (nI q')), some (aI (nI i)), l4, l5] [] N := fun q' hq' hq l4 l5 => by
      refine am_run hX 2 _ _ _ _ ?_
      conv => whnf
      rw [nI_1, hq']
      refine ih (i + 1) _ _ (by omega) fun x j hx => ?_
      by_cases e : x = i
      · rw [e]
        exact hq j
      · exact hd x j (by omega)
    refine am_run hX 3 _ _ _ _ ?_
    conv => whnf
    refine ⟨fun c => absurd c (nI_ge (a := i) (b := 60) (by omega) (by decide)), fun _ => ?_⟩
    refine am_run hX 2 _ _ _ _ ?_
    conv => whnf
    cases ti : W.1 i with
    | true =>
      have e : q + prI W u (i + 1) = q + prI W u i + prJ W u i i := by
        show q + (prI W u i + (if W.1 i = true then prJ W u i i else 0)) = _
        rw [if_pos ti]
        omega
      exact wr_j (d := d) (q := q + prI W u i) hX h g hg ti (by omega) hN (fun hq l4 l5 => nx _ e.symm hq l4 l5) i 0 _ (by omega) (fun x hx => absurd hx (Nat.not_lt_zero _))
    | false =>
      have e : q + prI W u (i + 1) = q + prI W u i := by
        show q + (prI W u i + (if W.1 i = true then prJ W u i i else 0)) = _
        rw [ti, if_neg (by decide)]
        omega
      have fin := nx _ e.symm (fun j hj z => absurd (g.2.2.2.2.2.2.2.2.2.1 i j (by omega)).1 (by rw [ti]; decide))
      refine am_run hX 3 _ _ _ _ ?_
      conv => whnf
      refine ⟨fun _ => fin _ _, fun _ => ?_⟩
      refine am_run hX 5 _ _ _ _ ?_
      conv => whnf
      refine ⟨hI, ?_⟩
      conv => whnf
      rw [nI_clamp (n := i) (by omega), h.2.2.1 i (by omega), ti, if_neg (by decide)]
      exact ⟨fun _ => fin _ _, fun c => absurd rfl c⟩
set_option maxRecDepth 100000 in
theorem ct_awR (h : rwR N inp W) (g : gdW m inp W) (hn : n ≤ 60) (hg : gvR N W u) (hκ : ∀ t, t < n → W.1 (κ t) = true ∧ N.1 174 t = nI (κ t)) : am_M (d + 2) false nm_X12_addWay [aR 108, aI (nI n)] N (fun r N' => r = .inl none ∧ ((wyR W u ∧ N' = awM N 153 (egI W u κ n + prI W u 60)) ∨ (¬ wyR W u ∧ N' = N))) := by
  have b2 := prI_b (W := W) (u := u) 60 (by decide)
  have b3 := egI_b (u := u) g (fun t ht => (hκ t ht).1) n (Nat.le_refl _)
  refine ⟨rfl, rfl, rfl, fun X hX => am_run hX 4 _ _ _ _ ?_⟩
  conv => whnf
  refine wr_1 hX h g hn hg hκ ?_ n 0 (by omega)
  refine am_run hX 2 _ _ _ _ ?_
  conv => whnf
  refine wr_i (d := d) (q := egI W u κ n) hX h g hg (fun hno => ⟨rfl, Or.inr ⟨hno, rfl⟩⟩) (fun hy l4 l5 => ?_) 60 0 _ _ (by omega) (fun x j hx => absurd hx (Nat.not_lt_zero _))
  generalize egI W u κ n + prI W u 60 = e at *
  have hE : vp_in (nI (e % 8 % 4)) 5 := vp_in_nI (by omega) (by decide)
  have e84 : e % 8 % 4 = e % 4 := by omega
  refine am_run hX 4 _ _ _ _ ?_
  conv => whnf
  rw [nI_m7]
  refine am_run hX 10 _ _ _ _ ?_
  conv => whnf
  rw [nI_m3]
  refine ⟨hE, ?_⟩
  conv => whnf
  rw [nI_clamp (n := e % 8 % 4) (by omega)]
  by_cases c : e % 8 < 4
  · refine ⟨fun z => absurd z (nI_ge (a := e % 8) (b := 4) c (by decide)), fun _ => ?_⟩
    refine am_run hX 5 _ _ _ _ ?_
    conv => whnf
    refine ⟨hE, ?_⟩
    conv => whnf
    rw [nI_clamp (n := e % 8 % 4) (by omega)]
    refine ⟨trivial, rfl, Or.inl ⟨hy, ?_⟩⟩
    unfold awM
    rw [if_pos c, e84]
  · refine ⟨fun _ => ?_, fun z => absurd (nI_le (a := 4) (b := e % 8) (by omega) (by omega)) z⟩
    refine am_run hX 4 _ _ _ _ ?_
    conv => whnf
    refine ⟨hE, ?_⟩
    conv => whnf
    rw [nI_clamp (n := e % 8 % 4) (by omega)]
    refine ⟨trivial, rfl, Or.inl ⟨hy, ?_⟩⟩
    unfold awM
    rw [if_neg c, e84]
end WYR
