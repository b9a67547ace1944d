/-! derive: what is asked first, at both -/
/-- what derive asks of its words -/
def vaD (n : Nat) (F : Nat → Nat × List bk_X) (how p q : Int32) : Prop := ¬ how < 0 ∧ ¬ 6 < how ∧ ∃ c, c < n ∧ p = nI c ∧ ((how = 1 ∨ how = 3) → ∃ c', c' < n ∧ q = nI c' ∧ (F c).1 = (F c').1 ∧ (how = 3 → purL (F c').2)) ∧ (how ≠ 1 → purL (F c).2)
section DVC
variable {d : Nat} {M : mm_M} {n : Nat} {F : Nat → Nat × List bk_X} {how p q : Int32}
theorem bk_hasV {h : Int32} (hB : bkX M n F) : am_M (d + 1) false nm_X0_has [aR 9, aI h] M (am_q1 (aI (if h < 0 ∨ nI n ≤ h then 0 else 1)) M) := by
  have := bk_has (d := d) (M := M) h
  rw [hB.2.1] at this
  exact this
set_option maxRecDepth 100000 in
theorem dv_chk {P : am_Q} {X : am_X} (hX : am_K (d + 4) false nm_X11_derive P X) (hB : bkX M n F) (hno : ¬ vaD n F how p q → P (.inl (some (aI (-1)))) M) (hK : vaD n F how p q → ∀ v4, X 118 [some (aR 0), some (aI how), some (aI p), some (aI q), some (aI v4), none] [] M) : X 0 [some (aR 0), some (aI how), some (aI p), some (aI q), none, none] [] M := by
  have n20 := hB.1
  -- behind 'two'
  have h15 : ∀ v : Int32, v = (if how = 1 ∨ how = 3 then 1 else 0) → X 15 [some (aR 0), some (aI how), some (aI p), some (aI q), none, none] [aI v] M := by
    intro v hv
    have h54 : ¬ vaD n F how p q → X 54 [some (aR 0), some (aI how), some (aI p), some (aI q), some (aI v), none] [] M := by
      intro h
      refine am_run hX 2 _ _ _ _ ?_
      conv => whnf
      exact ⟨trivial, hno h⟩
    refine am_run hX 3 _ _ _ _ ?_
    conv => whnf
    refine ⟨fun c => h54 (fun h => h.1 c), fun g0 => ?_⟩
    refine am_run hX 3 _ _ _ _ ?_
    conv => whnf
    refine ⟨fun c => h54 (fun h => h.2.1 c), fun g6 => ?_⟩
    refine am_run hX 4 _ _ _ _ ?_
    conv => whnf
    refine am_c1 (bk_hasV (d := d + 3) hB) ?_
    rcases bk_no (p := p) n20 with hp | ⟨c, hc, rfl⟩
    · rw [if_pos hp]
      refine am_run hX 1 _ _ _ _ ?_
      conv => whnf
      refine ⟨fun _ => h54 (fun h => ?_), fun z => absurd rfl z⟩
      obtain ⟨_, _, c, hc, e, _⟩ := h
      subst e
      exact absurd hp (bk_yes n20 hc)
    rw [if_neg (bk_yes n20 hc)]
    have hcu : ∀ c2, c2 < n → nI c = nI c2 → c2 = c := fun c2 h2 e => ((nI_eq (by omega) (by omega)).mp e).symm
    obtain ⟨w1, w8, f12, f110, hl, ok, hg⟩ := hB.2.2.2 c hc
    have hcir := bkX_cir hB hc
    refine am_run hX 1 _ _ _ _ ?_
    conv => whnf
    refine ⟨fun z => absurd z (by decide), fun _ => ?_⟩
    -- the last questions
    have h84 : ((how = 1 ∨ how = 3) → ∃ c', c' < n ∧ q = nI c' ∧ (F c).1 = (F c').1) → X 84 [some (aR 0), some (aI how), some (aI (nI c)), some (aI q), some (aI v), none] [] M := by
      intro htw
      have h116 : ¬ vaD n F how (nI c) q → X 116 [some (aR 0), some (aI how), some (aI (nI c)), some (aI q), some (aI v), none] [] M := by
        intro h
        refine am_run hX 2 _ _ _ _ ?_
        conv => whnf
        exact ⟨trivial, hno h⟩
      have h100 : (how ≠ 1 → purL (F c).2) → X 100 [some (aR 0), some (aI how), some (aI (nI c)), some (aI q), some (aI v), none] [] M := by
        intro hpu
        refine am_run hX 3 _ _ _ _ ?_
        conv => whnf
        refine ⟨fun h3 => hK ⟨g0, g6, c, hc, rfl, fun h => ?_, hpu⟩ v, fun h3 => ?_⟩
        · obtain ⟨c', a, b, e⟩ := htw h
          exact ⟨c', a, b, e, fun z => absurd z h3⟩
        · have h3 := Decidable.byContradiction h3
          obtain ⟨c', hc', rfl, e⟩ := htw (Or.inr h3)
          have hcir' := bkX_cir hB hc'
          refine am_run hX 4 _ _ _ _ ?_
          conv => whnf
          refine am_c1 (ct_isGates (d := d) hcir') ?_
          by_cases hpu' : allN (fun j => pureB (zg (F c').2 j)) (F c').2.length = true
          · rw [if_pos hpu']
            refine am_run hX 1 _ _ _ _ ?_
            conv => whnf
            refine ⟨fun _ => hK ⟨g0, g6, c, hc, rfl, fun _ => ⟨c', hc', rfl, e, fun _ => pur_a.mp hpu'⟩, hpu⟩ v, fun z => absurd (by decide) z⟩
          · rw [if_neg hpu']
            refine am_run hX 1 _ _ _ _ ?_
            conv => whnf
            refine ⟨fun z => absurd rfl z, fun _ => h116 (fun h => ?_)⟩
            obtain ⟨_, _, c2, _, _, h2, _⟩ := h
            obtain ⟨c3, hc3, e3, _, h5⟩ := h2 (Or.inr h3)
            have e4 : c3 = c' := ((nI_eq (by omega) (by omega)).mp e3).symm
            subst e4
            exact hpu' (pur_a.mpr (h5 h3))
      refine am_run hX 3 _ _ _ _ ?_
      conv => whnf
      refine ⟨fun h1 => h100 (fun z => absurd h1 z), fun h1 => ?_⟩
      refine am_run hX 4 _ _ _ _ ?_
      conv => whnf
      refine am_c1 (ct_isGates (d := d) hcir) ?_
      by_cases hpu : allN (fun j => pureB (zg (F c).2 j)) (F c).2.length = true
      · rw [if_pos hpu]
        refine am_run hX 1 _ _ _ _ ?_
        conv => whnf
        refine ⟨fun z => absurd z (by decide), fun _ => h100 (fun _ => pur_a.mp hpu)⟩
      · rw [if_neg hpu]
        refine am_run hX 1 _ _ _ _ ?_
        conv => whnf
        refine ⟨fun _ => h116 (fun h => ?_), fun z => absurd rfl z⟩
        obtain ⟨_, _, c2, hc2, e2, _, h5⟩ := h
        have := hcu c2 hc2 e2
        subst this
        exact hpu (pur_a.mpr (h5 h1))
    by_cases htw : how = 1 ∨ how = 3
    · rw [if_pos htw] at hv
      subst hv
      refine am_run hX 2 _ _ _ _ ?_
      conv => whnf
      refine ⟨fun z => absurd z (by decide), fun _ => ?_⟩
      refine am_run hX 4 _ _ _ _ ?_
      conv => whnf
      refine am_c1 (bk_hasV (d := d + 3) hB) ?_
      rcases bk_no (p := q) n20 with hq | ⟨c', hc', rfl⟩
      · rw [if_pos hq]
        refine am_run hX 1 _ _ _ _ ?_
        conv => whnf
        refine ⟨fun z => absurd rfl z, fun _ => h54 (fun h => ?_)⟩
        obtain ⟨_, _, c2, _, _, h2, _⟩ := h
        obtain ⟨c3, hc3, e3, _⟩ := h2 htw
        subst e3
        exact absurd hq (bk_yes n20 hc3)
      rw [if_neg (bk_yes n20 hc')]
      obtain ⟨w1', w8', f12', f110', hl', ok', hg'⟩ := hB.2.2.2 c' hc'
      refine am_run hX 1 _ _ _ _ ?_
      conv => whnf
      refine ⟨fun _ => ?_, fun z => absurd (by decide) z⟩
      refine am_run hX 2 _ _ _ _ ?_
      conv => whnf
      refine ⟨fun z => absurd z (by decide), fun _ => ?_⟩
      refine am_run hX 11 _ _ _ _ ?_
      conv => whnf
      refine ⟨vp_in_nI (by show c < 20; omega) (by decide), ?_⟩
      conv => whnf
      refine ⟨vp_in_nI (by show c' < 20; omega) (by decide), ?_⟩
      conv => whnf
      rw [nI_clamp (n := c) (by omega), nI_clamp (n := c') (by omega), f12, f12', nI_eq (by omega) (by omega)]
      refine ⟨fun e => h84 (fun _ => ⟨c', hc', rfl, e⟩), fun e => ?_⟩
      refine am_run hX 2 _ _ _ _ ?_
      conv => whnf
      refine ⟨trivial, hno (fun h => ?_)⟩
      obtain ⟨_, _, c2, hc2, e2, h2, _⟩ := h
      have := hcu c2 hc2 e2
      subst this
      obtain ⟨c3, hc3, e3, e4, _⟩ := h2 htw
      have e5 : c3 = c' := ((nI_eq (by omega) (by omega)).mp e3).symm
      subst e5
      exact e e4
    · rw [if_neg htw] at hv
      subst hv
      refine am_run hX 2 _ _ _ _ ?_
      conv => whnf
      refine ⟨fun _ => ?_, fun z => absurd rfl z⟩
      refine am_run hX 2 _ _ _ _ ?_
      conv => whnf
      exact ⟨fun _ => h84 (fun h => absurd h htw), fun z => absurd rfl z⟩
  refine am_run hX 3 _ _ _ _ ?_
  conv => whnf
  refine ⟨fun h1 => ?_, fun h1 => ?_⟩
  · refine am_run hX 2 _ _ _ _ ?_
    conv => whnf
    exact h15 1 (by rw [if_pos (Or.inl h1)])
  · refine am_run hX 3 _ _ _ _ ?_
    conv => whnf
    refine ⟨fun h3 => ?_, fun h3 => ?_⟩
    · refine am_run hX 1 _ _ _ _ ?_
      conv => whnf
      exact h15 0 (by rw [if_neg (fun z => z.elim h1 h3)])
    · refine am_run hX 2 _ _ _ _ ?_
      conv => whnf
      exact h15 1 (by rw [if_pos (Or.inr (Decidable.byContradiction h3))])
end DVC
