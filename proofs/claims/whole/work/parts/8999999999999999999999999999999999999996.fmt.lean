/-! THE PAIR form -/
theorem wk_hc (l : List bk_X) : ∀ j, wk (kdR l j) = hcn (zg l) j
  | 0 => rfl
  | j + 1 => by
    rw [kdR_s]
    show wk (kdR l j) + hk (zg l j).1 = _
    rw [wk_hc l j]
    rfl
theorem og_1 {x : bk_X} (h : ogd 1 x) (hp : pureB x = true) : x.1 < 8 := by
  have p := (of_decide_eq_true hp).1
  have : x.1 ≠ 8 := fun e => by
    obtain ⟨a, b, _⟩ := h.2.2 e
    have := h.1.2.1
    omega
  omega
/-- a circuit that has a FORM -/
def foE (F : Nat → Nat × List bk_X) (c : Nat) : Prop := (F c).1 = 1 ∧ purL (F c).2
section FMU
variable {M : mm_M} {n : Nat} {F : Nat → Nat × List bk_X}
def fcQ (M : mm_M) (n : Nat) (F : Nat → Nat × List bk_X) (p : Int32) (r : am_R) (N : mm_M) : Prop := (∃ c, c < n ∧ p = nI c ∧ foE F c ∧ r = .inl (some (aI (nI (fmW (kdR (F c).2 (F c).2.length)).length))) ∧ ffF M N ∧ wtN N 24 ∧ lcL N (fmW (kdR (F c).2 (F c).2.length)) ∧ N.1 57 15 = nI (fmR (kdR (F c).2 (F c).2.length) ([], (1, 2))).1.length) ∨ ((∀ c, c < n → p = nI c → ¬ foE F c) ∧ r = .inl (some (aI (-1))) ∧ N = M)
set_option maxRecDepth 100000 in
theorem ct_foC (hB : bkX M n F) (hT : wtI M) (p : Int32) : am_M 1000 false nm_X11_form [aR 0, aI p] M (fcQ M n F p) := by
  have n20 := hB.1
  refine ⟨rfl, rfl, rfl, fun X hX => am_run hX 4 _ _ _ _ ?_⟩
  have no : (∀ c, c < n → p = nI c → ¬ foE F c) → X 35 [some (aR 0), some (aI p)] [] M := by
    intro hno
    refine am_run hX 2 _ _ _ _ ?_
    conv => whnf
    exact ⟨trivial, Or.inr ⟨hno, rfl, rfl⟩⟩
  conv => whnf
  refine am_c1 (bk_hasV (d := 998) (h := p) hB) ?_
  refine am_run hX 1 _ _ _ _ ?_
  conv => whnf
  by_cases hp : p < 0 ∨ nI n ≤ p
  · rw [if_pos hp]
    refine ⟨fun _ => no (fun c hc e => ?_), fun z => absurd rfl z⟩
    subst e
    rcases hp with z | z
    · exact absurd z (nI_n0 (by omega))
    · exact absurd z (nI_ge hc (by omega))
  · rw [if_neg hp]
    refine ⟨fun z => absurd z (by decide), fun _ => ?_⟩
    obtain ⟨c, c31, rfl⟩ := nI_of (fun z => hp (Or.inl z))
    have hc : c < n := Classical.byContradiction fun z => hp (Or.inr (nI_le (by omega) (by omega)))
    have cc : ∀ c', c' < n → nI c = nI c' → c' = c := fun c' h e => ((nI_eq (by omega) (by omega)).mp e).symm
    obtain ⟨w1, w8, f12, _, hl, ok, hg⟩ := hB.2.2.2 c hc
    refine am_run hX 7 _ _ _ _ ?_
    conv => whnf
    refine ⟨vp_in_nI (by show c < 20; omega) (by decide), ?_⟩
    conv => whnf
    rw [nI_clamp (n := c) (by omega), f12]
    by_cases W1 : (F c).1 = 1
    · have hg1 := hg
      rw [W1] at hg1 ⊢
      refine ⟨fun z => absurd rfl z, fun _ => ?_⟩
      refine am_run hX 4 _ _ _ _ ?_
      conv => whnf
      refine am_c1 (ct_isGates (d := 995) (bkX_cir hB hc)) ?_
      refine am_run hX 1 _ _ _ _ ?_
      conv => whnf
      by_cases hpu : allN (fun j => pureB (zg (F c).2 j)) (F c).2.length = true
      · rw [if_pos hpu]
        have hpu := pur_a.mp hpu
        refine ⟨fun _ => ?_, fun z => absurd (by decide) z⟩
        have hh : wk (kdR (F c).2 (F c).2.length) ≤ 60 := by
          rw [wk_hc]
          exact (bkX_cir hB hc).2.2.2.2
        refine am_run hX 6 _ _ _ _ ?_
        conv => whnf
        refine am_cq (ct_fForm (d := 993) (M := M) (bkX_i hB) hc (bkX_c hB hc) hl w8 (fun j hj => og_1 (hg1 j hj) (hpu j hj)) hh hT) ?_
        rintro r1 N1 ⟨rfl, f1, t1, l1, u1⟩
        refine ⟨none, rfl, ?_⟩
        refine am_run hX 4 _ _ _ _ ?_
        conv => whnf
        rw [l1.1]
        exact ⟨trivial, Or.inl ⟨c, hc, rfl, ⟨W1, hpu⟩, rfl, f1, t1, l1, u1⟩⟩
      · rw [if_neg hpu]
        refine ⟨fun z => absurd rfl z, fun _ => no (fun c' hc' e h => ?_)⟩
        rw [cc c' hc' e] at h
        exact hpu (pur_a.mpr h.2)
    · refine ⟨fun _ => no (fun c' hc' e h => ?_), fun z => absurd (fun q => W1 ((nI_eq (a := (F c).1) (b := 1) (by omega) (by decide)).mp q)) z⟩
      rw [cc c' hc' e] at h
      exact W1 h.1
def frQ (M : mm_M) (n : Nat) (F : Nat → Nat × List bk_X) (p : Int32) (r : am_R) (N : mm_M) : Prop := (∃ c, c < n ∧ p = nI c ∧ foE F c ∧ r = .inl (some (aI (nI (fmW (kdR (F c).2 (F c).2.length)).length))) ∧ frF (th0 M) N ∧ tbN N 24 ∧ frmL N (fmW (kdR (F c).2 (F c).2.length)) ∧ N.1 108 130 = nI (fmR (kdR (F c).2 (F c).2.length) ([], (1, 2))).1.length) ∨ ((∀ c, c < n → p = nI c → ¬ foE F c) ∧ r = .inl (some (aI (-1))) ∧ N = th0 M)
theorem fcI_0 (h : fcI M) : fcI (th0 M) := by
  rcases h with h | h
  · refine Or.inl ?_
    unfold th0
    rw [mm_i1, up_ne (by decide)]
    exact h
  · refine Or.inr ⟨?_, fun q hq => kwA_f (mm_ne _ _ _ _ (by decide)) (mm_ne _ _ _ _ (by decide)) rfl (h.2 q hq)⟩
    unfold th0
    rw [mm_i1, up_ne (by decide)]
    exact h.1
set_option maxRecDepth 100000 in
theorem ct_foR (hB : bkR M n F) (hI : fcI M) (p : Int32) : am_M 1000 false nm_X12_form [aR 108, aI p] M (frQ M n F p) := by
  have n20 := hB.1
  have hB' : bkR (th0 M) n F := hB
  refine ⟨rfl, rfl, rfl, fun X hX => am_run hX 3 _ _ _ _ ?_⟩
  have no : (∀ c, c < n → p = nI c → ¬ foE F c) → X 31 [some (aR 108), some (aI p), none, none, none, none] [] (th0 M) := by
    intro hno
    refine am_run hX 2 _ _ _ _ ?_
    conv => whnf
    exact ⟨trivial, Or.inr ⟨hno, rfl, rfl⟩⟩
  conv => whnf
  refine am_run hX 3 _ _ _ _ ?_
  conv => whnf
  refine am_c1 (bk_iscV (d := 998) (h := p) hB) ?_
  refine am_run hX 1 _ _ _ _ ?_
  conv => whnf
  by_cases hp : p < 0 ∨ nI n ≤ p
  · rw [if_pos hp]
    refine ⟨fun _ => no (fun c hc e => ?_), fun z => absurd rfl z⟩
    subst e
    rcases hp with z | z
    · exact absurd z (nI_n0 (by omega))
    · exact absurd z (nI_ge hc (by omega))
  · rw [if_neg hp]
    refine ⟨fun z => absurd z (by decide), fun _ => ?_⟩
    obtain ⟨c, c31, rfl⟩ := nI_of (fun z => hp (Or.inl z))
    have hc : c < n := Classical.byContradiction fun z => hp (Or.inr (nI_le (by omega) (by omega)))
    have cc : ∀ c', c' < n → nI c = nI c' → c' = c := fun c' h e => ((nI_eq (by omega) (by omega)).mp e).symm
    obtain ⟨w1, w8, f110, hl, ok, hg⟩ := hB'.2.2 c hc
    refine am_run hX 6 _ _ _ _ ?_
    conv => whnf
    refine ⟨vp_in_nI (by show c < 21; omega) (by decide), ?_⟩
    conv => whnf
    rw [nI_clamp (n := c) (by omega)]
    rw [f110]
    by_cases W1 : (F c).1 = 1
    · have hg1 := hg
      rw [W1] at hg1 ⊢
      refine ⟨fun z => absurd rfl z, fun _ => ?_⟩
      refine am_run hX 3 _ _ _ _ ?_
      conv => whnf
      refine am_c1 (ct_isPuO (d := 998) (M := th0 M) (by omega) w8 hl) ?_
      refine am_run hX 1 _ _ _ _ ?_
      conv => whnf
      by_cases hpu : allN (fun j => pureB (zg (F c).2 j)) (F c).2.length = true
      · rw [if_pos hpu]
        have hpu := pur_a.mp hpu
        refine ⟨fun _ => ?_, fun z => absurd (by decide) z⟩
        have hh : wk (kdR (F c).2 (F c).2.length) ≤ 60 := by
          rw [wk_hc, hcl_n]
          exact ok.2
        refine fr_t (d := 994) (M := th0 M) (c := c) (l := (F c).2) hX (by omega) hl.2.1 hl.2.2.1 (fun j hj => (hl.2.2.2 j hj).2.2.1) (fun j hj => og_1 (hg1 j hj) (hpu j hj)) hh (fcI_0 hI) (fun N f t l u => ?_)
        exact Or.inl ⟨c, hc, rfl, ⟨W1, hpu⟩, rfl, f, t, l, u⟩
      · rw [if_neg hpu]
        refine ⟨fun z => absurd rfl z, fun _ => no (fun c' hc' e h => ?_)⟩
        rw [cc c' hc' e] at h
        exact hpu (pur_a.mpr h.2)
    · refine ⟨fun _ => no (fun c' hc' e h => ?_), fun z => absurd (fun q => W1 ((nI_eq (a := (F c).1) (b := 1) (by omega) (by decide)).mp q)) z⟩
      rw [cc c' hc' e] at h
      exact W1 h.1
end FMU
/-- what form may change -/
def foF (M N : mm_M) : Prop := (∀ k, k ≠ 57 → (k < 65 ∨ 69 < k) → k ≠ 108 → k ≠ 189 → k ≠ 191 → k ≠ 192 → N.1 k = M.1 k) ∧ (∀ k, k ≠ 118 → k ≠ 119 → k ≠ 152 → k ≠ 153 → (k < 186 ∨ 188 < k) → k ≠ 190 → N.2 k = M.2 k) ∧ (∀ y, (y < 10 ∨ 15 < y) → N.1 57 y = M.1 57 y) ∧ ∀ y, y ≠ 0 → y ≠ 129 → y ≠ 130 → y ≠ 131 → N.1 108 y = M.1 108 y
section PFO
variable {ac : Nat → ClassId} {lo : Nat} {ad as : Nat → Nat} {b L : Nat} {zs : Nat → Int32} {hp : mm_M → Nat → xm_H} {I J : mm_M → Prop}
def fo_iv (M : mm_M) : Prop := wtI M ∧ fcI M ∧ ∃ n F, bkX M n F
theorem pr_form (H : mm_L ac lo hp) (h1 : ∀ M, I M → fo_iv M) (hJ0 : ∀ M, I M → J (th0 M)) (hJ : ∀ M N, I M → foF M N → fo_iv N → fm_iv N → J N) (p : Int32) : la_I ac lo ad as b L zs hp I J nm_X11_form nm_X12_form [.int p] := by
  refine am_la_I (us := [aI p]) H fun M hI => ?_
  obtain ⟨hT, hC, n, F, hB⟩ := h1 M hI
  have n20 := hB.1
  refine am_wk (ct_foC hB hT p) fun r M1 hq => ?_
  rcases hq with ⟨c, hc, hpc, hE, rfl, f1, t1, l1, u1⟩ | ⟨hno, rfl, rfl⟩
  · refine ⟨_, rfl, ?_⟩
    have bF : bkF M M1 := ⟨fun k hk => f1.1 k (by omega) (by omega), by rw [f1.1 9 (by decide) (by omega)], by rw [f1.1 108 (by decide) (by omega)]⟩
    have hB1 := bkX_F bF hB
    have hC1 : fcI M1 := by
      rcases hC with z | z
      · exact Or.inl (by rw [f1.1 108 (by decide) (by omega)]; exact z)
      · exact Or.inr ⟨by rw [f1.1 108 (by decide) (by omega)]; exact z.1, fun q hq => kwA_f (f1.1 191 (by decide) (by omega)) (f1.1 192 (by decide) (by omega)) (by rw [f1.2.2]) (z.2 q hq)⟩
    refine am_wk (ct_foR (bkX_r hB1) hC1 p) fun r2 M2 hq2 => ?_
    rcases hq2 with ⟨c', hc', hpc', hE', rfl, f2, t2, l2, u2⟩ | ⟨hno, _⟩
    · have ec : c' = c := by
        rw [hpc] at hpc'
        exact ((nI_eq (by omega) (by omega)).mp hpc').symm
      subst ec
      have e2 : ∀ k, k ≠ 108 → k ≠ 189 → k ≠ 191 → k ≠ 192 → M2.1 k = M1.1 k := fun k a b c e => (f2.1 k a b c e).trans (mm_ne _ _ _ _ a)
      have e8 : ∀ y, y ≠ 0 → y ≠ 129 → y ≠ 130 → y ≠ 131 → M2.1 108 y = M1.1 108 y := fun y a b c e => (f2.2.1 y b c e).trans (by unfold th0; rw [mm_i1, up_ne a])
      have bF2 : bkF M1 M2 := ⟨fun k hk => e2 k (by omega) (by omega) (by omega) (by omega), by rw [e2 9 (by decide) (by decide) (by decide) (by decide)], e8 6 (by decide) (by decide) (by decide) (by decide)⟩
      refine ⟨rfl, hJ M _ hI ⟨fun k a b c e f g => ?_, fun k a b c e f g => ?_, fun y a => ?_, fun y a b c e => ?_⟩ ⟨Or.inr ⟨?_, fun q hq => ?_⟩, Or.inr t2, n, F, bkX_F bF2 hB1⟩ (Or.inr ?_)⟩
      · rw [e2 k c e f g, f1.1 k a b]
      · rw [f2.2.2 k a b c e f g]
        show M1.2 k = _
        rw [f1.2.2]
      · rw [e2 57 (by decide) (by decide) (by decide) (by decide), f1.2.1 y a]
      · rw [e8 y a b c e, f1.1 108 (by decide) (by omega)]
      · rw [e2 57 (by decide) (by decide) (by decide) (by decide)]
        exact t1.1
      · rw [e2 68 (by decide) (by decide) (by decide) (by decide), e2 69 (by decide) (by decide) (by decide) (by decide)]
        exact t1.2 q hq
      · have hg := (hB.2.2.2 c' hc).2.2.2.2.2.2
        rw [hE.1] at hg
        have hh : wk (kdR (F c').2 (F c').2.length) ≤ 60 := by
          rw [wk_hc]
          exact (bkX_cir hB hc).2.2.2.2
        have hw8 : ∀ g ∈ kdR (F c').2 (F c').2.length, g < 8 := by
          intro g hg'
          unfold kdR at hg'
          obtain ⟨i, hi, rfl⟩ := List.mem_map.mp (List.mem_reverse.mp hg')
          have hi := List.mem_range.mp hi
          exact og_1 (hg i hi) (hE.2 i hi)
        obtain ⟨_, i2, i3, i4⟩ := fmI_w hw8
        have h61 := nzc_l _ i3
        have sl : ∀ l : List Nat, (syw l).length ≤ 3 * l.length := by
          intro l
          induction l with
          | nil => exact Nat.le_refl _
          | cons s l ih =>
            have a : (sy s).length ≤ 3 := by
              unfold sy
              split
              · exact (by decide : 1 ≤ 3)
              · split
                · exact (by decide : 2 ≤ 3)
                · exact (by decide : 3 ≤ 3)
            show (sy s ++ syw l).length ≤ 3 * (l.length + 1)
            rw [List.length_append]
            omega
        have s1 := sl (fmR (kdR (F c').2 (F c').2.length) ([], (1, 2))).1
        obtain ⟨kN, ek⟩ := kw_cw i2
        have k6 := (kw_f _ kN).1
        have fl : (fmW (kdR (F c').2 (F c').2.length)).length ≤ 932 := by
          unfold fmW
          rw [List.length_map, List.length_append, ek]
          omega
        refine ⟨_, (fmR (kdR (F c').2 (F c').2.length) ([], (1, 2))).1.length, fl, by omega, ?_, l2.1, ?_, u2, fun j hj => ?_⟩
        · rw [e2 57 (by decide) (by decide) (by decide) (by decide)]
          exact l1.1
        · rw [e2 57 (by decide) (by decide) (by decide) (by decide)]
          exact u1
        · rw [e2 67 (by decide) (by decide) (by decide) (by decide), l1.2 j hj, l2.2 j hj]
    · exact absurd hE (hno c hc hpc)
  · refine ⟨-1, rfl, ?_⟩
    refine am_wk (ct_foR (bkX_r hB) hC p) fun r2 M2 hq2 => ?_
    rcases hq2 with ⟨c', hc', hpc', hE', _⟩ | ⟨_, rfl, rfl⟩
    · exact absurd hE' (hno c' hc' hpc')
    · exact ⟨rfl, hJ0 M1 hI⟩
end PFO
