/-! ROUTE: the class's addLayer whole -/
section RTQ
variable {d : Nat} {M : mm_M} {W S : Nat} {Lk : Nat → Nat → Bool} {O : Nat → Option (Nat × Nat)} {i : Nat} {f : Nat → Nat}
/-- the row while it is looked through -/
def g1D (Lk : Nat → Nat → Bool) (O : Nat → Option (Nat × Nat)) (W i : Nat) (f : Nat → Nat) (R r : Nat) : Nat := if r < R then f1D Lk O W i f r else f r
def loD (Lk : Nat → Nat → Bool) (O : Nat → Option (Nat × Nat)) (W i : Nat) (f : Nat → Nat) (R L mo : Nat) : Prop := (L ≤ 1000 ∨ L = NKn) ∧ mo ≤ 1001 ∧ ∀ r, r < R → cbD Lk O W i r = true → f r ≠ NKn → L ≤ f r ∧ f r + 1 ≤ mo
theorem lowd_b {L mo : Nat} (hW : W ≤ 6) (hi : i < S) (hf : ndR Lk O S W (i + 1) f) (h : loD Lk O W i f (cnW W) L mo) : ∀ n, n ≤ 1000 → ∀ r, r < cnW W → ndP Lk O S i (unP W r) n → L ≤ n ∧ (cbD Lk O W i r = false → L + 1 ≤ n) := by
  intro n
  induction n with
  | zero =>
    intro _ r hr hd
    cases hc : cbD Lk O W i r with
    | true =>
      have e := ndv_e (hf r hr) (by omega) ((nd_t hi hc).mp hd)
      have := (h.2.2 r hr hc (by rw [e]; unfold NKn; omega)).1
      exact ⟨by omega, fun z => absurd z (by decide)⟩
    | false => exact absurd hd (nd_0 hi hc)
  | succ n ih =>
    intro hn r hr hd
    cases hc : cbD Lk O W i r with
    | true =>
      have e := ndv_e (hf r hr) (by omega) ((nd_t hi hc).mp hd)
      have := (h.2.2 r hr hc (by rw [e]; unfold NKn; omega)).1
      exact ⟨by omega, fun z => absurd z (by decide)⟩
    | false =>
      obtain ⟨t, _, t2, _, t4⟩ := nr_1 hW hr hc hd
      have := (ih (by omega) _ t2 t4).1
      exact ⟨by omega, fun _ => by omega⟩
theorem al_0 {L mo : Nat} (hW : W ≤ 6) (hi : i < S) (hf : ndR Lk O S W (i + 1) f) (h : loD Lk O W i f (cnW W) L mo) : alR Lk O S W i f (f1D Lk O W i f) L mo (ctQ (fun r => !cbD Lk O W i r) (cnW W)) := by
  have hlow := lowd_b hW hi hf h
  have ft : ∀ r, cbD Lk O W i r = true → f1D Lk O W i f r = f r := fun r hc => if_pos hc
  have ff : ∀ r, cbD Lk O W i r = false → f1D Lk O W i f r = NKn := fun r hc => if_neg (by rw [hc]; decide)
  refine ⟨fun r hr => ?_, fun r n hr hn hn2 hd => ?_, fun r hr hk => ?_, fun r hr hc => ft r hc, ?_⟩
  · cases hc : cbD Lk O W i r with
    | true =>
      rw [ft r hc]
      rcases hf r hr with ⟨a, b⟩ | ⟨a, _⟩
      · exact Or.inr ⟨a, (nd_t hi hc).mpr b⟩
      · exact Or.inl a
    | false => exact Or.inl (ff r hc)
  · cases hc : cbD Lk O W i r with
    | true =>
      rw [ft r hc]
      exact ndv_e (hf r hr) hn2 ((nd_t hi hc).mp hd)
    | false =>
      have := (hlow n hn2 r hr hd).2 hc
      omega
  · cases hc : cbD Lk O W i r with
    | true =>
      rw [ft r hc] at hk ⊢
      exact (h.2.2 r hr hc hk).2
    | false => exact absurd (ff r hc) hk
  · have e := ctQ_s (P := isN (f1D Lk O W i f)) (Q := fun r => cbD Lk O W i r) (cnW W)
    have e1 : ctQ (fun r => isN (f1D Lk O W i f) r && cbD Lk O W i r) (cnW W) = ctQ (fun r => isN f r && cbD Lk O W i r) (cnW W) := ctQ_c _ (fun r hr => by
      cases hc : cbD Lk O W i r with
      | true =>
        unfold isN
        rw [ft r hc]
      | false => rw [Bool.and_false, Bool.and_false])
    have e2 : ctQ (fun r => isN (f1D Lk O W i f) r && !cbD Lk O W i r) (cnW W) = ctQ (fun r => !cbD Lk O W i r) (cnW W) := ctQ_c _ (fun r hr => by
      cases hc : cbD Lk O W i r with
      | true => rw [Bool.not_true, Bool.and_false]
      | false =>
        unfold isN
        rw [ff r hc, decide_eq_true rfl]
        rfl)
    omega
set_option maxRecDepth 100000 in
theorem adl_1 {P : am_Q} {X : am_X} {s : Nat} (hX : am_K (d + 3) false nm_X7_addLayer P X) (hW : W ≤ 6) (hf : ∀ r, r < cnW W → f r ≤ 1000 ∨ f r = NKn) (hn : nrM M Lk) (hA : arM M W (cnW W)) (ho : wsP (O i) s) (hl : ∀ a b, O i = some (a, b) → a < W ∧ b < W) (hs0 : 0 < s) (hK : ∀ N L mo, snF M N → nrw N W (f1D Lk O W i f) → loD Lk O W i f (cnW W) L mo → X 92 [some (aR 70), some (aI (nI s)), some (aI (nI (cnW W))), some (aI (nI L)), some (aI (nI mo + -1)), some (aI (nI (ctQ (fun r => !cbD Lk O W i r) (cnW W)))), some (aI (nI (cnW W))), none] [] N) : ∀ (m R : Nat) (N : mm_M) (L mo : Nat), R + m = cnW W → snF M N → nrw N W (g1D Lk O W i f R) → loD Lk O W i f R L mo → X 12 [some (aR 70), some (aI (nI s)), some (aI (nI (cnW W))), some (aI (nI L)), some (aI (nI mo + -1)), some (aI (nI (ctQ (fun r => !cbD Lk O W i r) R))), some (aI (nI R)), none] [] N := by
  have c7 := (cnW_7 W (by omega)).1
  intro m
  induction m with
  | zero =>
    intro R N L mo hR hF hN hL
    obtain rfl : R = cnW W := by omega
    refine am_run hX 3 _ _ _ _ ?_
    conv => whnf
    refine ⟨fun _ => hK N L mo hF (fun r hr => ?_) hL, fun z => absurd (nI_le (Nat.le_refl _) (by omega)) z⟩
    have := hN r hr
    unfold g1D at this
    rw [if_pos hr] at this
    exact this
  | succ m ih =>
    intro R N L mo hR hF hN hL
    have rr : R < cnW W := by omega
    have ha := (unP_a hW rr).1
    have gR : g1D Lk O W i f R R = f R := if_neg (Nat.lt_irrefl _)
    have g' : ∀ r, r ≠ R → g1D Lk O W i f (R + 1) r = g1D Lk O W i f R r := fun r hr => by
      unfold g1D
      by_cases c : r < R
      · rw [if_pos c, if_pos (by omega)]
      · rw [if_neg c, if_neg (by omega)]
    have gR' : g1D Lk O W i f (R + 1) R = f1D Lk O W i f R := if_pos (Nat.lt_succ_self _)
    obtain ⟨n1, _⟩ := hN R rr
    rw [gR] at n1
    have fR := hf R rr
    have es : ctQ (fun r => !cbD Lk O W i r) (R + 1) = ctQ (fun r => !cbD Lk O W i r) R + (if (!cbD Lk O W i R) = true then 1 else 0) := rfl
    have next : ∀ N' L' mo', snF M N' → nrw N' W (g1D Lk O W i f (R + 1)) → loD Lk O W i f (R + 1) L' mo' → X 86 [some (aR 70), some (aI (nI s)), some (aI (nI (cnW W))), some (aI (nI L')), some (aI (nI mo' + -1)), some (aI (nI (ctQ (fun r => !cbD Lk O W i r) (R + 1)))), some (aI (nI R)), none] [] N' := by
      intro N' L' mo' a b c
      refine am_run hX 2 _ _ _ _ ?_
      conv => whnf
      rw [nI_1]
      exact ih (R + 1) N' L' mo' (by omega) a b c
    have hin : vp_in (nI R) 720 := vp_in_nI (by omega) (by decide)
    have key := ct_cBD (d := d) (M := N) (p := unP W R) (Lk := Lk) (o := O i) (s := s) hW ha (by unfold nrM at hn ⊢; rw [hF.1 72 (by decide)]; exact hn) ho hl hs0
    rw [show lkB Lk (unP W R) (O i) = cbD Lk O W i R from rfl] at key
    refine am_run hX 3 _ _ _ _ ?_
    conv => whnf
    refine ⟨fun z => absurd z (nI_ge (by omega) (by omega)), fun _ => ?_⟩
    refine am_run hX 7 _ _ _ _ ?_
    conv => whnf
    refine ⟨hin, ?_⟩
    conv => whnf
    rw [nI_clamp (n := R) (by omega), hF.1 74 (by decide), hA R rr]
    refine am_c1 key ?_
    refine am_run hX 1 _ _ _ _ ?_
    conv => whnf
    cases hc : cbD Lk O W i R with
    | false =>
      rw [hc, if_pos (by decide)] at es
      refine ⟨fun z => absurd rfl z, fun _ => ?_⟩
      refine am_run hX 5 _ _ _ _ ?_
      conv => whnf
      refine ⟨hin, ?_⟩
      rw [nI_clamp (n := R) (by omega)]
      generalize hN1 : mm_i N 76 _ = N1
      refine am_run hX 2 _ _ _ _ ?_
      conv => whnf
      rw [nI_1, ← es]
      refine next N1 L mo (snF_t hF ⟨fun k hk => by rw [← hN1, mm_ne _ _ _ _ hk], by rw [← hN1]; rfl⟩) (fun r hr => ?_) ⟨hL.1, hL.2.1, fun r hr hcr hk => ?_⟩
      · rw [← hN1, mm_i1]
        by_cases k : r = R
        · rw [k, up_at, gR']
          unfold f1D
          rw [if_neg (by rw [hc]; decide)]
          exact ⟨rfl, Nat.le_refl _⟩
        · rw [up_ne k, g' r k]
          exact hN r hr
      · by_cases k : r = R
        · rw [k, hc] at hcr
          exact absurd hcr (by decide)
        · exact hL.2.2 r (by omega) hcr hk
    | true =>
      rw [hc, if_neg (by decide), Nat.add_zero] at es
      have rowN : nrw N W (g1D Lk O W i f (R + 1)) := fun r hr => by
        by_cases k : r = R
        · rw [k, gR']
          unfold f1D
          rw [if_pos hc]
          exact ⟨n1, by unfold NKn at fR ⊢; omega⟩
        · rw [g' r k]
          exact hN r hr
      refine ⟨fun _ => ?_, fun z => absurd (by decide) z⟩
      refine am_run hX 6 _ _ _ _ ?_
      conv => whnf
      refine ⟨hin, ?_⟩
      conv => whnf
      rw [nI_clamp (n := R) (by omega), n1, show (1073741824 : Int32) = nI 1073741824 from rfl, nI_eq (by unfold NKn at fR; omega) (by decide)]
      refine ⟨fun z => ?_, fun z => ?_⟩
      · have := next N L mo hF rowN ⟨hL.1, hL.2.1, fun r hr hcr hk => by
          by_cases k : r = R
          · rw [k] at hk
            exact absurd z hk
          · exact hL.2.2 r (by omega) hcr hk⟩
        rw [es] at this
        exact this
      · have z : f R ≠ NKn := z
        have fR : f R ≤ 1000 := fR.resolve_right z
        have hL1 := hL.1
        have hm1 := hL.2.1
        refine am_run hX 7 _ _ _ _ ?_
        conv => whnf
        refine ⟨hin, ?_⟩
        conv => whnf
        rw [nI_clamp (n := R) (by omega), n1, nI_min (by unfold NKn at hL1; omega) (by omega)]
        refine am_run hX 7 _ _ _ _ ?_
        conv => whnf
        refine ⟨hin, ?_⟩
        conv => whnf
        rw [nI_clamp (n := R) (by omega), n1, mxs_r (by omega) (by omega)]
        have := next N (min L (f R)) (max mo (f R + 1)) hF rowN ⟨Or.inl (by omega), by omega, fun r hr hcr hk => by
          by_cases k : r = R
          · rw [k]
            omega
          · have := hL.2.2 r (by omega) hcr hk
            omega⟩
        rw [es] at this
        exact this
set_option maxRecDepth 100000 in
theorem adl_2 {P : am_Q} {X : am_X} {s L : Nat} (hX : am_K (d + 3) false nm_X7_addLayer P X) (hW : W ≤ 6) (hi : i < S) (hf : ndR Lk O S W (i + 1) f) (hB : nbM M W Lk (cnW W)) (hL : L ≤ NKn) (hP : ∀ N g, snF M N → nrw N W g → ndR Lk O S W i g → P (.inl (some (aI (nI L)))) N) : ∀ (m q : Nat) (N : mm_M) (g : Nat → Nat) (mo un : Nat) (v7 : Option am_V), (q + m = 1000 ∨ (q = NKn ∧ mo ≤ q)) → snF M N → nrw N W g → alR Lk O S W i f g q mo un → mo ≤ 1002 → un ≤ 720 → X 95 [some (aR 70), some (aI (nI s)), some (aI (nI (cnW W))), some (aI (nI L)), some (aI (nI mo + -1)), some (aI (nI un)), some (aI (nI q)), v7] [] N := by
  have c7 := (cnW_7 W (by omega)).1
  have ex : ∀ (N : mm_M) (g : Nat → Nat) (q mo un : Nat) (v4 v5 v6 v7 : Option am_V), snF M N → nrw N W g → alR Lk O S W i f g q mo un → (mo ≤ q ∨ 1000 ≤ q ∨ un = 0) → X 158 [some (aR 70), some (aI (nI s)), some (aI (nI (cnW W))), some (aI (nI L)), v4, v5, v6, v7] [] N := by
    intro N g q mo un v4 v5 v6 v7 hF hN hR he
    refine am_run hX 2 _ _ _ _ ?_
    conv => whnf
    exact ⟨trivial, hP N g hF hN (al_e hW hi hf hR he)⟩
  intro m
  induction m with
  | zero =>
    intro q N g mo un v7 hq hF hN hR hmo hun
    have q10 : 1000 ≤ q := by unfold NKn at hq; omega
    have qN : q ≤ 1073741824 := by unfold NKn at hq; omega
    refine am_run hX 3 _ _ _ _ ?_
    conv => whnf
    rw [nI_gm (by omega) qN]
    refine ⟨fun z => ex N g q mo un _ _ _ _ hF hN hR (Or.inl z), fun z => ?_⟩
    refine am_run hX 3 _ _ _ _ ?_
    conv => whnf
    refine ⟨fun _ => ex N g q mo un _ _ _ _ hF hN hR (Or.inr (Or.inl q10)), fun z => absurd (nI_le (a := 1000) (b := q) q10 (by omega)) z⟩
  | succ m ih =>
    intro q N g mo un v7 hq hF hN hR hmo hun
    have qN : q ≤ 1073741824 := by unfold NKn at hq; omega
    refine am_run hX 3 _ _ _ _ ?_
    conv => whnf
    rw [nI_gm (by omega) qN]
    refine ⟨fun z => ex N g q mo un _ _ _ _ hF hN hR (Or.inl z), fun z => ?_⟩
    have q1 : q < 1000 := by omega
    refine am_run hX 3 _ _ _ _ ?_
    conv => whnf
    refine ⟨fun y => absurd y (nI_ge (a := q) (b := 1000) q1 (by decide)), fun _ => ?_⟩
    refine am_run hX 2 _ _ _ _ ?_
    conv => whnf
    refine ⟨fun y => ?_, fun y => ?_⟩
    · have u0 : un = 0 := Classical.byContradiction fun w => absurd y (nI_ge (a := 0) (b := un) (by omega) (by omega))
      exact ex N g q mo un _ _ _ _ hF hN hR (Or.inr (Or.inr u0))
    · refine am_run hX 4 _ _ _ _ ?_
      conv => whnf
      refine am_cq (ct_spN (d := d + 2) (M := N) (g0 := g) (Lk := Lk) hW q1 (by unfold nbM at hB ⊢; rw [hF.2]; exact hB) hN) ?_
      rintro r1 N1 ⟨g1, F, rfl, f1, n1, s1⟩
      refine ⟨_, rfl, ?_⟩
      obtain ⟨Fu, hR1⟩ := al_s hW hi q1 hf hR s1 (fun _ => trivial)
      refine am_run hX 5 _ _ _ _ ?_
      conv => whnf
      rw [nI_sub Fu]
      refine am_run hX 2 _ _ _ _ ?_
      conv => whnf
      refine ⟨fun w => ?_, fun w => ?_⟩
      · have F0 : ¬ 0 < F := fun w' => absurd w (nI_ge (a := 0) (b := F) w' (by omega))
        rw [if_neg F0] at hR1
        refine am_run hX 4 _ _ _ _ ?_
        conv => whnf
        rw [nI_1]
        exact ih (q + 1) N1 g1 mo (un - F) _ (Or.inl (by omega)) (snF_t hF f1) n1 hR1 hmo (by omega)
      · have F0 : 0 < F := Classical.byContradiction fun w' => w (nI_le (a := F) (b := 0) (by omega) (by decide))
        rw [if_pos F0] at hR1
        refine am_run hX 6 _ _ _ _ ?_
        conv => whnf
        rw [nI_1, mxs_r (by omega) (by omega)]
        refine am_run hX 3 _ _ _ _ ?_
        conv => whnf
        rw [nI_1]
        exact ih (q + 1) N1 g1 (max mo (q + 2)) (un - F) _ (Or.inl (by omega)) (snF_t hF f1) n1 hR1 (by omega) (by omega)
set_option maxRecDepth 100000 in
theorem ct_adL {s : Nat} (hW : W ≤ 6) (hi : i < S) (hf : ndR Lk O S W (i + 1) f) (hN : nrw M W f) (hn : nrM M Lk) (hA : arM M W (cnW W)) (hB : nbM M W Lk (cnW W)) (ho : wsP (O i) s) (hl : ∀ a b, O i = some (a, b) → a < W ∧ b < W) (hs0 : 0 < s) : am_M (d + 4) false nm_X7_addLayer [aR 70, aI (nI s), aI (nI (cnW W))] M (fun r N => ∃ g L, r = .inl (some (aI (nI L))) ∧ L ≤ NKn ∧ snF M N ∧ nrw N W g ∧ ndR Lk O S W i g ∧ ∀ n, n ≤ 1000 → ∀ r, r < cnW W → ndP Lk O S i (unP W r) n → L ≤ n) := by
  have c7 := (cnW_7 W (by omega)).1
  refine ⟨rfl, rfl, rfl, fun X hX => am_run hX 8 _ _ _ _ ?_⟩
  conv => whnf
  refine adl_1 (d := d) (M := M) (O := O) (i := i) (f := f) hX hW (fun r hr => (hf r hr).elim (fun q => Or.inl q.1) (fun q => Or.inr q.1)) hn hA ho hl hs0 (fun N L mo hF hN hL => ?_) (cnW W) 0 M NKn 0 (by omega) (snF_r M) (fun r hr => ?_) ⟨Or.inr rfl, by omega, fun r hr => absurd hr (Nat.not_lt_zero _)⟩
  · have hlow := lowd_b hW hi hf hL
    have hL1 := hL.1
    have hun : ctQ (fun r => !cbD Lk O W i r) (cnW W) ≤ cnW W := ctQ_l _
    refine am_run hX 2 _ _ _ _ ?_
    conv => whnf
    by_cases c : L = NKn
    · have mo0 : mo ≤ L := by
        have := hL.2.1
        rw [c]
        unfold NKn
        omega
      exact adl_2 (d := d) (M := M) (L := L) hX hW hi hf hB (by omega) (fun N g a b e => ⟨g, L, rfl, by omega, a, b, e, fun n hn r hr hd => (hlow n hn r hr hd).1⟩) 0 L N _ mo _ none (Or.inr ⟨c, mo0⟩) hF hN (al_0 hW hi hf hL) (by have := hL.2.1; omega) (by omega)
    · have l1 : L ≤ 1000 := hL1.resolve_right c
      exact adl_2 (d := d) (M := M) (L := L) hX hW hi hf hB (by unfold NKn; omega) (fun N g a b e => ⟨g, L, rfl, by unfold NKn; omega, a, b, e, fun n hn r hr hd => (hlow n hn r hr hd).1⟩) (1000 - L) L N _ mo _ none (Or.inl (by omega)) hF hN (al_0 hW hi hf hL) (by have := hL.2.1; omega) (by omega)
  · have := hN r hr
    unfold g1D
    rw [if_neg (Nat.not_lt_zero _)]
    exact this
end RTQ
