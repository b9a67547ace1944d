/-! FORM: how much is wanted, at the reference -/
theorem lgc {a b : Nat} (ha : a < 2 ^ 31) (hb : b < 2 ^ 31) : lg_cmp (lI (a : Int)) (lI (b : Int)) ≤ 0 ↔ a ≤ b := by
  rw [lg_le, lI_lt (by omega) (by omega) (by omega) (by omega)]
  omega
theorem t_2 : ∀ k, k < 4 → nI k / 2 = nI (k / 2) ∧ nI k - nI k / 2 * 2 = nI (k % 2) := by decide
theorem ce_bq {x y : R2} {p : Nat} (hx : nrm x.1 ≤ 2 ^ 40 ∧ nrm x.2 ≤ 2 ^ 40) (hy : nrm y.1 ≤ 2 ^ 40 ∧ nrm y.2 ≤ 2 ^ 40) : bq (2 ^ 41) (ce p x y) := by
  have a : bq (2 ^ 40) (mu (t8n (ph0 p) (cj (pk0 p y))) x.1) := mu_bq (nm_c (by
    unfold pk0
    split
    · exact hy.2
    · exact hy.1)) hx.1
  have b : bq (2 ^ 40) (mu (t8n (ph1 p) (cj (pk1 p y))) x.2) := mu_bq (nm_c (by
    unfold pk1
    split
    · exact hy.1
    · exact hy.2)) hx.2
  have := bq_ra a b
  exact this
def ndF (M N : mm_M) : Prop := N.1 = M.1 ∧ ∀ k, k ≠ 118 → k ≠ 119 → k ≠ 153 → k ≠ 188 → N.2 k = M.2 k
theorem ndF_r (M : mm_M) : ndF M M := ⟨rfl, fun _ _ _ _ _ => rfl⟩
theorem ndF_t {M N K : mm_M} (h : ndF M N) (g : ndF N K) : ndF M K := ⟨g.1.trans h.1, fun k a b e f => (g.2 k a b e f).trans (h.2 k a b e f)⟩
theorem ndF_8 {M N : mm_M} (h : opF 118 M N) : ndF M N := ⟨h.1, fun k a b _ _ => h.2 k a b a⟩
section FMI
variable {d : Nat} {M : mm_M}
set_option maxRecDepth 100000 in
theorem nd_k186 {P : am_Q} {X : am_X} {p K t : Nat} {x y : R2} {v7 v8 v9 : Option am_V} (hX : am_K (d + 3) false nm_X12_needOf P X) (p1 : 1 ≤ p) (p3 : p ≤ 3) (hK : K < 2 ^ 27) (h : mxE (M.2 186) 0 K x y) (hn : smN (2 ^ 40) x y) (hE : ∀ N, ndF M N → (∀ k, k < 4 → a5 (N.2 188) (5 * k) (K + K) (ce p (rwS x y (k / 2)) (rwS x y (k % 2)))) → X 42 [some (aR 108), some (aR 186), some (aI 0), some (aJ (lI (t : Nat))), none, some (aI (nI p)), some (aI (nI 4)), v7, v8, v9] [] N) : ∀ (m k : Nat) (N : mm_M), k + m = 4 → ndF M N → (∀ k', k' < k → a5 (N.2 188) (5 * k') (K + K) (ce p (rwS x y (k' / 2)) (rwS x y (k' % 2)))) → X 14 [some (aR 108), some (aR 186), some (aI 0), some (aJ (lI (t : Nat))), none, some (aI (nI p)), some (aI (nI k)), v7, v8, v9] [] N := by
  intro m
  induction m with
  | zero =>
    intro k N hk hF hA
    obtain rfl : k = 4 := by omega
    refine am_run hX 3 _ _ _ _ ?_
    conv => whnf
    exact ⟨fun _ => hE N hF hA, fun z => absurd (by decide) z⟩
  | succ m ih =>
    intro k N hk hF hA
    obtain ⟨t1, t2⟩ := t_2 k (by omega)
    have t2 : nI k - nI (k / 2) * 2 = nI (k % 2) := by rw [← t1]; exact t2
    refine am_run hX 3 _ _ _ _ ?_
    conv => whnf
    refine ⟨fun z => absurd z (nI_ge (a := k) (b := 4) (by omega) (by decide)), fun _ => ?_⟩
    refine am_run hX 11 _ _ _ _ ?_
    conv => whnf
    refine ⟨by decide, ?_⟩
    conv => whnf
    refine ⟨by decide, ?_⟩
    conv => whnf
    rw [t1, t2]
    refine am_cq (ct_bl186 (d := d) (M := N) p1 p3 (by omega) (by omega) hK (by rw [hF.2 186 (by decide) (by decide) (by decide) (by decide)]; exact h) hn) ?_
    rintro r1 N1 ⟨rfl, f1, o1, k1⟩
    refine ⟨none, rfl, ?_⟩
    have e5 : 10 * (k / 2) + 5 * (k % 2) = 5 * k := by omega
    rw [e5] at o1 k1
    refine am_run hX 2 _ _ _ _ ?_
    conv => whnf
    rw [nI_1]
    refine ih (k + 1) N1 (by omega) (ndF_t hF f1) (fun k' hk' => ?_)
    by_cases e : k' = k
    · rw [e]
      exact o1
    · exact k1 _ _ _ (by omega) (hA k' (by omega))
set_option maxRecDepth 100000 in
theorem nd_p186 {P : am_Q} {X : am_X} {p K t : Nat} {x y : R2} {v6 v7 v8 v9 : Option am_V} (hX : am_K (d + 3) false nm_X12_needOf P X) (p1 : 1 ≤ p) (p3 : p ≤ 3) (hK : K < 2 ^ 27) (ht : t < 2 ^ 30) (h : mxE (M.2 186) 0 K x y) (hn : smN (2 ^ 40) x y) (hE : ∀ N w6 w7 w8 w9, ndF M N → X 5 [some (aR 108), some (aR 186), some (aI 0), some (aJ (lI (ndP1 K x y p t : Nat))), none, some (aI (nI (p + 1))), w6, w7, w8, w9] [] N) : X 5 [some (aR 108), some (aR 186), some (aI 0), some (aJ (lI (t : Nat))), none, some (aI (nI p)), v6, v7, v8, v9] [] M := by
  have nx : nrm x.1 ≤ 2 ^ 40 ∧ nrm x.2 ≤ 2 ^ 40 := ⟨hn.1, hn.2.1⟩
  have ny : nrm y.1 ≤ 2 ^ 40 ∧ nrm y.2 ≤ 2 ^ 40 := hn.2.2
  have bxy := ce_bq (p := p) nx ny
  have byx := ce_bq (p := p) ny nx
  have kz := red_k (2 * K) (bZ p x)
  have kx := red_k (2 * K + 2) (bX p x y)
  have ky := red_k (2 * K + 2) (bY p x y)
  refine am_run hX 3 _ _ _ _ ?_
  conv => whnf
  refine ⟨fun z => absurd z (nI_ge (a := p) (b := 4) (by omega) (by decide)), fun _ => ?_⟩
  refine am_run hX 2 _ _ _ _ ?_
  conv => whnf
  refine nd_k186 (d := d) (M := M) (t := t) hX p1 p3 hK h hn (fun N1 F1 A1 => ?_) 4 0 M (by omega) (ndF_r M) (fun k hk => absurd hk (Nat.not_lt_zero _))
  have a0 := A1 0 (by decide)
  have a1 := A1 1 (by decide)
  have a2 := A1 2 (by decide)
  rw [← Nat.two_mul] at a0 a1 a2
  have a0 : a5 (N1.2 188) 0 (2 * K) (bZ p x) := a0
  have a1 : a5 (N1.2 188) 5 (2 * K) (ce p x y) := a1
  have a2 : a5 (N1.2 188) 10 (2 * K) (ce p y x) := a2
  refine am_run hX 5 _ _ _ _ ?_
  conv => whnf
  refine am_cq (f_ld188 (d := d + 2) (a := 0) (by decide) a0) ?_
  rintro r2 N2 ⟨rfl, f2, o2⟩
  refine ⟨none, rfl, ?_⟩
  have e4 : N2.2 118 4 = lI ((red (2 * K) (bZ p x)).2 : Nat) := o2.2.2.2.2
  -- the first of three
  have s1 : ∀ {v6' : Option am_V}, X 72 [some (aR 108), some (aR 186), some (aI 0), some (aJ (lI (t : Nat))), none, some (aI (nI p)), v6', v7, v8, v9] [aJ (lI (max t (red (2 * K) (bZ p x)).2 : Nat))] N2 → X 51 [some (aR 108), some (aR 186), some (aI 0), some (aJ (lI (t : Nat))), none, some (aI (nI p)), v6', v7, v8, v9] [] N2 := by
    intro v6' hk1
    refine am_run hX 7 _ _ _ _ ?_
    conv => whnf
    refine ⟨by first | exact i5_4 | exact i5_04 | decide, ?_⟩
    conv => whnf
    rw [k_4, e4, lgc (by omega) (by omega)]
    refine ⟨fun z => ?_, fun z => ?_⟩
    · refine am_run hX 1 _ _ _ _ ?_
      conv => whnf
      rw [Nat.max_eq_left z] at hk1
      exact hk1
    · refine am_run hX 5 _ _ _ _ ?_
      conv => whnf
      refine ⟨by first | exact i5_4 | exact i5_04 | decide, ?_⟩
      conv => whnf
      rw [k_4, e4]
      rw [Nat.max_eq_right (by omega)] at hk1
      exact hk1
  refine s1 ?_
  generalize ht1 : max t (red (2 * K) (bZ p x)).2 = t1
  refine am_run hX 1 _ _ _ _ ?_
  conv => whnf
  have F2 : N2.2 188 = N1.2 188 := f2.2 188 (by decide) (by decide) (by decide)
  refine am_run hX 5 _ _ _ _ ?_
  conv => whnf
  refine am_cq (f_ld188 (d := d + 2) (a := 5) (by decide) (by rw [F2]; exact a1)) ?_
  rintro r3 N3 ⟨rfl, f3, o3⟩
  refine ⟨none, rfl, ?_⟩
  have F3 : N3.2 188 = N1.2 188 := (f3.2 188 (by decide) (by decide) (by decide)).trans F2
  refine am_run hX 6 _ _ _ _ ?_
  conv => whnf
  refine am_cq (f_add188p (d := d + 1) (a := 10) (by decide) (by omega) (bq_bd (bq_ra bxy byx) (by decide)) o3 (by rw [F3]; exact a2)) ?_
  rintro r4 N4 ⟨rfl, f4, o4⟩
  refine ⟨none, rfl, ?_⟩
  refine am_run hX 2 _ _ _ _ ?_
  conv => whnf
  refine am_cq (f_halfP (d := d + 1) (by omega) (bq_bd (bq_ra bxy byx) (by decide)) o4) ?_
  rintro r5 N5 ⟨rfl, f5⟩
  refine ⟨_, rfl, ?_⟩
  have ex : (red (2 * K + 2) (ra (ce p x y) (ce p y x))).2 = (red (2 * K + 2) (bX p x y)).2 := rfl
  rw [ex]
  refine am_run hX 5 _ _ _ _ ?_
  conv => whnf
  rw [lgc (by omega) (by omega)]
  have nx2 : ∀ {l6 l7 : Option am_V}, X 112 [some (aR 108), some (aR 186), some (aI 0), some (aJ (lI (t1 : Nat))), none, some (aI (nI p)), l6, l7, v8, v9] [aJ (lI (max t1 (red (2 * K + 2) (bX p x y)).2 : Nat))] N5 := by
    intro l6 l7
    generalize ht2 : max t1 (red (2 * K + 2) (bX p x y)).2 = t2
    refine am_run hX 1 _ _ _ _ ?_
    conv => whnf
    have F5 : N5.2 188 = N1.2 188 := (f5.2 188 (by decide) (by decide) (by decide)).trans ((f4.2 188 (by decide) (by decide) (by decide)).trans F3)
    refine am_run hX 5 _ _ _ _ ?_
    conv => whnf
    refine am_cq (f_ld188 (d := d + 2) (a := 10) (by decide) (by rw [F5]; exact a2)) ?_
    rintro r6 N6 ⟨rfl, f6, o6⟩
    refine ⟨none, rfl, ?_⟩
    have F6 : N6.2 188 = N1.2 188 := (f6.2 188 (by decide) (by decide) (by decide)).trans F5
    refine am_run hX 6 _ _ _ _ ?_
    conv => whnf
    refine am_cq (f_add188m (d := d + 1) (a := 5) (by decide) (by omega) (bq_bd (bq_ra byx (bq_ng bxy)) (by decide)) o6 (by rw [F6]; exact a1)) ?_
    rintro r7 N7 ⟨rfl, f7, o7⟩
    refine ⟨none, rfl, ?_⟩
    refine am_run hX 3 _ _ _ _ ?_
    conv => whnf
    refine am_cq (f_turn (d := d + 2) (n := 6) (by decide) (by decide) o7) ?_
    rintro r8 N8 ⟨rfl, f8, o8⟩
    refine ⟨none, rfl, ?_⟩
    refine am_run hX 2 _ _ _ _ ?_
    conv => whnf
    refine am_cq (f_halfP (d := d + 1) (by omega) (t8_bd (bq_bd (bq_ra byx (bq_ng bxy)) (by decide)) 6) o8) ?_
    rintro r9 N9 ⟨rfl, f9⟩
    refine ⟨_, rfl, ?_⟩
    have ey : (red (2 * K + 2) (t8n 6 (ra (ce p y x) (ng (ce p x y))))).2 = (red (2 * K + 2) (bY p x y)).2 := rfl
    rw [ey]
    have F9 : ndF M N9 := ndF_t (ndF_t F1 (ndF_t (ndF_8 f2) (ndF_8 f3))) (ndF_t (ndF_t (ndF_8 f4) (ndF_8 f5)) (ndF_t (ndF_t (ndF_8 f6) (ndF_8 f7)) (ndF_t (ndF_8 f8) (ndF_8 f9))))
    have eN : ndP1 K x y p t = max t2 (red (2 * K + 2) (bY p x y)).2 := by
      unfold ndP1
      rw [ht1, ht2]
    have fin : ∀ {l6 l7 l8 l9 : Option am_V}, X 158 [some (aR 108), some (aR 186), some (aI 0), some (aJ (lI (t2 : Nat))), none, some (aI (nI p)), l6, l7, l8, l9] [aJ (lI (max t2 (red (2 * K + 2) (bY p x y)).2 : Nat))] N9 := by
      intro l6 l7 l8 l9
      rw [← eN]
      refine am_run hX 1 _ _ _ _ ?_
      conv => whnf
      refine am_run hX 2 _ _ _ _ ?_
      conv => whnf
      rw [nI_1]
      exact hE N9 _ _ _ _ F9
    refine am_run hX 5 _ _ _ _ ?_
    conv => whnf
    rw [lgc (by omega) (by omega)]
    refine ⟨fun z => ?_, fun z => ?_⟩
    · have fin := @fin
      rw [Nat.max_eq_left z] at fin
      refine am_run hX 1 _ _ _ _ ?_
      conv => whnf
      exact fin
    · have fin := @fin
      rw [Nat.max_eq_right (by omega)] at fin
      refine am_run hX 2 _ _ _ _ ?_
      conv => whnf
      exact fin
  refine ⟨fun z => ?_, fun z => ?_⟩
  · have nx2 := @nx2
    rw [Nat.max_eq_left z] at nx2
    refine am_run hX 1 _ _ _ _ ?_
    conv => whnf
    exact nx2
  · have nx2 := @nx2
    rw [Nat.max_eq_right (by omega)] at nx2
    refine am_run hX 2 _ _ _ _ ?_
    conv => whnf
    exact nx2
theorem ndP_b186 {K t : Nat} {x y : R2} {p : Nat} (hK : K < 2 ^ 27) (ht : t < 2 ^ 29) : ndP1 K x y p t < 2 ^ 29 := by
  have kz := red_k (2 * K) (bZ p x)
  have kx := red_k (2 * K + 2) (bX p x y)
  have ky := red_k (2 * K + 2) (bY p x y)
  unfold ndP1
  omega
set_option maxRecDepth 100000 in
theorem ct_need186 {K : Nat} {x y : R2} (hK : K < 2 ^ 27) (h : mxE (M.2 186) 0 K x y) (hn : smN (2 ^ 40) x y) : am_M (d + 4) false nm_X12_needOf [aR 108, aR 186, aI 0] M (fun r N => r = .inl (some (aJ (lI (ndM K x y : Nat)))) ∧ ndF M N) := by
  have b1 := ndP_b186 (x := x) (y := y) (p := 1) (t := 0) hK (by decide)
  have b2 := ndP_b186 (x := x) (y := y) (p := 2) hK b1
  have mk : ∀ N, ndF M N → mxE (N.2 186) 0 K x y := fun N f => by rw [f.2 186 (by decide) (by decide) (by decide) (by decide)]; exact h
  refine ⟨rfl, rfl, rfl, fun X hX => am_run hX 4 _ _ _ _ ?_⟩
  conv => whnf
  refine nd_p186 (d := d) (M := M) (p := 1) (t := 0) hX (by decide) (by decide) hK (by decide) h hn (fun N1 _ _ _ _ f1 => ?_)
  refine nd_p186 (d := d) (M := N1) (p := 2) hX (by decide) (by decide) hK (by omega) (mk N1 f1) hn (fun N2 _ _ _ _ f2 => ?_)
  refine nd_p186 (d := d) (M := N2) (p := 3) hX (by decide) (by decide) hK (by omega) (mk N2 (ndF_t f1 f2)) hn (fun N3 _ _ _ _ f3 => ?_)
  refine am_run hX 3 _ _ _ _ ?_
  conv => whnf
  refine ⟨fun _ => ?_, fun z => absurd (by decide) z⟩
  refine am_run hX 2 _ _ _ _ ?_
  conv => whnf
  exact ⟨trivial, rfl, ndF_t f1 (ndF_t f2 f3)⟩
set_option maxRecDepth 100000 in
theorem nd_k187 {P : am_Q} {X : am_X} {p K t : Nat} {x y : R2} {v7 v8 v9 : Option am_V} (hX : am_K (d + 3) false nm_X12_needOf P X) (p1 : 1 ≤ p) (p3 : p ≤ 3) (hK : K < 2 ^ 27) (h : mxE (M.2 187) 0 K x y) (hn : smN (2 ^ 40) x y) (hE : ∀ N, ndF M N → (∀ k, k < 4 → a5 (N.2 188) (5 * k) (K + K) (ce p (rwS x y (k / 2)) (rwS x y (k % 2)))) → X 42 [some (aR 108), some (aR 187), some (aI 0), some (aJ (lI (t : Nat))), none, some (aI (nI p)), some (aI (nI 4)), v7, v8, v9] [] N) : ∀ (m k : Nat) (N : mm_M), k + m = 4 → ndF M N → (∀ k', k' < k → a5 (N.2 188) (5 * k') (K + K) (ce p (rwS x y (k' / 2)) (rwS x y (k' % 2)))) → X 14 [some (aR 108), some (aR 187), some (aI 0), some (aJ (lI (t : Nat))), none, some (aI (nI p)), some (aI (nI k)), v7, v8, v9] [] N := by
  intro m
  induction m with
  | zero =>
    intro k N hk hF hA
    obtain rfl : k = 4 := by omega
    refine am_run hX 3 _ _ _ _ ?_
    conv => whnf
    exact ⟨fun _ => hE N hF hA, fun z => absurd (by decide) z⟩
  | succ m ih =>
    intro k N hk hF hA
    obtain ⟨t1, t2⟩ := t_2 k (by omega)
    have t2 : nI k - nI (k / 2) * 2 = nI (k % 2) := by rw [← t1]; exact t2
    refine am_run hX 3 _ _ _ _ ?_
    conv => whnf
    refine ⟨fun z => absurd z (nI_ge (a := k) (b := 4) (by omega) (by decide)), fun _ => ?_⟩
    refine am_run hX 11 _ _ _ _ ?_
    conv => whnf
    refine ⟨by decide, ?_⟩
    conv => whnf
    refine ⟨by decide, ?_⟩
    conv => whnf
    rw [t1, t2]
    refine am_cq (ct_bl187 (d := d) (M := N) p1 p3 (by omega) (by omega) hK (by rw [hF.2 187 (by decide) (by decide) (by decide) (by decide)]; exact h) hn) ?_
    rintro r1 N1 ⟨rfl, f1, o1, k1⟩
    refine ⟨none, rfl, ?_⟩
    have e5 : 10 * (k / 2) + 5 * (k % 2) = 5 * k := by omega
    rw [e5] at o1 k1
    refine am_run hX 2 _ _ _ _ ?_
    conv => whnf
    rw [nI_1]
    refine ih (k + 1) N1 (by omega) (ndF_t hF f1) (fun k' hk' => ?_)
    by_cases e : k' = k
    · rw [e]
      exact o1
    · exact k1 _ _ _ (by omega) (hA k' (by omega))
set_option maxRecDepth 100000 in
theorem nd_p187 {P : am_Q} {X : am_X} {p K t : Nat} {x y : R2} {v6 v7 v8 v9 : Option am_V} (hX : am_K (d + 3) false nm_X12_needOf P X) (p1 : 1 ≤ p) (p3 : p ≤ 3) (hK : K < 2 ^ 27) (ht : t < 2 ^ 30) (h : mxE (M.2 187) 0 K x y) (hn : smN (2 ^ 40) x y) (hE : ∀ N w6 w7 w8 w9, ndF M N → X 5 [some (aR 108), some (aR 187), some (aI 0), some (aJ (lI (ndP1 K x y p t : Nat))), none, some (aI (nI (p + 1))), w6, w7, w8, w9] [] N) : X 5 [some (aR 108), some (aR 187), some (aI 0), some (aJ (lI (t : Nat))), none, some (aI (nI p)), v6, v7, v8, v9] [] M := by
  have nx : nrm x.1 ≤ 2 ^ 40 ∧ nrm x.2 ≤ 2 ^ 40 := ⟨hn.1, hn.2.1⟩
  have ny : nrm y.1 ≤ 2 ^ 40 ∧ nrm y.2 ≤ 2 ^ 40 := hn.2.2
  have bxy := ce_bq (p := p) nx ny
  have byx := ce_bq (p := p) ny nx
  have kz := red_k (2 * K) (bZ p x)
  have kx := red_k (2 * K + 2) (bX p x y)
  have ky := red_k (2 * K + 2) (bY p x y)
  refine am_run hX 3 _ _ _ _ ?_
  conv => whnf
  refine ⟨fun z => absurd z (nI_ge (a := p) (b := 4) (by omega) (by decide)), fun _ => ?_⟩
  refine am_run hX 2 _ _ _ _ ?_
  conv => whnf
  refine nd_k187 (d := d) (M := M) (t := t) hX p1 p3 hK h hn (fun N1 F1 A1 => ?_) 4 0 M (by omega) (ndF_r M) (fun k hk => absurd hk (Nat.not_lt_zero _))
  have a0 := A1 0 (by decide)
  have a1 := A1 1 (by decide)
  have a2 := A1 2 (by decide)
  rw [← Nat.two_mul] at a0 a1 a2
  have a0 : a5 (N1.2 188) 0 (2 * K) (bZ p x) := a0
  have a1 : a5 (N1.2 188) 5 (2 * K) (ce p x y) := a1
  have a2 : a5 (N1.2 188) 10 (2 * K) (ce p y x) := a2
  refine am_run hX 5 _ _ _ _ ?_
  conv => whnf
  refine am_cq (f_ld188 (d := d + 2) (a := 0) (by decide) a0) ?_
  rintro r2 N2 ⟨rfl, f2, o2⟩
  refine ⟨none, rfl, ?_⟩
  have e4 : N2.2 118 4 = lI ((red (2 * K) (bZ p x)).2 : Nat) := o2.2.2.2.2
  -- the first of three
  have s1 : ∀ {v6' : Option am_V}, X 72 [some (aR 108), some (aR 187), some (aI 0), some (aJ (lI (t : Nat))), none, some (aI (nI p)), v6', v7, v8, v9] [aJ (lI (max t (red (2 * K) (bZ p x)).2 : Nat))] N2 → X 51 [some (aR 108), some (aR 187), some (aI 0), some (aJ (lI (t : Nat))), none, some (aI (nI p)), v6', v7, v8, v9] [] N2 := by
    intro v6' hk1
    refine am_run hX 7 _ _ _ _ ?_
    conv => whnf
    refine ⟨by first | exact i5_4 | exact i5_04 | decide, ?_⟩
    conv => whnf
    rw [k_4, e4, lgc (by omega) (by omega)]
    refine ⟨fun z => ?_, fun z => ?_⟩
    · refine am_run hX 1 _ _ _ _ ?_
      conv => whnf
      rw [Nat.max_eq_left z] at hk1
      exact hk1
    · refine am_run hX 5 _ _ _ _ ?_
      conv => whnf
      refine ⟨by first | exact i5_4 | exact i5_04 | decide, ?_⟩
      conv => whnf
      rw [k_4, e4]
      rw [Nat.max_eq_right (by omega)] at hk1
      exact hk1
  refine s1 ?_
  generalize ht1 : max t (red (2 * K) (bZ p x)).2 = t1
  refine am_run hX 1 _ _ _ _ ?_
  conv => whnf
  have F2 : N2.2 188 = N1.2 188 := f2.2 188 (by decide) (by decide) (by decide)
  refine am_run hX 5 _ _ _ _ ?_
  conv => whnf
  refine am_cq (f_ld188 (d := d + 2) (a := 5) (by decide) (by rw [F2]; exact a1)) ?_
  rintro r3 N3 ⟨rfl, f3, o3⟩
  refine ⟨none, rfl, ?_⟩
  have F3 : N3.2 188 = N1.2 188 := (f3.2 188 (by decide) (by decide) (by decide)).trans F2
  refine am_run hX 6 _ _ _ _ ?_
  conv => whnf
  refine am_cq (f_add188p (d := d + 1) (a := 10) (by decide) (by omega) (bq_bd (bq_ra bxy byx) (by decide)) o3 (by rw [F3]; exact a2)) ?_
  rintro r4 N4 ⟨rfl, f4, o4⟩
  refine ⟨none, rfl, ?_⟩
  refine am_run hX 2 _ _ _ _ ?_
  conv => whnf
  refine am_cq (f_halfP (d := d + 1) (by omega) (bq_bd (bq_ra bxy byx) (by decide)) o4) ?_
  rintro r5 N5 ⟨rfl, f5⟩
  refine ⟨_, rfl, ?_⟩
  have ex : (red (2 * K + 2) (ra (ce p x y) (ce p y x))).2 = (red (2 * K + 2) (bX p x y)).2 := rfl
  rw [ex]
  refine am_run hX 5 _ _ _ _ ?_
  conv => whnf
  rw [lgc (by omega) (by omega)]
  have nx2 : ∀ {l6 l7 : Option am_V}, X 112 [some (aR 108), some (aR 187), some (aI 0), some (aJ (lI (t1 : Nat))), none, some (aI (nI p)), l6, l7, v8, v9] [aJ (lI (max t1 (red (2 * K + 2) (bX p x y)).2 : Nat))] N5 := by
    intro l6 l7
    generalize ht2 : max t1 (red (2 * K + 2) (bX p x y)).2 = t2
    refine am_run hX 1 _ _ _ _ ?_
    conv => whnf
    have F5 : N5.2 188 = N1.2 188 := (f5.2 188 (by decide) (by decide) (by decide)).trans ((f4.2 188 (by decide) (by decide) (by decide)).trans F3)
    refine am_run hX 5 _ _ _ _ ?_
    conv => whnf
    refine am_cq (f_ld188 (d := d + 2) (a := 10) (by decide) (by rw [F5]; exact a2)) ?_
    rintro r6 N6 ⟨rfl, f6, o6⟩
    refine ⟨none, rfl, ?_⟩
    have F6 : N6.2 188 = N1.2 188 := (f6.2 188 (by decide) (by decide) (by decide)).trans F5
    refine am_run hX 6 _ _ _ _ ?_
    conv => whnf
    refine am_cq (f_add188m (d := d + 1) (a := 5) (by decide) (by omega) (bq_bd (bq_ra byx (bq_ng bxy)) (by decide)) o6 (by rw [F6]; exact a1)) ?_
    rintro r7 N7 ⟨rfl, f7, o7⟩
    refine ⟨none, rfl, ?_⟩
    refine am_run hX 3 _ _ _ _ ?_
    conv => whnf
    refine am_cq (f_turn (d := d + 2) (n := 6) (by decide) (by decide) o7) ?_
    rintro r8 N8 ⟨rfl, f8, o8⟩
    refine ⟨none, rfl, ?_⟩
    refine am_run hX 2 _ _ _ _ ?_
    conv => whnf
    refine am_cq (f_halfP (d := d + 1) (by omega) (t8_bd (bq_bd (bq_ra byx (bq_ng bxy)) (by decide)) 6) o8) ?_
    rintro r9 N9 ⟨rfl, f9⟩
    refine ⟨_, rfl, ?_⟩
    have ey : (red (2 * K + 2) (t8n 6 (ra (ce p y x) (ng (ce p x y))))).2 = (red (2 * K + 2) (bY p x y)).2 := rfl
    rw [ey]
    have F9 : ndF M N9 := ndF_t (ndF_t F1 (ndF_t (ndF_8 f2) (ndF_8 f3))) (ndF_t (ndF_t (ndF_8 f4) (ndF_8 f5)) (ndF_t (ndF_t (ndF_8 f6) (ndF_8 f7)) (ndF_t (ndF_8 f8) (ndF_8 f9))))
    have eN : ndP1 K x y p t = max t2 (red (2 * K + 2) (bY p x y)).2 := by
      unfold ndP1
      rw [ht1, ht2]
    have fin : ∀ {l6 l7 l8 l9 : Option am_V}, X 158 [some (aR 108), some (aR 187), some (aI 0), some (aJ (lI (t2 : Nat))), none, some (aI (nI p)), l6, l7, l8, l9] [aJ (lI (max t2 (red (2 * K + 2) (bY p x y)).2 : Nat))] N9 := by
      intro l6 l7 l8 l9
      rw [← eN]
      refine am_run hX 1 _ _ _ _ ?_
      conv => whnf
      refine am_run hX 2 _ _ _ _ ?_
      conv => whnf
      rw [nI_1]
      exact hE N9 _ _ _ _ F9
    refine am_run hX 5 _ _ _ _ ?_
    conv => whnf
    rw [lgc (by omega) (by omega)]
    refine ⟨fun z => ?_, fun z => ?_⟩
    · have fin := @fin
      rw [Nat.max_eq_left z] at fin
      refine am_run hX 1 _ _ _ _ ?_
      conv => whnf
      exact fin
    · have fin := @fin
      rw [Nat.max_eq_right (by omega)] at fin
      refine am_run hX 2 _ _ _ _ ?_
      conv => whnf
      exact fin
  refine ⟨fun z => ?_, fun z => ?_⟩
  · have nx2 := @nx2
    rw [Nat.max_eq_left z] at nx2
    refine am_run hX 1 _ _ _ _ ?_
    conv => whnf
    exact nx2
  · have nx2 := @nx2
    rw [Nat.max_eq_right (by omega)] at nx2
    refine am_run hX 2 _ _ _ _ ?_
    conv => whnf
    exact nx2
theorem ndP_b187 {K t : Nat} {x y : R2} {p : Nat} (hK : K < 2 ^ 27) (ht : t < 2 ^ 29) : ndP1 K x y p t < 2 ^ 29 := by
  have kz := red_k (2 * K) (bZ p x)
  have kx := red_k (2 * K + 2) (bX p x y)
  have ky := red_k (2 * K + 2) (bY p x y)
  unfold ndP1
  omega
set_option maxRecDepth 100000 in
theorem ct_need187 {K : Nat} {x y : R2} (hK : K < 2 ^ 27) (h : mxE (M.2 187) 0 K x y) (hn : smN (2 ^ 40) x y) : am_M (d + 4) false nm_X12_needOf [aR 108, aR 187, aI 0] M (fun r N => r = .inl (some (aJ (lI (ndM K x y : Nat)))) ∧ ndF M N) := by
  have b1 := ndP_b187 (x := x) (y := y) (p := 1) (t := 0) hK (by decide)
  have b2 := ndP_b187 (x := x) (y := y) (p := 2) hK b1
  have mk : ∀ N, ndF M N → mxE (N.2 187) 0 K x y := fun N f => by rw [f.2 187 (by decide) (by decide) (by decide) (by decide)]; exact h
  refine ⟨rfl, rfl, rfl, fun X hX => am_run hX 4 _ _ _ _ ?_⟩
  conv => whnf
  refine nd_p187 (d := d) (M := M) (p := 1) (t := 0) hX (by decide) (by decide) hK (by decide) h hn (fun N1 _ _ _ _ f1 => ?_)
  refine nd_p187 (d := d) (M := N1) (p := 2) hX (by decide) (by decide) hK (by omega) (mk N1 f1) hn (fun N2 _ _ _ _ f2 => ?_)
  refine nd_p187 (d := d) (M := N2) (p := 3) hX (by decide) (by decide) hK (by omega) (mk N2 (ndF_t f1 f2)) hn (fun N3 _ _ _ _ f3 => ?_)
  refine am_run hX 3 _ _ _ _ ?_
  conv => whnf
  refine ⟨fun _ => ?_, fun z => absurd (by decide) z⟩
  refine am_run hX 2 _ _ _ _ ?_
  conv => whnf
  exact ⟨trivial, rfl, ndF_t f1 (ndF_t f2 f3)⟩
end FMI
