/-! circuit: the reference reads a USE -/
theorem ntF_cm {f a x b y : Nat} (hx : 1 ≤ x) (hy : 1 ≤ y) : ntF (ntF f a x) b y = ntF (ntF f b y) a x := by
  unfold ntF
  by_cases h : f = 0
  · rw [if_pos h, if_pos h, if_neg (by omega), if_neg (by omega)]
    omega
  · rw [if_neg h, if_neg h]
    by_cases g1 : min f (8 * a + x) = 0
    · omega
    · by_cases g2 : min f (8 * b + y) = 0
      · omega
      · rw [if_neg g1, if_neg g2]
        omega
theorem twF_cm {fr sn f p w b y : Nat} (hy : 1 ≤ y) : ntF (twF fr sn f p w) b y = twF fr sn (ntF f b y) p w := by
  unfold twF
  by_cases h : fr ≤ w
  · rw [if_pos h, if_pos h, ntF_cm (by decide) hy]
  · rw [if_neg h, if_neg h]
    by_cases g : sn.testBit w = true
    · rw [if_pos g, if_pos g, ntF_cm (by decide) hy]
    · rw [if_neg g, if_neg g]
section CSE
variable {d : Nat} {M N : mm_M} {T : Nat → Nat} {t W k tl i f : Nat} {c : CX} {s : GS} {Q : Nat → Nat × Tr} {ws cs : List Nat} {nc : Nat} {b : Bool} {nu w0 v5 : Int32}
set_option maxRecDepth 100000 in
/-- a USE's other WIRES -/
theorem us_l {P : am_Q} {X : am_X} {D l : Nat} {p0 ba te mt fi n9 n10 : Int32} (hX : am_K (D + 5) false nm_X12_readUse P X) (hR : rjX M T t) (h33 : M.1 108 33 = nI (cxW c)) (hfr : cxW c ≤ 8) (k4 : k < 401) (T4 : cxT c l ≤ 4) (hc : crC T t (cxI c) ≠ 0 ∨ cxD c ≠ 0) (U : Nat × Nat × List Nat) (hZ : tkE T t W c = (if crC T t U.1 = 59 ∧ (cxT c l = 0 ∨ U.2.2.length = cxT c l) then .inr (evU l b cs U.2.2, cxS c (crA T t U.1) U.2.1) else .inl (crP T t U.1))) (hQ0 : ∀ N, stN M N T t W c → P (.inl (some (aI 0))) N) (hQ1 : ∀ N e c1 tl1, tkE T t W c = .inr (e, c1) → seE M N c c1 k tl tl1 e → P (.inl (some (aI 1))) N) : ∀ (m i f : Nat) (us : List Nat) (N : mm_M), us.length + m = (if cxT c l = 0 then 4 else cxT c l) → cxI c + 2 ≤ i → usw T t (cxW c) m i f (mskL (cs ++ us)) us = U → soI M N T t k tl i f (cs ++ us) cs.length b (nI l) 11 1 → X 239 [some (aR 108), some (aI (nI k)), some (aI p0), some (aI ba), some (aI (nI l)), some (aI (nI (cxT c l))), some (aI te), some (aI mt), some (aI fi), some (aI n9), some (aI n10), some (aI (nI us.length))] [] N := by
  have t4 := hR.1
  have ix : vp_in (nI k) 401 := vp_in_nI k4 (by decide)
  have cl : (nI k).toNatClampNeg = k := nI_clamp (by omega)
  have fin : ∀ (i f : Nat) (us : List Nat) (N : mm_M), cxI c + 2 ≤ i → (i, f, us) = U → (cxT c l = 0 ∨ us.length = cxT c l) → soI M N T t k tl i f (cs ++ us) cs.length b (nI l) 11 1 → X 283 [some (aR 108), some (aI (nI k)), some (aI p0), some (aI ba), some (aI (nI l)), some (aI (nI (cxT c l))), some (aI te), some (aI mt), some (aI fi), some (aI n9), some (aI n10), some (aI (nI us.length))] [] N := by
    intro i f us N le hU hy hI5
    rw [← hU] at hZ
    have hz : tkE T t W c = (if crC T t i = 59 then .inr (evU l b cs us, cxS c (crA T t i) f) else .inl (crP T t i)) := by
      rw [hZ]
      by_cases q : crC T t i = 59
      · rw [if_pos ⟨q, hy⟩, if_pos q]
      · rw [if_neg (fun z => q z.1), if_neg q]
    have b1 := cra_1 (T := T) hI5.2.1.1.1
    refine am_run hX 6 _ _ _ _ ?_
    conv => whnf
    rw [hI5.2.2.1.1]
    refine ⟨ix, ?_⟩
    rw [cl]
    have hI6 := soI_u (q := 126) (v := nI (k + 1)) hI5 (by decide) (nc' := cs.length) (b' := b) (nu' := nI l) (w0' := 11) (by rw [mm_ne _ _ _ _ (by decide)]; exact hI5.2.2.2.1) (by rw [mm_ne _ _ _ _ (by decide)]; exact hI5.2.2.2.2.1) (by rw [mm_ne _ _ _ _ (by decide)]; exact hI5.2.2.2.2.2.1) (by rw [mm_ne _ _ _ _ (by decide)]; exact hI5.2.2.2.2.2.2.1)
    have e6 : (mm_i N 126 (upd (N.1 126) k (nI (k + 1)))).1 126 k = nI (k + 1) := rj_ac _ _ _ _
    generalize mm_i N 126 _ = N6 at *
    refine am_run hX 3 _ _ _ _ ?_
    conv => whnf
    by_cases w : crC T t i = 59
    · rw [if_pos w] at hz
      have p5 := b1.2.2 (crn_1 (by omega))
      refine am_c1 (ct_wa1 (d := D + 2) (c := 59) (soI_X hI6 hR) hI6.2.1.1 (by decide) w) ?_
      refine am_run hX 1 _ _ _ _ ?_
      conv => whnf
      refine ⟨rfl, hQ1 _ _ _ (tl + (cs ++ us).length) hz (soI_E (soI_a hI6 (by omega)) (sa_3 N6 _) (by show 1 < 3; decide) rfl rfl rfl rfl rfl ?_ rfl rfl (by omega))⟩
      rw [show (saM N6 (crA T t i)).1 126 = N6.1 126 from mm_ne _ _ _ _ (by decide)]
      exact e6
    · rw [if_neg w] at hz
      refine am_c1 (ct_wa0 (d := D + 2) (c := 59) (soI_X hI6 hR) hI6.2.1.1 (by decide) w) ?_
      refine am_run hX 1 _ _ _ _ ?_
      conv => whnf
      exact ⟨rfl, hQ0 _ (soI_N hI6 hz hc)⟩
  intro m
  induction m with
  | zero =>
    intro i f us N hm le hU hI
    have hU : (i, f, us) = U := hU
    refine am_run hX 2 _ _ _ _ ?_
    conv => whnf
    by_cases z : cxT c l = 0
    · have fin := fun N' => fin i f us N' le hU (Or.inl z)
      rw [z] at fin ⊢
      rw [if_pos z] at hm
      refine ⟨fun y => absurd rfl y, fun _ => ?_⟩
      refine am_run hX 2 _ _ _ _ ?_
      conv => whnf
      refine am_c1 (ct_dg (d := D + 3) (soI_X hI hR) hI.2.1.1) ?_
      refine am_run hX 1 _ _ _ _ ?_
      conv => whnf
      cases hd : isDg (crC T t i) with
      | false => exact ⟨fun _ => fin _ (soI_s hI), fun y => absurd rfl y⟩
      | true =>
        refine ⟨fun y => absurd y (by decide), fun _ => ?_⟩
        refine am_run hX 3 _ _ _ _ ?_
        conv => whnf
        exact ⟨fun _ => fin _ (soI_s hI), fun y => absurd (nI_le (a := 4) (b := us.length) (by omega) (by omega)) y⟩
    · rw [if_neg z] at hm
      refine ⟨fun _ => ?_, fun y => absurd (nI_ne0 (n := cxT c l) (by omega) (by omega)) y⟩
      refine am_run hX 3 _ _ _ _ ?_
      conv => whnf
      exact ⟨fun _ => fin i f us N le hU (Or.inr (by omega)) hI, fun y => absurd (nI_le (by omega) (by omega)) y⟩
  | succ m ih =>
    intro i f us N hm le hU hI
    have e : usw T t (cxW c) (m + 1) i f (mskL (cs ++ us)) us = if isDg (crC T t i) = true then usw T t (cxW c) m (crA T t i) (twF (cxW c) (mskL (cs ++ us)) f (crP T t i) (crC T t i - 48)) (mskL (cs ++ us) ||| 2 ^ (crC T t i - 48)) (us ++ [crC T t i - 48]) else (i, f, us) := rfl
    rw [e] at hU
    have a1 := cra_1 (T := T) hI.2.1.1.1
    have more : ∀ N', isDg (crC T t i) = true → soI M N' T t k tl i f (cs ++ us) cs.length b (nI l) 11 1 → X 267 [some (aR 108), some (aI (nI k)), some (aI p0), some (aI ba), some (aI (nI l)), some (aI (nI (cxT c l))), some (aI te), some (aI mt), some (aI fi), some (aI n9), some (aI n10), some (aI (nI us.length))] [] N' := by
      intro N' hd hI'
      rw [if_pos hd, ← msk_a] at hU
      refine am_run hX 3 _ _ _ _ ?_
      conv => whnf
      refine am_cq (ct_rw1 (d := D + 2) (soI_X hI' hR) hI'.2.1.1 k4 hI'.2.2.1.2 (soI_t hR hI' hd k4) (by rw [soI_f hI' rfl]; exact h33) hfr hI'.2.1.2.1 hd) ?_
      intro r2 N2 g2
      obtain ⟨rfl, hI2, _⟩ := soI_w hI' hd g2
      refine ⟨_, rfl, ?_⟩
      refine am_run hX 1 _ _ _ _ ?_
      conv => whnf
      refine ⟨fun _ => ?_, fun y => absurd (by decide) y⟩
      refine am_run hX 2 _ _ _ _ ?_
      conv => whnf
      rw [nI_1]
      rw [List.append_assoc] at hI2 hU
      have := ih (crA T t i) _ (us ++ [crC T t i - 48]) N2 (by rw [List.length_append]; show us.length + 1 + m = _; omega) (by omega) hU hI2
      rw [List.length_append] at this
      exact this
    refine am_run hX 2 _ _ _ _ ?_
    conv => whnf
    by_cases z : cxT c l = 0
    · have fin := fun N' hU => fin i f us N' le hU (Or.inl z)
      have zz := z
      rw [if_pos z] at hm
      rw [z] at fin more ⊢
      refine ⟨fun y => absurd rfl y, fun _ => ?_⟩
      refine am_run hX 2 _ _ _ _ ?_
      conv => whnf
      refine am_c1 (ct_dg (d := D + 3) (soI_X hI hR) hI.2.1.1) ?_
      refine am_run hX 1 _ _ _ _ ?_
      conv => whnf
      cases hd : isDg (crC T t i) with
      | false =>
        rw [hd, if_neg (by decide)] at hU
        exact ⟨fun _ => fin _ hU (soI_s hI), fun y => absurd rfl y⟩
      | true =>
        refine ⟨fun y => absurd y (by decide), fun _ => ?_⟩
        refine am_run hX 3 _ _ _ _ ?_
        conv => whnf
        refine ⟨fun y => absurd y (nI_ge (b := 4) (by omega) (by decide)), fun _ => ?_⟩
        refine am_run hX 1 _ _ _ _ ?_
        conv => whnf
        exact more _ hd (soI_s hI)
    · rw [if_neg z] at hm
      refine ⟨fun _ => ?_, fun y => absurd (nI_ne0 (n := cxT c l) (by omega) (by omega)) y⟩
      refine am_run hX 3 _ _ _ _ ?_
      conv => whnf
      refine ⟨fun y => absurd y (nI_ge (by omega) (by omega)), fun _ => ?_⟩
      cases hd : isDg (crC T t i) with
      | true => exact more N hd hI
      | false =>
        rw [hd, if_neg (by decide)] at hU
        rw [← hU] at hZ
        have hz : tkE T t W c = .inl (crP T t i) := by
          rw [hZ, if_neg (fun y => by
            rcases y.2 with q | q
            · exact z q
            · have q : us.length = cxT c l := q
              omega)]
        refine am_run hX 3 _ _ _ _ ?_
        conv => whnf
        refine am_c1 (ct_rw0 (d := D + 2) (soI_X hI hR) hI.2.1.1 hd) ?_
        refine am_run hX 1 _ _ _ _ ?_
        conv => whnf
        refine ⟨fun y => absurd rfl y, fun _ => ?_⟩
        refine am_run hX 2 _ _ _ _ ?_
        conv => whnf
        exact ⟨rfl, hQ0 _ (soI_N hI hz hc)⟩
theorem isAd_w {c : Nat} (h : isAd c = true) : 97 ≤ c ∧ c ≤ 100 := by
  obtain ⟨a, b⟩ := (Bool.and_eq_true _ _).mp h
  exact ⟨of_decide_eq_true a, of_decide_eq_true b⟩
theorem isAd_n {c : Nat} (h : isAd c = false) : ¬ (97 ≤ c ∧ c ≤ 100) := by
  intro z
  unfold isAd at h
  rw [decide_eq_true z.1, decide_eq_true z.2] at h
  exact absurd h (by decide)
set_option maxRecDepth 100000 in
theorem ct_ruse {D : Nat} (hI : RIv M T t W c s k tl Q) (hS : soI M N T t k tl i f cs cs.length b 0 (-1) (M.1 108 35)) (h3 : N.1 108 3 = nI (crP T t i)) (h64 : crC T t i = 64) (hi0 : cxI c ≤ i) (hc : crC T t (cxI c) ≠ 0 ∨ cxD c ≠ 0) (hZ : tkE T t W c = atE T t c (crP T t i) (crA T t i) f (mskL cs) cs b) (hSS : ssH (D + 4) T t W (cxI c) (cxD c)) : am_M (D + 6) false nm_X12_readUse [aR 108, aI (nI k)] N (sxR M T t W c s k tl Q) := by
  obtain ⟨k4, hfr, h33, h19, h27⟩ := RI_k hI
  have hR := hI.1
  have t4 := hR.1
  have hi := hS.2.1.1.1
  have ix : vp_in (nI k) 401 := vp_in_nI k4 (by decide)
  have cl : (nI k).toNatClampNeg = k := nI_clamp (by omega)
  have a1 := cra_1 (T := T) hi
  have a2 := cra_1 (T := T) a1.2.1
  have a3 := cra_1 (T := T) a2.2.1
  have pp := crp_1 (T := T) hi
  have p1 := a1.2.2 (crn_1 (by omega))
  have ea : crA T t i = crP T t i + 1 := cra_p (by omega)
  have csl : cs.length < 401 := by
    have := hS.2.1.2.2
    omega
  have hQ1 : ∀ N e c1 tl1, tkE T t W c = .inr (e, c1) → seE M N c c1 k tl tl1 e → sxR M T t W c s k tl Q (.inl (some (aI 1))) N := fun N e c1 tl1 z g => sxR_e hI z g
  have hQ0 : ∀ N, stN M N T t W c → sxR M T t W c s k tl Q (.inl (some (aI 0))) N := fun N g => Or.inr ⟨rfl, g⟩
  refine ⟨rfl, rfl, rfl, fun X hX => ?_⟩
  -- from the letter on
  have s29 : X 29 [some (aR 108), some (aI (nI k)), some (aI (nI (crP T t i))), some (aI (b01 (decide (cs = []) && !b))), none, none, none, none, none, none, none, none] [] N := by
    refine am_run hX 6 _ _ _ _ ?_
    conv => whnf
    rw [h3, nI_1, ← ea]
    have hI1 : soI M (mm_i N 108 (upd (N.1 108) 3 (nI (crA T t i)))) T t k tl (crA T t i) f cs cs.length b 0 (-1) (M.1 108 35) := soI_a hS (by omega)
    generalize mm_i N 108 _ = N1 at *
    generalize hi1 : crA T t i = i1 at *
    refine am_run hX 2 _ _ _ _ ?_
    conv => whnf
    refine am_c1 (ct_lt (d := D + 3) (soI_X hI1 hR) hI1.2.1.1) ?_
    have hI2 := soI_s hI1
    have e2 := sa_3 N1 (crP T t i1)
    generalize saM N1 (crP T t i1) = N2 at *
    refine am_run hX 1 _ _ _ _ ?_
    conv => whnf
    unfold atE at hZ
    cases hL : isAd (crC T t i1) with
    | false =>
      rw [if_neg (isAd_n hL)] at hZ
      refine ⟨fun z => absurd rfl z, fun _ => ?_⟩
      refine am_run hX 2 _ _ _ _ ?_
      conv => whnf
      refine am_c1 (ct_rf (d := D + 3) (soI_X hI2 hR) hI2.2.1.1) ?_
      refine am_run hX 1 _ _ _ _ ?_
      conv => whnf
      exact ⟨rfl, hQ0 _ (soI_N hI2 hZ hc)⟩
    | true =>
      have lw := isAd_w hL
      rw [if_pos lw] at hZ
      have p2 := a2.2.2 (crn_1 (by omega))
      have ea2 : crA T t i1 = crP T t i1 + 1 := cra_p (by omega)
      refine ⟨fun _ => ?_, fun z => absurd (by decide) z⟩
      refine am_run hX 2 _ _ _ _ ?_
      conv => whnf
      refine am_c1 (ct_se0 (d := D + 4) (soI_X hI2 hR) hI2.2.1.1.1 e2) ?_
      refine am_run hX 3 _ _ _ _ ?_
      conv => whnf
      rw [show nI (crC T t i1) - 97 = nI (crC T t i1 - 97) from by rw [show (97 : Int32) = nI 97 from rfl, nI_sub (by omega)]]
      have l4 : crC T t i1 - 97 < 4 := by omega
      generalize crC T t i1 - 97 = l at *
      have il : vp_in (nI l) 4 := vp_in_nI l4 (by decide)
      have cll : (nI l).toNatClampNeg = l := nI_clamp (by omega)
      have T4 : cxT c l ≤ 4 := hI.2.2.2.2.2.1.2.2.2.2.1 l
      refine am_run hX 6 _ _ _ _ ?_
      conv => whnf
      rw [e2, nI_1, ← ea2]
      have hI3 : soI M (mm_i N2 108 (upd (N2.1 108) 3 (nI (crA T t i1)))) T t k tl (crA T t i1) f cs cs.length b 0 (-1) (M.1 108 35) := soI_a hI2 (by omega)
      have e33 : (mm_i N2 108 (upd (N2.1 108) 3 (nI (crA T t i1)))).1 108 3 = nI (crA T t i1) := rj_at _ _ _
      generalize mm_i N2 108 _ = N3 at *
      generalize hi2 : crA T t i1 = i2 at *
      refine am_run hX 5 _ _ _ _ ?_
      conv => whnf
      refine ⟨ix, ?_⟩
      rw [cl]
      have hI4 := soI_u (q := 120) (v := 11) hI3 (by decide) (nc' := cs.length) (b' := b) (nu' := 0) (w0' := 11) (by rw [mm_ne _ _ _ _ (by decide)]; exact hI3.2.2.2.1) (by rw [mm_ne _ _ _ _ (by decide)]; exact hI3.2.2.2.2.1) (by rw [mm_ne _ _ _ _ (by decide)]; exact hI3.2.2.2.2.2.1) (rj_ac _ _ _ _)
      have e43 : (mm_i N3 120 (upd (N3.1 120) k 11)).1 108 3 = nI i2 := by rw [mm_ne _ _ _ _ (by decide)]; exact e33
      generalize mm_i N3 120 _ = N4 at *
      refine am_run hX 5 _ _ _ _ ?_
      conv => whnf
      refine ⟨ix, ?_⟩
      rw [cl]
      have hI5 := soI_u (q := 125) (v := nI l) hI4 (by decide) (nc' := cs.length) (b' := b) (nu' := nI l) (w0' := 11) (by rw [mm_ne _ _ _ _ (by decide)]; exact hI4.2.2.2.1) (by rw [mm_ne _ _ _ _ (by decide)]; exact hI4.2.2.2.2.1) (rj_ac _ _ _ _) (by rw [mm_ne _ _ _ _ (by decide)]; exact hI4.2.2.2.2.2.2.1)
      have e53 : (mm_i N4 125 (upd (N4.1 125) k (nI l))).1 108 3 = nI i2 := by rw [mm_ne _ _ _ _ (by decide)]; exact e43
      generalize mm_i N4 125 _ = N5 at *
      have e128 : N5.1 128 l = nI (cxT c l) := by rw [hI5.1.1.1 128 (by decide) rfl]; exact hI.2.2.2.2.1.2.2.1 l l4
      refine am_run hX 4 _ _ _ _ ?_
      conv => whnf
      refine ⟨il, ?_⟩
      rw [cll, e128]
      refine am_run hX 1 _ _ _ _ ?_
      conv => whnf
      refine am_run hX 3 _ _ _ _ ?_
      conv => whnf
      rw [e53]
      have e34 : N5.1 108 34 = b01 (rbX c) := by rw [soI_f hI5 rfl]; exact hI.2.2.2.1.2.2.1
      have e32 : N5.1 108 32 = nI (cxD c) := by rw [soI_f hI5 rfl]; exact hI.2.2.2.1.2.1
      have e35 : N5.1 108 35 = M.1 108 35 := hI5.2.2.2.2.2.2.2
      have h4 := hI.2.2.2.1.2.2.2.1
      have hD := hI.2.2.2.2.2.1.2.2.2.2.2.2.2.2
      have dD : cxD c ≤ 8 := hI.2.2.2.2.2.1.2.2.1
      have hba : b01 (decide (cs = []) && !b) = 0 ↔ ¬ (cs = [] ∧ b = false) := by
        by_cases q1 : cs = []
        · rw [decide_eq_true q1]
          cases b with
          | true => exact ⟨fun _ z => absurd z.2 (by decide), fun _ => rfl⟩
          | false => exact ⟨fun z => absurd z (by decide), fun z => absurd ⟨q1, rfl⟩ z⟩
        · rw [decide_eq_false q1]
          exact ⟨fun _ z => q1 z.1, fun _ => rfl⟩
      generalize b01 (decide (cs = []) && !b) = ba at hba ⊢
      -- behind what may be told
      have s131 : X 131 [some (aR 108), some (aI (nI k)), some (aI (nI (crP T t i))), some (aI ba), some (aI (nI l)), some (aI (nI (cxT c l))), some (aI (nI i2)), none, none, none, none, none] [aI (b01 (decide (cs = [] ∧ b = false ∧ cxR c = 4 ∧ cxA c = false)))] N5 := by
        refine am_run hX 1 _ _ _ _ ?_
        conv => whnf
        refine am_run hX 2 _ _ _ _ ?_
        conv => whnf
        refine am_c1 (ct_se (d := D + 4) (soI_X hI5 hR) hI5.2.1.1) ?_
        have hI6 := soI_s hI5
        generalize saM N5 (crP T t i2) = N6 at *
        refine am_run hX 1 _ _ _ _ ?_
        conv => whnf
        refine am_run hX 3 _ _ _ _ ?_
        conv => whnf
        generalize h9 : N6.1 108 17 = n9
        refine am_run hX 3 _ _ _ _ ?_
        conv => whnf
        generalize h10 : N6.1 108 18 = n10
        refine am_run hX 3 _ _ _ _ ?_
        conv => whnf
        cases hd : isDg (crC T t i2) with
        | false =>
          rw [hd, if_neg (by decide)] at hZ
          refine am_c1 (ct_rw0 (d := D + 2) (soI_X hI6 hR) hI6.2.1.1 hd) ?_
          refine am_run hX 1 _ _ _ _ ?_
          conv => whnf
          refine ⟨fun z => absurd rfl z, fun _ => ?_⟩
          refine am_run hX 2 _ _ _ _ ?_
          conv => whnf
          exact ⟨rfl, hQ0 _ (soI_N hI6 hZ hc)⟩
        | true =>
          rw [if_pos hd] at hZ
          have dw := isDg_w hd
          have p3 := a3.2.2 (crn_1 (by omega))
          refine am_cq (ct_rw1 (d := D + 2) (soI_X hI6 hR) hI6.2.1.1 k4 hI6.2.2.1.2 (soI_t hR hI6 hd k4) (by rw [soI_f hI6 rfl]; exact h33) hfr hI6.2.1.2.1 hd) ?_
          intro r7 N7 g7
          obtain ⟨rfl, hI7, _⟩ := soI_w hI6 hd g7
          refine ⟨_, rfl, ?_⟩
          refine am_run hX 1 _ _ _ _ ?_
          conv => whnf
          refine ⟨fun _ => ?_, fun z => absurd (by decide) z⟩
          generalize hi3 : crA T t i2 = i3 at *
          have c37 := rjX_c (i := i3) hR
          refine am_run hX 2 _ _ _ _ ?_
          conv => whnf
          refine am_c1 (ct_se (d := D + 4) (soI_X hI7 hR) hI7.2.1.1) ?_
          have hI8 := soI_s hI7
          generalize saM N7 (crP T t i3) = N8 at *
          refine am_run hX 2 _ _ _ _ ?_
          conv => whnf
          by_cases h91 : crC T t i3 = 91
          · rw [if_pos h91] at hZ
            refine ⟨fun z => absurd (by rw [h91]; rfl) z, fun _ => ?_⟩
            refine am_run hX 3 _ _ _ _ ?_
            conv => whnf
            generalize q9 : mm_i N8 108 _ = N9
            have F9 : rjF [17] [] N8 N9 := by rw [← q9]; exact rjF_u N8 _ rfl
            have x9 : N9.1 108 17 = n9 := by rw [← q9]; exact rj_at _ _ _
            refine am_run hX 3 _ _ _ _ ?_
            conv => whnf
            generalize q10 : mm_i N9 108 _ = N10
            have F10 : rjF [18] [] N9 N10 := by rw [← q10]; exact rjF_u N9 _ rfl
            have x10 : N10.1 108 18 = n10 := by rw [← q10]; exact rj_at _ _ _
            have nn : rjN N10 f := by
              have z := hI6.2.1.2.1
              exact ⟨z.1, by rw [F10.2.1 17 rfl, x9, ← h9]; exact z.2.1, fun y => ⟨(z.2.2 y).1, by rw [x10, ← h10]; exact (z.2.2 y).2⟩⟩
            have G : rjF [3, 17, 18, 35] [] N8 N10 := rjF_t (rjF_w (by decide) (by decide) F9) (rjF_w (by decide) (by decide) F10)
            have hI10 := soI_m (v := M.1 108 35) hI8 G (rjA_f rfl F10 (rjA_f rfl F9 hI8.2.1.1)) nn (Nat.le_refl _) (by rw [F10.2.1 35 rfl, F9.2.1 35 rfl]; exact hI8.2.2.2.2.2.2.2)
            have refu : tkE T t W c = .inl (crP T t i3) → X 201 [some (aR 108), some (aI (nI k)), some (aI (nI (crP T t i))), some (aI ba), some (aI (nI l)), some (aI (nI (cxT c l))), some (aI (nI i2)), some (aI (b01 (decide (cs = [] ∧ b = false ∧ cxR c = 4 ∧ cxA c = false)))), some (aI (nI (crC T t i2))), some (aI n9), some (aI n10), none] [] N10 := by
              intro hz
              refine am_run hX 2 _ _ _ _ ?_
              conv => whnf
              refine am_c1 (ct_rf (d := D + 3) (soI_X hI10 hR) hI10.2.1.1) ?_
              refine am_run hX 1 _ _ _ _ ?_
              conv => whnf
              exact ⟨rfl, hQ0 _ (soI_N hI10 hz hc)⟩
            refine am_run hX 2 _ _ _ _ ?_
            conv => whnf
            by_cases may : cs = [] ∧ b = false ∧ cxR c = 4 ∧ cxA c = false
            · refine ⟨fun z => absurd z (by rw [decide_eq_true may]; decide), fun _ => ?_⟩
              refine am_run hX 3 _ _ _ _ ?_
              conv => whnf
              by_cases lo : crC T t i2 < 49
              · exact ⟨fun _ => refu (by rw [hZ, if_neg (fun z => by have := z.2.2.2.2.1; omega)]), fun z => absurd (nI_lt (b := 49) lo (by decide)) z⟩
              · refine ⟨fun z => absurd z (nI_nlt (b := 49) (by omega) (by omega)), fun _ => ?_⟩
                refine am_run hX 3 _ _ _ _ ?_
                conv => whnf
                by_cases up : crC T t i2 ≤ 52
                · refine ⟨fun _ => ?_, fun z => absurd (nI_le (b := 52) up (by decide)) z⟩
                  obtain ⟨rfl, rfl, r4, ah⟩ := may
                  rw [if_pos ⟨rfl, rfl, r4, ah, by omega, up⟩] at hZ
                  refine am_run hX 8 _ _ _ _ ?_
                  conv => whnf
                  rw [show nI (crC T t i2) - 48 = nI (crC T t i2 - 48) from by rw [show (48 : Int32) = nI 48 from rfl, nI_sub (by omega)]]
                  refine am_cq (ct_rro (D := D) (w1 := crC T t i2 - 48) hI hI10 h91 r4 ah l4 (by omega) (by omega) hZ hSS) ?_
                  rintro r11 N11 (⟨rfl, g⟩ | ⟨rfl, g⟩)
                  · refine ⟨_, rfl, ?_⟩
                    refine am_run hX 1 _ _ _ _ ?_
                    conv => whnf
                    exact ⟨rfl, Or.inl ⟨rfl, g⟩⟩
                  · refine ⟨_, rfl, ?_⟩
                    refine am_run hX 1 _ _ _ _ ?_
                    conv => whnf
                    exact ⟨rfl, Or.inr ⟨rfl, g⟩⟩
                · exact ⟨fun z => absurd z (nI_ge (a := 52) (by omega) (by omega)), fun _ => refu (by rw [hZ, if_neg (fun z => up z.2.2.2.2.2)])⟩
            · exact ⟨fun _ => refu (by rw [hZ, if_neg (fun z => may ⟨z.1, z.2.1, z.2.2.1, z.2.2.2.1⟩)]), fun z => absurd (by rw [decide_eq_false may]; rfl) z⟩
          · rw [if_neg h91] at hZ
            refine ⟨fun _ => ?_, fun z => absurd (fun e => h91 ((nI_eq (b := 91) (by omega) (by decide)).mp e)) z⟩
            refine am_run hX 3 _ _ _ _ ?_
            conv => whnf
            refine ⟨⟨rfl, rfl⟩, ?_⟩
            have hI9 := soI_5 hI8
            generalize mm_i N8 108 _ = N9 at *
            unfold usE at hZ
            refine am_run hX 2 _ _ _ _ ?_
            conv => whnf
            by_cases z : cxT c l = 0
            · refine ⟨fun y => absurd (by rw [z]; rfl) y, fun _ => ?_⟩
              refine am_run hX 4 _ _ _ _ ?_
              conv => whnf
              refine am_cq (ct_nt (d := D + 4) (k := 4) hI9.2.1.2.1 (by omega : crP T t i ≤ 400) (by decide)) ?_
              rintro r10 N10 ⟨rfl, F10, n10'⟩
              refine ⟨_, rfl, ?_⟩
              have hI10 := soI_m (v := 1) hI9 (rjF_w (by decide) (by decide) F10) (rjA_f rfl F10 hI9.2.1.1) n10' (Nat.le_refl _) (by rw [F10.2.1 35 rfl]; exact hI9.2.2.2.2.2.2.2)
              refine am_run hX 2 _ _ _ _ ?_
              conv => whnf
              refine us_l (cs := cs) (b := b) hX hR h33 hfr k4 T4 hc _ hZ hQ0 hQ1 3 i3 _ [crC T t i2 - 48] N10 (by rw [if_pos z]; rfl) (by omega) ?_ hI10
              unfold usQ
              rw [if_pos z, if_pos z, twF_cm (by decide), msk_a]
            · refine ⟨fun _ => ?_, fun y => absurd (nI_ne0 (n := cxT c l) (by omega) (by omega)) y⟩
              refine am_run hX 2 _ _ _ _ ?_
              conv => whnf
              refine us_l (cs := cs) (b := b) hX hR h33 hfr k4 T4 hc _ hZ hQ0 hQ1 (cxT c l - 1) i3 _ [crC T t i2 - 48] N9 (by rw [if_neg z]; show 1 + (cxT c l - 1) = cxT c l; omega) (by omega) ?_ hI9
              unfold usQ
              rw [if_neg z, if_neg z, msk_a]
      -- what may be told
      have no : ¬ (cs = [] ∧ b = false ∧ cxR c = 4 ∧ cxA c = false) → X 130 [some (aR 108), some (aI (nI k)), some (aI (nI (crP T t i))), some (aI ba), some (aI (nI l)), some (aI (nI (cxT c l))), some (aI (nI i2)), none, none, none, none, none] [] N5 := by
        intro h
        rw [decide_eq_false h] at s131
        refine am_run hX 1 _ _ _ _ ?_
        conv => whnf
        exact s131
      refine am_run hX 2 _ _ _ _ ?_
      conv => whnf
      by_cases bb : cs = [] ∧ b = false
      · refine ⟨fun z => absurd bb (hba.mp z), fun _ => ?_⟩
        refine am_run hX 3 _ _ _ _ ?_
        conv => whnf
        rw [e35]
        by_cases v0 : M.1 108 35 = 0
        · refine ⟨fun z => absurd v0 z, fun _ => ?_⟩
          refine am_run hX 3 _ _ _ _ ?_
          conv => whnf
          rw [e34]
          by_cases r4 : cxR c = 4
          · have rb : rbX c = false := by unfold rbX; rw [decide_eq_true r4]; rfl
            have ah : cxA c = false := by
              cases q : cxA c with
              | false => rfl
              | true =>
                have := (h4 r4).1
                rw [v0, q] at this
                exact absurd this (by decide)
            rw [rb]
            refine ⟨fun z => absurd rfl z, fun _ => ?_⟩
            refine am_run hX 3 _ _ _ _ ?_
            conv => whnf
            rw [e32, hD r4 ah]
            refine ⟨fun z => absurd rfl z, fun _ => ?_⟩
            rw [decide_eq_true ⟨bb.1, bb.2, r4, ah⟩] at s131
            refine am_run hX 2 _ _ _ _ ?_
            conv => whnf
            exact s131
          · have rb : rbX c = true := by unfold rbX; rw [decide_eq_false r4]; rfl
            rw [rb]
            exact ⟨fun _ => no (fun z => r4 z.2.2.1), fun z => absurd (by decide) z⟩
        · refine ⟨fun _ => no (fun z => v0 ?_), fun z => absurd v0 z⟩
          rw [(h4 z.2.2.1).1, z.2.2.2]
          rfl
      · exact ⟨fun _ => no (fun z => bb ⟨z.1, z.2.1⟩), fun z => absurd (hba.mpr bb) z⟩
  have e27 : (decide (cs = []) && !b) = false → X 27 [some (aR 108), some (aI (nI k)), some (aI (nI (crP T t i))), none, none, none, none, none, none, none, none, none] [] N := by
    intro h
    rw [h] at s29
    refine am_run hX 2 _ _ _ _ ?_
    conv => whnf
    exact s29
  refine am_run hX 3 _ _ _ _ ?_
  conv => whnf
  rw [h3]
  refine am_run hX 4 _ _ _ _ ?_
  conv => whnf
  refine ⟨ix, ?_⟩
  rw [cl, hS.2.2.2.1]
  refine am_run hX 1 _ _ _ _ ?_
  conv => whnf
  by_cases q1 : cs = []
  · refine ⟨fun y => absurd (by rw [q1]; rfl) y, fun _ => ?_⟩
    refine am_run hX 4 _ _ _ _ ?_
    conv => whnf
    refine ⟨ix, ?_⟩
    rw [cl, hS.2.2.2.2.1]
    refine am_run hX 1 _ _ _ _ ?_
    conv => whnf
    by_cases q2 : b = true
    · exact ⟨fun _ => e27 (by rw [q2, decide_eq_true q1]; rfl), fun y => absurd (by rw [q2]; decide) y⟩
    · have q3 : b = false := by
        cases b with
        | true => exact absurd rfl q2
        | false => rfl
      refine ⟨fun y => absurd (by rw [q3]; rfl) y, fun _ => ?_⟩
      rw [show (decide (cs = []) && !b) = true from by rw [q3, decide_eq_true q1]; rfl] at s29
      refine am_run hX 3 _ _ _ _ ?_
      conv => whnf
      exact s29
  · refine ⟨fun _ => e27 (by rw [decide_eq_false q1]; rfl), fun y => absurd (nI_ne0 (n := cs.length) (Nat.pos_of_ne_zero (fun z => q1 (List.eq_nil_of_length_eq_zero z))) (by omega)) y⟩
end CSE
