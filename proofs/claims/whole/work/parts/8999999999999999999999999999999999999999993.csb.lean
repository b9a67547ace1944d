/-! circuit: the reference reads a GATE, m, r -/
/-- a STATEMENT with nothing in it is whole -/
def seE (M N : mm_M) (c c1 : CX) (k tl tl1 : Nat) (e : Ev) : Prop := e.1 < 3 ∧ rjF giS giC M N ∧ kpt k tl M N ∧ N.1 108 3 = nI (cxI c1) ∧ rjN N (cxF c1) ∧ N.1 108 19 = nI (k + 1) ∧ cxI c + 3 ≤ cxI c1 ∧ N.1 108 27 = nI tl1 ∧ tl ≤ tl1 ∧ tl1 ≤ cxI c1 ∧ N.1 108 35 = 1 ∧ ndH N tl1 k e 0
/-- what reading a STATEMENT comes to -/
def sxR (M : mm_M) (T : Nat → Nat) (t W : Nat) (c : CX) (s : GS) (k tl : Nat) (Q : Nat → Nat × Tr) (r : am_R) (N : mm_M) : Prop := (r = .inl (some (aI 1)) ∧ ∃ c1 s1 k1 tl1 Q1 S, stD M N T t W c s k tl Q c1 s1 k1 tl1 Q1 [S] ∧ cxI c < cxI c1) ∨ (r = .inl (some (aI 0)) ∧ stN M N T t W c)
theorem sxR_e {M N : mm_M} {T : Nat → Nat} {t W : Nat} {c c1 : CX} {s : GS} {k tl tl1 : Nat} {Q : Nat → Nat × Tr} {e : Ev} (hI : RIv M T t W c s k tl Q) (h : tkE T t W c = .inr (e, c1)) (g : seE M N c c1 k tl tl1 e) : sxR M T t W c s k tl Q (.inl (some (aI 1))) N := by
  obtain ⟨g1, g2, g3, g4, g5, g6, g7, g8, g9, g10, g11, g12⟩ := g
  exact Or.inl ⟨rfl, c1, _, _, _, _, (e, []), stD_l hI h g1 g2 g3 g4 g5 g6 g7 g8 g9 g10 g11 g12, by omega⟩
theorem kcN_k (c : Nat) : kcN c = 99 ∨ (kcN c ≤ 8 ∧ kcN c ≠ 6 ∧ kcN c ≠ 7 ∧ c ≠ 0) := by
  unfold kcN
  repeat' split
  all_goals omega
section CSB
variable {d : Nat} {M N : mm_M} {T : Nat → Nat} {t W k tl i f : Nat} {c : CX} {ws cs : List Nat} {nc : Nat} {b : Bool} {nu w0 v5 : Int32}
theorem soI_E {c1 : CX} {e : Ev} (h : soI M N T t k tl i f ws nc b nu w0 1) (h3 : N.1 108 3 = nI i) (e0 : e.1 < 3) (e1 : w0 = nI (wtE e)) (e2 : evW e = ws) (e3 : e.2.2.2.2.1.length = nc) (e4 : e.2.2.2.1 = b) (e5 : nu = nI (nuE e)) (e6 : N.1 126 k = nI (k + 1)) (ci : cxI c1 = i) (cf : cxF c1 = f) (hi : cxI c + 3 ≤ i) : seE M N c c1 k tl (tl + ws.length) e := by
  have nd := nd_en (s := 0) h e1 e2 e3 e4 (fun _ => e5) e6
  obtain ⟨⟨h1, h2⟩, ⟨h4, h5, h6⟩, ⟨h7, h8⟩, _, _, _, _, h13⟩ := h
  exact ⟨e0, h1, h2, by rw [ci]; exact h3, by rw [cf]; exact h5, h7, by rw [ci]; exact hi, h8.2.2.2, by omega, by rw [ci]; exact h6, h13, nd⟩
/-- begun -/
theorem soI_5 (h : soI M N T t k tl i f ws nc b nu w0 v5) : soI M (mm_i N 108 (upd (N.1 108) 35 1)) T t k tl i f ws nc b nu w0 1 := by
  have hF : rjF [35] [] N (mm_i N 108 (upd (N.1 108) 35 1)) := rjF_u N _ rfl
  exact soI_m h (rjF_w (by decide) (by decide) hF) (rjA_f rfl hF h.2.1.1) (rjN_f rfl rfl hF h.2.1.2.1) (Nat.le_refl _) (rj_at _ _ _)
set_option maxRecDepth 100000 in
theorem gt_t {P : am_Q} {X : am_X} {v1 : Int32} (hX : am_K (d + 3) false nm_X12_readStatement P X) (hR : rjX M T t) (h33 : M.1 108 33 = nI (cxW c)) (hfr : cxW c ≤ 8) (k4 : k < 401) (hc : crC T t (cxI c) ≠ 0 ∨ cxD c ≠ 0) (hi0 : cxI c ≤ i) (n64 : crC T t i ≠ 64) (hZ : tkE T t W c = ltE T t c (.inr (crC T t i, crP T t i, crA T t i, f, mskL cs, cs, b))) (hQ0 : ∀ N, stN M N T t W c → P (.inl (some (aI 0))) N) (hQ1 : ∀ N e c1 tl1, tkE T t W c = .inr (e, c1) → seE M N c c1 k tl tl1 e → P (.inl (some (aI 1))) N) (hS : soI M N T t k tl i f cs cs.length b 0 (-1) v5) (h3 : N.1 108 3 = nI (crP T t i)) : X 151 [some (aR 108), some (aI v1), some (aI (nI k))] [] N := by
  have t4 := hR.1
  have hi := hS.2.1.1.1
  have ix : vp_in (nI k) 401 := vp_in_nI k4 (by decide)
  have cl : (nI k).toNatClampNeg = k := nI_clamp (by omega)
  have c7 := rjX_c (i := i) hR
  have a1 := cra_1 (T := T) hi
  have a2 := cra_1 (T := T) a1.2.1
  have a3 := cra_1 (T := T) a2.2.1
  have a4 := cra_1 (T := T) a3.2.1
  have hZ' : tkE T t W c = if kcN (crC T t i) = 99 then .inl (crP T t i) else gtE T t c (kcN (crC T t i)) (crA T t i) f (mskL cs) cs b := by
    rw [hZ]
    show (if crC T t i = 64 then _ else _) = _
    rw [if_neg n64]
  refine am_run hX 5 _ _ _ _ ?_
  conv => whnf
  refine am_c1 (ct_se0 (d := d + 2) (soI_X hS hR) hi h3) ?_
  refine am_run hX 1 _ _ _ _ ?_
  conv => whnf
  refine am_c1 (ct_ko (d := d + 2) c7) ?_
  refine am_run hX 1 _ _ _ _ ?_
  conv => whnf
  refine ⟨ix, ?_⟩
  rw [cl]
  by_cases q : kcN (crC T t i) = 99
  · rw [if_pos q]
    rw [if_pos q] at hZ'
    have hI1 := soI_u (q := 120) (v := -1) hS (by decide) (nc' := cs.length) (b' := b) (nu' := 0) (w0' := -1) (by rw [mm_ne _ _ _ _ (by decide)]; exact hS.2.2.2.1) (by rw [mm_ne _ _ _ _ (by decide)]; exact hS.2.2.2.2.1) (by rw [mm_ne _ _ _ _ (by decide)]; exact hS.2.2.2.2.2.1) (rj_ac _ _ _ _)
    generalize mm_i N 120 _ = N1 at *
    refine am_run hX 4 _ _ _ _ ?_
    conv => whnf
    refine ⟨ix, ?_⟩
    rw [cl, hI1.2.2.2.2.2.2.1]
    refine am_run hX 2 _ _ _ _ ?_
    conv => whnf
    refine ⟨fun z => absurd rfl z, fun _ => ?_⟩
    refine am_run hX 2 _ _ _ _ ?_
    conv => whnf
    refine am_c1 (ct_rf (d := d + 1) (soI_X hI1 hR) hI1.2.1.1) ?_
    refine am_run hX 1 _ _ _ _ ?_
    conv => whnf
    exact ⟨rfl, hQ0 _ (soI_N hI1 hZ' hc)⟩
  · rw [if_neg q]
    rw [if_neg q] at hZ'
    obtain ⟨k8, k6, k7, c0⟩ := (kcN_k (crC T t i)).resolve_left q
    have p1 := a1.2.2 (crn_1 c0)
    have ea : crA T t i = crP T t i + 1 := cra_p c0
    generalize kcN (crC T t i) = kk at *
    have hI1 := soI_u (q := 120) (v := nI kk) hS (by decide) (nc' := cs.length) (b' := b) (nu' := 0) (w0' := nI kk) (by rw [mm_ne _ _ _ _ (by decide)]; exact hS.2.2.2.1) (by rw [mm_ne _ _ _ _ (by decide)]; exact hS.2.2.2.2.1) (by rw [mm_ne _ _ _ _ (by decide)]; exact hS.2.2.2.2.2.1) (rj_ac _ _ _ _)
    have e3 : (mm_i N 120 (upd (N.1 120) k (nI kk))).1 108 3 = nI (crP T t i) := by rw [mm_ne _ _ _ _ (by decide)]; exact h3
    generalize mm_i N 120 _ = N1 at *
    refine am_run hX 4 _ _ _ _ ?_
    conv => whnf
    refine ⟨ix, ?_⟩
    rw [cl, hI1.2.2.2.2.2.2.1]
    refine am_run hX 2 _ _ _ _ ?_
    conv => whnf
    refine ⟨fun _ => ?_, fun z => absurd (nI_nm (n := kk) (by omega)) z⟩
    refine am_run hX 6 _ _ _ _ ?_
    conv => whnf
    rw [e3, nI_1, ← ea]
    have hI2 : soI M (mm_i N1 108 (upd (N1.1 108) 3 (nI (crA T t i)))) T t k tl (crA T t i) f cs cs.length b 0 (nI kk) v5 := soI_a hI1 c0
    generalize mm_i N1 108 _ = N2 at *
    refine am_run hX 3 _ _ _ _ ?_
    conv => whnf
    refine ⟨⟨rfl, rfl⟩, ?_⟩
    have hI3 := soI_5 hI2
    generalize mm_i N2 108 _ = N3 at *
    -- the end
    have fin : ∀ (i5 f5 : Nat) (us : List Nat) (N5 : mm_M), soI M N5 T t k tl i5 f5 (cs ++ us) cs.length b 0 (nI kk) 1 → cxI c + 2 ≤ i5 → tkE T t W c = (if crC T t i5 = 59 then .inr (evG kk b cs us, cxS c (crA T t i5) f5) else .inl (crP T t i5)) → X 223 [some (aR 108), some (aI v1), some (aI (nI k))] [] N5 := by
      intro i5 f5 us N5 hI5 le hz
      have b1 := cra_1 (T := T) hI5.2.1.1.1
      refine am_run hX 6 _ _ _ _ ?_
      conv => whnf
      rw [hI5.2.2.1.1]
      refine ⟨ix, ?_⟩
      rw [cl]
      have hI6 := soI_u (q := 126) (v := nI (k + 1)) hI5 (by decide) (nc' := cs.length) (b' := b) (nu' := 0) (w0' := nI kk) (by rw [mm_ne _ _ _ _ (by decide)]; exact hI5.2.2.2.1) (by rw [mm_ne _ _ _ _ (by decide)]; exact hI5.2.2.2.2.1) (by rw [mm_ne _ _ _ _ (by decide)]; exact hI5.2.2.2.2.2.1) (by rw [mm_ne _ _ _ _ (by decide)]; exact hI5.2.2.2.2.2.2.1)
      have e6 : (mm_i N5 126 (upd (N5.1 126) k (nI (k + 1)))).1 126 k = nI (k + 1) := rj_ac _ _ _ _
      generalize mm_i N5 126 _ = N6 at *
      refine am_run hX 3 _ _ _ _ ?_
      conv => whnf
      by_cases w : crC T t i5 = 59
      · rw [if_pos w] at hz
        have p5 := b1.2.2 (crn_1 (by omega))
        refine am_c1 (ct_wa1 (d := d) (c := 59) (soI_X hI6 hR) hI6.2.1.1 (by decide) w) ?_
        refine am_run hX 1 _ _ _ _ ?_
        conv => whnf
        refine ⟨rfl, hQ1 _ _ _ (tl + (cs ++ us).length) hz (soI_E (soI_a hI6 (by omega)) (sa_3 N6 _) (by show 0 < 3; decide) rfl rfl rfl rfl rfl ?_ rfl rfl (by omega))⟩
        rw [show (saM N6 (crA T t i5)).1 126 = N6.1 126 from mm_ne _ _ _ _ (by decide)]
        exact e6
      · rw [if_neg w] at hz
        refine am_c1 (ct_wa0 (d := d) (c := 59) (soI_X hI6 hR) hI6.2.1.1 (by decide) w) ?_
        refine am_run hX 1 _ _ _ _ ?_
        conv => whnf
        exact ⟨rfl, hQ0 _ (soI_N hI6 hz hc)⟩
    unfold gtE at hZ'
    refine am_run hX 3 _ _ _ _ ?_
    conv => whnf
    cases hd : isDg (crC T t (crA T t i)) with
    | false =>
      rw [hd, if_neg (by decide)] at hZ'
      refine am_c1 (ct_rw0 (d := d) (soI_X hI3 hR) hI3.2.1.1 hd) ?_
      refine am_run hX 1 _ _ _ _ ?_
      conv => whnf
      refine ⟨fun _ => ?_, fun z => absurd rfl z⟩
      refine am_run hX 2 _ _ _ _ ?_
      conv => whnf
      exact ⟨rfl, hQ0 _ (soI_N hI3 hZ' hc)⟩
    | true =>
      rw [if_pos hd] at hZ'
      have p2 := a2.2.2 (crn_1 (by have := (isDg_w hd).1; omega))
      refine am_cq (ct_rw1 (d := d) (soI_X hI3 hR) hI3.2.1.1 k4 hI3.2.2.1.2 (soI_t hR hI3 hd k4) (by rw [soI_f hI3 rfl]; exact h33) hfr hI3.2.1.2.1 hd) ?_
      intro r4 N4 g4
      obtain ⟨rfl, hI4, _⟩ := soI_w hI3 hd g4
      refine ⟨_, rfl, ?_⟩
      refine am_run hX 1 _ _ _ _ ?_
      conv => whnf
      refine ⟨fun z => absurd z (by decide), fun _ => ?_⟩
      refine am_run hX 4 _ _ _ _ ?_
      conv => whnf
      refine ⟨ix, ?_⟩
      rw [cl, hI4.2.2.2.2.2.2.1]
      refine am_run hX 2 _ _ _ _ ?_
      conv => whnf
      by_cases k88 : kk = 8
      · rw [if_pos k88] at hZ'
        rw [k88]
        refine ⟨fun z => absurd rfl z, fun _ => ?_⟩
        refine am_run hX 3 _ _ _ _ ?_
        conv => whnf
        cases he : isDg (crC T t (crA T t (crA T t i))) with
        | false =>
          rw [he, if_neg (by decide)] at hZ'
          refine am_c1 (ct_rw0 (d := d) (soI_X hI4 hR) hI4.2.1.1 he) ?_
          refine am_run hX 1 _ _ _ _ ?_
          conv => whnf
          refine ⟨fun z => absurd rfl z, fun _ => ?_⟩
          refine am_run hX 2 _ _ _ _ ?_
          conv => whnf
          exact ⟨rfl, hQ0 _ (soI_N hI4 hZ' hc)⟩
        | true =>
          rw [if_pos he, ← msk_a] at hZ'
          refine am_cq (ct_rw1 (d := d) (soI_X hI4 hR) hI4.2.1.1 k4 hI4.2.2.1.2 (soI_t hR hI4 he k4) (by rw [soI_f hI4 rfl]; exact h33) hfr hI4.2.1.2.1 he) ?_
          intro r5 N5 g5
          obtain ⟨rfl, hI5, _⟩ := soI_w hI4 he g5
          refine ⟨_, rfl, ?_⟩
          refine am_run hX 1 _ _ _ _ ?_
          conv => whnf
          refine ⟨fun _ => ?_, fun z => absurd (by decide) z⟩
          rw [List.append_assoc] at hI5
          exact fin _ _ _ N5 hI5 (by omega) hZ'
      · rw [if_neg k88] at hZ'
        refine ⟨fun _ => ?_, fun z => absurd (fun e => k88 ((nI_eq (a := kk) (b := 8) (by omega) (by decide)).mp e)) z⟩
        exact fin _ _ _ N4 hI4 (by omega) hZ'
/-- a node is made -/
theorem soI_0 {s : GS} {Q : Nat → Nat × Tr} {v : Int32} (hI : RIv M T t W c s k tl Q) (hF : rjF [19] [120, 121, 122, 123, 124, 125] M N) (h19 : N.1 108 19 = nI (k + 1)) (hv : N.1 120 k = v ∧ N.1 121 k = nI tl ∧ N.1 122 k = 0 ∧ N.1 123 k = 0 ∧ N.1 124 k = 0 ∧ N.1 125 k = 0) (ho : ∀ q, 120 ≤ q → q ≤ 125 → ∀ j, j ≠ k → N.1 q j = M.1 q j) : soI M N T t k tl (cxI c) (cxF c) [] 0 false 0 v (M.1 108 35) := by
  obtain ⟨i1, i2, i3, _, ⟨⟨g1, g2⟩, ⟨g3, g4⟩, _, _⟩, _, _⟩ := hI
  refine ⟨⟨rjF_w (by decide) (by decide) hF, fun q a b j hj => ?_, fun j _ => by rw [hF.1 127 (by decide) rfl]⟩, ⟨rjA_f rfl hF i2, rjN_f rfl rfl hF i3, g4⟩, ⟨h19, hv.2.1, hv.2.2.1, fun j hj => absurd hj (by show ¬ j < 0; omega), by rw [hF.2.1 27 rfl]; exact g3⟩, hv.2.2.2.1, hv.2.2.2.2.1, hv.2.2.2.2.2, hv.1, hF.2.1 35 rfl⟩
  by_cases q6 : q = 126
  · rw [q6, hF.1 126 (by decide) rfl]
  · exact ho q a (by omega) j (by omega)
theorem RI_k {s : GS} {Q : Nat → Nat × Tr} (hI : RIv M T t W c s k tl Q) : k < 401 ∧ cxW c ≤ 8 ∧ M.1 108 33 = nI (cxW c) ∧ M.1 108 19 = nI k ∧ M.1 108 27 = nI tl := by
  obtain ⟨i1, i2, i3, ⟨f1, _⟩, ⟨⟨g1, g2⟩, ⟨g3, g4⟩, _, _⟩, i6, _⟩ := hI
  have := i1.1
  have := i2.1
  exact ⟨by omega, i6.2.1, f1, g1, g3⟩
/-- a BIT -/
theorem soI_b {K : mm_M} (h : soI M N T t k tl i f ws nc b nu w0 v5) (hF : rjF [3] [125] N K) (h3 : K.1 108 3 = nI (crA T t i)) (h5 : K.1 125 = upd (N.1 125) k (nI (crC T t i - 48))) : soI M K T t k tl (crA T t i) f ws nc b (nI (crC T t i - 48)) w0 v5 ∧ K.1 126 = N.1 126 := by
  obtain ⟨⟨h1, h2⟩, ⟨h3', h4, h6⟩, ⟨h7, h8⟩, h9, h10, h11, h12, h13⟩ := h
  have a1 := cra_1 (T := T) h3'.1
  refine ⟨⟨⟨rjF_t h1 (rjF_w (by decide) (by decide) hF), kpt_t h2 ⟨fun q a b j hj => ?_, fun j _ => by rw [hF.1 127 (by decide) rfl]⟩⟩, ⟨rjA_e a1.2.1 h3, rjN_f rfl rfl hF h4, by omega⟩, ⟨by rw [hF.2.1 19 rfl]; exact h7, wsH_f rfl rfl rfl rfl hF h8⟩, by rw [hF.1 123 (by decide) rfl]; exact h9, by rw [hF.1 124 (by decide) rfl]; exact h10, by rw [h5]; exact up_at, by rw [hF.1 120 (by decide) rfl]; exact h12, by rw [hF.2.1 35 rfl]; exact h13⟩, hF.1 126 (by decide) rfl⟩
  by_cases q5 : q = 125
  · rw [q5, h5, up_ne (by omega)]
  · rw [hF.1 q (by omega) (by
      have : ∀ q, 120 ≤ q → q ≤ 126 → q ≠ 125 → [125].contains q = false := by
        intro q a b c
        rcases (by omega : q = 120 ∨ q = 121 ∨ q = 122 ∨ q = 123 ∨ q = 124 ∨ q = 126) with rfl | rfl | rfl | rfl | rfl | rfl <;> rfl
      exact this q a b q5)]
set_option maxRecDepth 100000 in
theorem ct_rme {s : GS} {Q : Nat → Nat × Tr} {c0 kk : Nat} (hI : RIv M T t W c s k tl Q) (h3 : M.1 108 3 = nI (crP T t (cxI c))) (hc : crC T t (cxI c) = c0) (hk : (c0 = 109 ∧ kk = 9) ∨ (c0 = 114 ∧ kk = 10)) (hZ : tkE T t W c = msE T t c kk (crA T t (cxI c))) : am_M (d + 4) false nm_X12_readMeasured [aR 108, aI (nI c0)] M (sxR M T t W c s k tl Q) := by
  obtain ⟨k4, hfr, h33, h19, h27⟩ := RI_k hI
  have hR := hI.1
  have t4 := hR.1
  have hi := hI.2.1.1
  have ix : vp_in (nI k) 401 := vp_in_nI k4 (by decide)
  have cl : (nI k).toNatClampNeg = k := nI_clamp (by omega)
  have c00 : crC T t (cxI c) ≠ 0 := by omega
  have a1 := cra_1 (T := T) hi
  have a2 := cra_1 (T := T) a1.2.1
  have a3 := cra_1 (T := T) a2.2.1
  have p1 := a1.2.2 (crn_1 c00)
  have ea : crA T t (cxI c) = crP T t (cxI c) + 1 := cra_p c00
  have hcc : crC T t (cxI c) ≠ 0 ∨ cxD c ≠ 0 := Or.inl c00
  refine ⟨rfl, rfl, rfl, fun X hX => ?_⟩
  have hQ1 : ∀ N e c1 tl1, tkE T t W c = .inr (e, c1) → seE M N c c1 k tl tl1 e → sxR M T t W c s k tl Q (.inl (some (aI 1))) N := fun N e c1 tl1 z g => sxR_e hI z g
  have hQ0 : ∀ N, stN M N T t W c → sxR M T t W c s k tl Q (.inl (some (aI 0))) N := fun N g => Or.inr ⟨rfl, g⟩
  have mid : X 14 [some (aR 108), some (aI (nI c0)), none] [aI (nI kk), aR 108] M := by
    refine am_run hX 1 _ _ _ _ ?_
    conv => whnf
    refine am_cq (ct_nd (d := d + 2) h19 k4 h27) ?_
    rintro r1 N1 ⟨rfl, F1, n19, nv, no⟩
    refine ⟨_, rfl, ?_⟩
    have hI1 := soI_0 hI F1 n19 nv no
    have e3 : N1.1 108 3 = nI (crP T t (cxI c)) := by rw [F1.2.1 3 rfl]; exact h3
    refine am_run hX 1 _ _ _ _ ?_
    conv => whnf
    refine am_run hX 3 _ _ _ _ ?_
    conv => whnf
    refine ⟨⟨rfl, rfl⟩, ?_⟩
    have hI2 := soI_5 hI1
    have e32 : (mm_i N1 108 (upd (N1.1 108) 35 1)).1 108 3 = nI (crP T t (cxI c)) := by rw [rj_an _ _ _ _ (by decide)]; exact e3
    generalize mm_i N1 108 _ = N2 at *
    refine am_run hX 6 _ _ _ _ ?_
    conv => whnf
    rw [e32, nI_1, ← ea]
    have hI3 : soI M (mm_i N2 108 (upd (N2.1 108) 3 (nI (crA T t (cxI c))))) T t k tl (crA T t (cxI c)) (cxF c) [] 0 false 0 (nI kk) 1 := soI_a hI2 c00
    generalize mm_i N2 108 _ = N3 at *
    have fin : ∀ (i5 f5 bb : Nat) (w : Nat) (N5 : mm_M), soI M N5 T t k tl i5 f5 [w] 0 false (nI bb) (nI kk) 1 → cxI c + 2 ≤ i5 → tkE T t W c = (if crC T t i5 = 59 then .inr (evM kk w bb, (crA T t i5, f5, cxW c, cxD c, cxR c, true, cxT c)) else .inl (crP T t i5)) → X 57 [some (aR 108), some (aI (nI c0)), some (aI (nI k))] [] N5 := by
      intro i5 f5 bb w N5 hI5 le hz
      have b1 := cra_1 (T := T) hI5.2.1.1.1
      refine am_run hX 6 _ _ _ _ ?_
      conv => whnf
      rw [hI5.2.2.1.1]
      refine ⟨ix, ?_⟩
      rw [cl]
      have hI6 := soI_u (q := 126) (v := nI (k + 1)) hI5 (by decide) (nc' := 0) (b' := false) (nu' := nI bb) (w0' := nI kk) (by rw [mm_ne _ _ _ _ (by decide)]; exact hI5.2.2.2.1) (by rw [mm_ne _ _ _ _ (by decide)]; exact hI5.2.2.2.2.1) (by rw [mm_ne _ _ _ _ (by decide)]; exact hI5.2.2.2.2.2.1) (by rw [mm_ne _ _ _ _ (by decide)]; exact hI5.2.2.2.2.2.2.1)
      have e6 : (mm_i N5 126 (upd (N5.1 126) k (nI (k + 1)))).1 126 k = nI (k + 1) := rj_ac _ _ _ _
      generalize mm_i N5 126 _ = N6 at *
      refine am_run hX 3 _ _ _ _ ?_
      conv => whnf
      by_cases w5 : crC T t i5 = 59
      · rw [if_pos w5] at hz
        have p5 := b1.2.2 (crn_1 (by omega))
        refine am_c1 (ct_wa1 (d := d) (c := 59) (soI_X hI6 hR) hI6.2.1.1 (by decide) w5) ?_
        refine am_run hX 1 _ _ _ _ ?_
        conv => whnf
        refine ⟨rfl, hQ1 _ _ _ (tl + [w].length) hz (soI_E (soI_a hI6 (by omega)) (sa_3 N6 _) (by show 2 < 3; decide) ?_ rfl rfl rfl rfl ?_ rfl rfl (by omega))⟩
        · rcases hk with ⟨_, z⟩ | ⟨_, z⟩ <;> rw [z] <;> rfl
        · rw [show (saM N6 (crA T t i5)).1 126 = N6.1 126 from mm_ne _ _ _ _ (by decide)]
          exact e6
      · rw [if_neg w5] at hz
        refine am_c1 (ct_wa0 (d := d) (c := 59) (soI_X hI6 hR) hI6.2.1.1 (by decide) w5) ?_
        refine am_run hX 1 _ _ _ _ ?_
        conv => whnf
        exact ⟨rfl, hQ0 _ (soI_N hI6 hz hcc)⟩
    unfold msE at hZ
    refine am_run hX 3 _ _ _ _ ?_
    conv => whnf
    cases hd : isDg (crC T t (crA T t (cxI c))) with
    | false =>
      rw [hd, if_neg (by decide)] at hZ
      refine am_c1 (ct_rw0 (d := d) (soI_X hI3 hR) hI3.2.1.1 hd) ?_
      refine am_run hX 1 _ _ _ _ ?_
      conv => whnf
      refine ⟨fun _ => ?_, fun z => absurd rfl z⟩
      refine am_run hX 2 _ _ _ _ ?_
      conv => whnf
      exact ⟨rfl, hQ0 _ (soI_N hI3 hZ hcc)⟩
    | true =>
      rw [if_pos hd] at hZ
      have p2 := a2.2.2 (crn_1 (by have := (isDg_w hd).1; omega))
      refine am_cq (ct_rw1 (d := d) (soI_X hI3 hR) hI3.2.1.1 k4 hI3.2.2.1.2 (soI_t hR hI3 hd k4) (by rw [soI_f hI3 rfl]; exact h33) hfr hI3.2.1.2.1 hd) ?_
      intro r4 N4 g4
      obtain ⟨rfl, hI4, _⟩ := soI_w hI3 hd g4
      refine ⟨_, rfl, ?_⟩
      refine am_run hX 1 _ _ _ _ ?_
      conv => whnf
      refine ⟨fun z => absurd z (by decide), fun _ => ?_⟩
      refine am_run hX 3 _ _ _ _ ?_
      conv => whnf
      rcases hk with ⟨k1, k2⟩ | ⟨k1, k2⟩
      · rw [if_pos k2] at hZ
        rw [k1]
        refine ⟨fun z => absurd rfl z, fun _ => ?_⟩
        rw [k1] at fin
        refine am_run hX 3 _ _ _ _ ?_
        conv => whnf
        by_cases hb : 48 ≤ crC T t (crA T t (crA T t (cxI c))) ∧ crC T t (crA T t (crA T t (cxI c))) ≤ 51
        · rw [if_pos hb] at hZ
          have p3 := a3.2.2 (crn_1 (by omega))
          refine am_cq (ct_rb1 (d := d) (soI_X hI4 hR) hI4.2.1.1 k4 hb) ?_
          rintro r5 N5 ⟨rfl, F5, m3, m5⟩
          refine ⟨_, rfl, ?_⟩
          refine am_run hX 1 _ _ _ _ ?_
          conv => whnf
          refine ⟨fun _ => ?_, fun z => absurd (by decide) z⟩
          exact fin _ _ _ _ N5 (soI_b hI4 F5 m3 m5).1 (by omega) hZ
        · rw [if_neg hb] at hZ
          refine am_c1 (ct_rb0 (d := d) (soI_X hI4 hR) hI4.2.1.1 hb) ?_
          refine am_run hX 1 _ _ _ _ ?_
          conv => whnf
          refine ⟨fun z => absurd rfl z, fun _ => ?_⟩
          refine am_run hX 2 _ _ _ _ ?_
          conv => whnf
          exact ⟨rfl, hQ0 _ (soI_N hI4 hZ hcc)⟩
      · rw [if_neg (by omega)] at hZ
        refine ⟨fun _ => ?_, fun z => absurd (fun e => absurd ((nI_eq (a := c0) (b := 109) (by omega) (by decide)).mp e) (by omega)) z⟩
        exact fin _ _ 0 _ N4 hI4 (by omega) hZ
  refine am_run hX 4 _ _ _ _ ?_
  conv => whnf
  rcases hk with ⟨k1, k2⟩ | ⟨k1, k2⟩
  · rw [k1, k2] at mid
    rw [k1]
    refine ⟨fun z => absurd rfl z, fun _ => ?_⟩
    refine am_run hX 2 _ _ _ _ ?_
    conv => whnf
    exact mid
  · rw [k1, k2] at mid
    rw [k1]
    refine ⟨fun _ => ?_, fun z => absurd (by decide) z⟩
    refine am_run hX 1 _ _ _ _ ?_
    conv => whnf
    exact mid
end CSB
