/-! circuit: the reference reads blocks and ROUTINES, given that it reads what is in them -/
/-- what reading STATEMENTS up to ] comes to -/
def ssR (M : mm_M) (T : Nat → Nat) (t W : Nat) (c : CX) (s : GS) (k tl : Nat) (Q : Nat → Nat × Tr) (r : am_R) (N : mm_M) : Prop := (r = .inl (some (aI 1)) ∧ ∃ c1 s1 k1 tl1 Q1 Ss, stD M N T t W c s k tl Q c1 s1 k1 tl1 Q1 Ss ∧ crC T t (cxI c1) = 93) ∨ (r = .inl (some (aI 0)) ∧ stN M N T t W c)
section CSC
variable {d : Nat} {M N : mm_M} {T : Nat → Nat} {t W k tl i f : Nat} {c : CX} {s : GS} {Q : Nat → Nat × Tr} {ws cs : List Nat} {nc : Nat} {b : Bool} {nu w0 v5 : Int32}
/-- what is in a block can be read -/
def ssH (D : Nat) (T : Nat → Nat) (t W i q : Nat) : Prop := ∀ (N : mm_M) (c : CX) (s : GS) (k tl : Nat) (Q : Nat → Nat × Tr), RIv N T t W c s k tl Q → i < cxI c → cxD c = q + 1 → am_M D false nm_X12_readStatements [aR 108] N (ssR N T t W c s k tl Q)
theorem RI_b {K : mm_M} {e : Ev} {c1 : CX} (hI : RIv M T t W c s k tl Q) (hS : soI M N T t k tl i (cxF c) [] 0 false nu w0 1) (hF : rjF [3, 32] [] N K) (h : tkE T t W c = .inr (e, c1)) (hB : isB c e c1) (h3 : K.1 108 3 = nI (cxI c1)) (h32 : K.1 108 32 = nI (cxD c + 1)) (hi : cxI c + 3 ≤ cxI c1) (e1 : w0 = nI (wtE e)) (e5 : nu = nI (nuE e)) : RIv K T t W c1 (clS e c c1 s) (k + 1) tl Q ∧ noP K tl k e ∧ rjF rdS rdC M K ∧ kpt k tl M K := by
  obtain ⟨i1, i2, i3, ⟨f1, f2, f3, f4, f5⟩, ⟨⟨g1, g2⟩, ⟨g3, g4⟩, g5, g6⟩, i6, i7⟩ := hI
  obtain ⟨⟨h1, h2⟩, ⟨h3', h4, h6⟩, ⟨h7, h8⟩, h9, h10, h11, h12, h13⟩ := hS
  have hT : ∀ j, j < t → T j < 127 := fun j hj => (i1.2.2 j hj).2.2
  obtain ⟨q, q1, q2⟩ := tk_k hT i2.1 h
  obtain ⟨v1, v2⟩ := gI_s hT i2.1 h i6 i7
  obtain ⟨kk, qq, i', b1, b2, b3, b4⟩ := hB
  have cD : cxD c1 = cxD c + 1 := by rw [b2]; rfl
  have cR : cxR c1 = cxR c := by rw [b2]; rfl
  have cT : cxT c1 = cxT c := by rw [b2]; rfl
  have cW : cxW c1 = cxW c := by rw [b2]; rfl
  have cF : cxF c1 = cxF c := by rw [b2]; rfl
  have cA : cxA c1 = (cxA c || decide (cxR c = 4)) := by rw [b2]; rfl
  have kp : kpt k tl M K := kpt_t h2 (kpt_0 (fun q a _ => hF.1 q (by omega) rfl))
  have FF : rjF rdS giC M K := rjF_t (rjF_w (by decide) (by decide) h1) (rjF_w (by decide) (by decide) hF)
  have er : rbX c1 = rbX c := by unfold rbX; rw [cR]
  have eR : gR (clS e c c1 s) = gR s := by
    unfold clS
    rw [if_pos (by rw [b1]; rfl)]
    rfl
  have ew : evW e = [] := by rw [b1]; rfl
  refine ⟨⟨rjX_f rfl rfl FF i1, rjA_e q2 h3, by rw [cF]; exact rjN_f rfl rfl hF h4, ⟨?_, ?_, ?_, fun z => ?_, fun z => ?_⟩, ⟨⟨?_, by omega⟩, ⟨?_, by omega⟩, fun l lz => ?_, fun z l lz ln => ?_⟩, v1, v2⟩, ⟨?_, ⟨tl, by rw [ew]; exact Nat.le_refl _, ?_, fun j hj => ?_⟩, ?_, ?_, ?_, fun _ => ?_⟩, rjF_w (by decide) (by decide) FF, kp⟩
  · rw [hF.2.1 33 rfl, h1.2.1 33 rfl, cW]; exact f1
  · rw [cD]; exact h32
  · rw [hF.2.1 34 rfl, h1.2.1 34 rfl, er]; exact f3
  · rw [cR] at z
    rw [hF.2.1 35 rfl, h13, cA, decide_eq_true z, Bool.or_true, cW]
    exact ⟨rfl, (f4 z).2⟩
  · rw [cR] at z
    rw [cA, f5 z, decide_eq_false z]
    rfl
  · rw [hF.2.1 19 rfl]; exact h7
  · rw [hF.2.1 27 rfl]; exact h8.2.2.2
  · rw [FF.1 128 (by decide) rfl, cT]; exact g5 l lz
  · rw [cF] at z
    rw [cT] at ln ⊢
    rw [eR]
    exact roD_k kp (by omega) (Nat.le_refl _) (by rw [FF.1 129 (by decide) rfl]) (by rw [FF.1 130 (by decide) rfl]) (g6 z l lz ln)
  · rw [hF.1 120 (by decide) rfl, h12]; exact e1
  · rw [hF.1 121 (by decide) rfl]; exact h8.1
  · rw [ew] at hj
    exact absurd hj (by show ¬ j < 0; omega)
  · rw [hF.1 122 (by decide) rfl, ew]; exact h8.2.1
  · rw [hF.1 123 (by decide) rfl, b1]; exact h9
  · rw [hF.1 124 (by decide) rfl, b1]; exact h10
  · rw [hF.1 125 (by decide) rfl, h11]; exact e5
/-- the same at the place where it looked -/
theorem stN_p {N' : mm_M} {c1 : CX} {e : Ev} (h : tkE T t W c = .inr (e, c1)) (F : rjF rdS rdC M N) (g : stN N N' T t W c1) : stN M N' T t W c := by
  obtain ⟨g1, p, g2, g3, g4⟩ := g
  exact ⟨rjF_t (rjF_w (by decide) (by decide) F) g1, p, PRu_t (m := 1) ⟨e, c1, h, rfl⟩ g2, g3, g4⟩
set_option maxRecDepth 100000 in
theorem ct_rak {D c0 kk : Nat} (hI : RIv M T t W c s k tl Q) (h3 : M.1 108 3 = nI (crP T t (cxI c))) (hc : crC T t (cxI c) = c0) (hk : (c0 = 63 ∧ kk = 12) ∨ (c0 = 33 ∧ kk = 13)) (r4 : cxR c = 4) (hZ : tkE T t W c = blE T t c kk (crA T t (cxI c))) (hSS : ssH (D + 4) T t W (cxI c) (cxD c)) : am_M (D + 5) false nm_X12_readAsked [aR 108, aI (nI c0)] M (sxR M T t W c s k tl Q) := by
  obtain ⟨k4, hfr, h33, h19, h27⟩ := RI_k hI
  have hR := hI.1
  have t4 := hR.1
  have hi := hI.2.1.1
  have ix : vp_in (nI k) 401 := vp_in_nI k4 (by decide)
  have cl : (nI k).toNatClampNeg = k := nI_clamp (by omega)
  have c00 : crC T t (cxI c) ≠ 0 := by omega
  have a1 := cra_1 (T := T) hi
  have a2 := cra_1 (T := T) a1.2.1
  have p1 := a1.2.2 (crn_1 c00)
  have ea : crA T t (cxI c) = crP T t (cxI c) + 1 := cra_p c00
  have hcc : crC T t (cxI c) ≠ 0 ∨ cxD c ≠ 0 := Or.inl c00
  refine ⟨rfl, rfl, rfl, fun X hX => ?_⟩
  have k123 : kk = 12 ∨ kk = 13 := by omega
  have mid : X 14 [some (aR 108), some (aI (nI c0)), none] [aI (nI kk), aR 108] M := by
    refine am_run hX 1 _ _ _ _ ?_
    conv => whnf
    refine am_cq (ct_nd (d := D + 3) h19 k4 h27) ?_
    rintro r1 N1 ⟨rfl, F1, n19, nv, no⟩
    refine ⟨_, rfl, ?_⟩
    have hI1 := soI_0 hI F1 n19 nv no
    have e3 : N1.1 108 3 = nI (crP T t (cxI c)) := by rw [F1.2.1 3 rfl]; exact h3
    refine am_run hX 1 _ _ _ _ ?_
    conv => whnf
    refine am_run hX 3 _ _ _ _ ?_
    conv => whnf
    refine ⟨⟨rfl, rfl⟩, ?_⟩
    have hI2 := soI_5 hI1
    have e32 : (mm_i N1 108 (upd (N1.1 108) 35 1)).1 108 3 = nI (crP T t (cxI c)) := by rw [rj_an _ _ _ _ (by decide)]; exact e3
    generalize mm_i N1 108 _ = N2 at *
    refine am_run hX 6 _ _ _ _ ?_
    conv => whnf
    rw [e32, nI_1, ← ea]
    have hI3 : soI M (mm_i N2 108 (upd (N2.1 108) 3 (nI (crA T t (cxI c))))) T t k tl (crA T t (cxI c)) (cxF c) [] 0 false 0 (nI kk) 1 := soI_a hI2 c00
    generalize mm_i N2 108 _ = N3 at *

    have zero : ∀ N', stN M N' T t W c → X 67 [some (aR 108), some (aI (nI c0)), some (aI (nI k))] [] N' := by
      intro N' g
      refine am_run hX 2 _ _ _ _ ?_
      conv => whnf
      exact ⟨rfl, Or.inr ⟨rfl, g⟩⟩
    have tail : ∀ (i2 q : Nat) (N3 : mm_M), soI M N3 T t k tl i2 (cxF c) [] 0 false (nI q) (nI kk) 1 → cxI c + 2 ≤ i2 → ((kk = 14 ∧ 1 ≤ q ∧ q ≤ 9) ∨ ((kk = 12 ∨ kk = 13) ∧ q < 4 ∧ cxR c = 4)) → tkE T t W c = (if crC T t i2 = 91 ∧ cxD c < 8 then .inr (evB kk q, (crA T t i2, cxF c, cxW c, cxD c + 1, cxR c, cxA c || decide (cxR c = 4), cxT c)) else .inl (crP T t i2)) → X 41 [some (aR 108), some (aI (nI c0)), some (aI (nI k))] [] N3 := by
      intro i2 q N3 hI3 le hq hz
      have b1 := cra_1 (T := T) hI3.2.1.1.1
      refine am_run hX 2 _ _ _ _ ?_
      conv => whnf
      have e32 : N3.1 108 32 = nI (cxD c) := by rw [soI_f hI3 rfl]; exact hI.2.2.2.1.2.1
      by_cases op : crC T t i2 = 91 ∧ cxD c < 8
      · rw [if_pos op] at hz
        have p2 := b1.2.2 (crn_1 (by omega))
        refine am_cq (ct_op1 (d := D + 1) (soI_X hI3 hR) hI3.2.1.1 op.1 e32 op.2) ?_
        rintro r4 N4 ⟨rfl, F4, m3, m32⟩
        refine ⟨_, rfl, ?_⟩
        refine am_run hX 1 _ _ _ _ ?_
        conv => whnf
        refine ⟨fun z => absurd z (by decide), fun _ => ?_⟩
        have hB : isB c (evB kk q) (crA T t i2, cxF c, cxW c, cxD c + 1, cxR c, cxA c || decide (cxR c = 4), cxT c) := ⟨kk, q, _, rfl, rfl, op.2, hq⟩
        obtain ⟨rI, nP, FF, kp⟩ := RI_b hI hI3 F4 hz hB m3 m32 (by show cxI c + 3 ≤ crA T t i2; omega) rfl rfl
        generalize hc1 : ((crA T t i2, cxF c, cxW c, cxD c + 1, cxR c, cxA c || decide (cxR c = 4), cxT c) : CX) = c1 at *
        have d1 : cxD c1 = cxD c + 1 := by rw [← hc1]; rfl
        have d2 : cxI c1 = crA T t i2 := by rw [← hc1]; rfl
        refine am_run hX 2 _ _ _ _ ?_
        conv => whnf
        refine am_cq (hSS N4 c1 _ _ _ _ rI (by omega) (by omega)) ?_
        rintro r5 N5 (⟨rfl, c2, s2, k2, tl2, Q2, Ss, hD, h93⟩ | ⟨rfl, g⟩)
        · refine ⟨_, rfl, ?_⟩
          refine am_run hX 1 _ _ _ _ ?_
          conv => whnf
          refine ⟨fun z => absurd z (by decide), fun _ => ?_⟩
          refine am_run hX 3 _ _ _ _ ?_
          conv => whnf
          have r5 := hD.1
          refine am_cq (ct_cl1 (d := D) (D := cxD c2) (m := k2) r5.1 r5.2.1 h93 r5.2.2.2.1.2.1 (by have := hD.2.2.2.2.2.2.2.1.1; omega) r5.2.2.2.2.1.1.1 k4) ?_
          rintro r6 N6 ⟨rfl, F6, m6, n32, n126⟩
          refine ⟨_, rfl, ?_⟩
          refine am_run hX 1 _ _ _ _ ?_
          conv => whnf
          refine ⟨fun z => absurd z (by decide), fun _ => ?_⟩
          refine am_run hX 3 _ _ _ _ ?_
          conv => whnf
          obtain ⟨c3, s3, hE, hl⟩ := stD_b hI hz rfl FF kp nP hD h93 F6 m6 n32 n126
          exact ⟨rfl, Or.inl ⟨rfl, c3, s3, k2, tl2, Q2, _, hE, hl⟩⟩
        · refine ⟨_, rfl, ?_⟩
          refine am_run hX 1 _ _ _ _ ?_
          conv => whnf
          exact ⟨fun _ => zero _ (stN_p hz FF g), fun z => absurd rfl z⟩
      · rw [if_neg op] at hz
        refine am_c1 (ct_op0 (d := D + 1) (soI_X hI3 hR) hI3.2.1.1 op e32 (by have := hI.2.2.2.2.2.1.2.2.1; omega)) ?_
        refine am_run hX 1 _ _ _ _ ?_
        conv => whnf
        exact ⟨fun _ => zero _ (soI_N hI3 hz hcc), fun z => absurd rfl z⟩
    unfold blE blOk at hZ
    rw [if_neg (by omega : ¬ kk = 14)] at hZ
    refine am_run hX 3 _ _ _ _ ?_
    conv => whnf
    by_cases hb : 48 ≤ crC T t (crA T t (cxI c)) ∧ crC T t (crA T t (cxI c)) ≤ 51
    · rw [if_pos (by rw [decide_eq_true hb.1, decide_eq_true hb.2]; rfl)] at hZ
      have p2 := a2.2.2 (crn_1 (by omega))
      refine am_cq (ct_rb1 (d := D + 1) (soI_X hI3 hR) hI3.2.1.1 k4 hb) ?_
      rintro r5 N5 ⟨rfl, F5, m3, m5⟩
      refine ⟨_, rfl, ?_⟩
      refine am_run hX 1 _ _ _ _ ?_
      conv => whnf
      refine ⟨fun z => absurd z (by decide), fun _ => ?_⟩
      exact tail _ _ N5 (soI_b hI3 F5 m3 m5).1 (by omega) (Or.inr ⟨k123, by omega, r4⟩) hZ
    · rw [if_neg (fun z => hb (by
        obtain ⟨x, y⟩ := (Bool.and_eq_true _ _).mp z
        exact ⟨of_decide_eq_true x, of_decide_eq_true y⟩))] at hZ
      refine am_c1 (ct_rb0 (d := D + 1) (soI_X hI3 hR) hI3.2.1.1 hb) ?_
      refine am_run hX 1 _ _ _ _ ?_
      conv => whnf
      exact ⟨fun _ => zero _ (soI_N hI3 hZ hcc), fun z => absurd rfl z⟩
  refine am_run hX 4 _ _ _ _ ?_
  conv => whnf
  rcases hk with ⟨k1, k2⟩ | ⟨k1, k2⟩
  · rw [k1, k2] at mid
    rw [k1]
    refine ⟨fun z => absurd rfl z, fun _ => ?_⟩
    refine am_run hX 2 _ _ _ _ ?_
    conv => whnf
    exact mid
  · rw [k1, k2] at mid
    rw [k1]
    refine ⟨fun _ => ?_, fun z => absurd (by decide) z⟩
    refine am_run hX 1 _ _ _ _ ?_
    conv => whnf
    exact mid
set_option maxRecDepth 100000 in
theorem ct_rtu {D kk : Nat} (hI : RIv M T t W c s k tl Q) (h3 : M.1 108 3 = nI (crP T t (cxI c))) (hc : crC T t (cxI c) = 42) (hk : kk = 14) (hZ : tkE T t W c = blE T t c kk (crA T t (cxI c))) (hSS : ssH (D + 4) T t W (cxI c) (cxD c)) : am_M (D + 5) false nm_X12_readTurns [aR 108] M (sxR M T t W c s k tl Q) := by
  obtain ⟨k4, hfr, h33, h19, h27⟩ := RI_k hI
  have hR := hI.1
  have t4 := hR.1
  have hi := hI.2.1.1
  have ix : vp_in (nI k) 401 := vp_in_nI k4 (by decide)
  have cl : (nI k).toNatClampNeg = k := nI_clamp (by omega)
  have c00 : crC T t (cxI c) ≠ 0 := by omega
  have a1 := cra_1 (T := T) hi
  have a2 := cra_1 (T := T) a1.2.1
  have p1 := a1.2.2 (crn_1 c00)
  have ea : crA T t (cxI c) = crP T t (cxI c) + 1 := cra_p c00
  have hcc : crC T t (cxI c) ≠ 0 ∨ cxD c ≠ 0 := Or.inl c00
  refine ⟨rfl, rfl, rfl, fun X hX => ?_⟩
  · refine am_run hX 3 _ _ _ _ ?_
    conv => whnf
    rw [show (14 : Int32) = nI kk from by rw [hk]; rfl]
    refine am_cq (ct_nd (d := D + 3) h19 k4 h27) ?_
    rintro r1 N1 ⟨rfl, F1, n19, nv, no⟩
    refine ⟨_, rfl, ?_⟩
    have hI1 := soI_0 hI F1 n19 nv no
    have e3 : N1.1 108 3 = nI (crP T t (cxI c)) := by rw [F1.2.1 3 rfl]; exact h3
    refine am_run hX 1 _ _ _ _ ?_
    conv => whnf
    refine am_run hX 3 _ _ _ _ ?_
    conv => whnf
    refine ⟨⟨rfl, rfl⟩, ?_⟩
    have hI2 := soI_5 hI1
    have e32 : (mm_i N1 108 (upd (N1.1 108) 35 1)).1 108 3 = nI (crP T t (cxI c)) := by rw [rj_an _ _ _ _ (by decide)]; exact e3
    generalize mm_i N1 108 _ = N2 at *
    refine am_run hX 6 _ _ _ _ ?_
    conv => whnf
    rw [e32, nI_1, ← ea]
    have hI3 : soI M (mm_i N2 108 (upd (N2.1 108) 3 (nI (crA T t (cxI c))))) T t k tl (crA T t (cxI c)) (cxF c) [] 0 false 0 (nI kk) 1 := soI_a hI2 c00
    generalize mm_i N2 108 _ = N3 at *

    have zero : ∀ N', stN M N' T t W c → X 94 [some (aR 108), some (aI (nI k))] [] N' := by
      intro N' g
      refine am_run hX 2 _ _ _ _ ?_
      conv => whnf
      exact ⟨rfl, Or.inr ⟨rfl, g⟩⟩
    have tail : ∀ (i2 q : Nat) (N3 : mm_M), soI M N3 T t k tl i2 (cxF c) [] 0 false (nI q) (nI kk) 1 → cxI c + 2 ≤ i2 → ((kk = 14 ∧ 1 ≤ q ∧ q ≤ 9) ∨ ((kk = 12 ∨ kk = 13) ∧ q < 4 ∧ cxR c = 4)) → tkE T t W c = (if crC T t i2 = 91 ∧ cxD c < 8 then .inr (evB kk q, (crA T t i2, cxF c, cxW c, cxD c + 1, cxR c, cxA c || decide (cxR c = 4), cxT c)) else .inl (crP T t i2)) → X 68 [some (aR 108), some (aI (nI k))] [] N3 := by
      intro i2 q N3 hI3 le hq hz
      have b1 := cra_1 (T := T) hI3.2.1.1.1
      refine am_run hX 2 _ _ _ _ ?_
      conv => whnf
      have e32 : N3.1 108 32 = nI (cxD c) := by rw [soI_f hI3 rfl]; exact hI.2.2.2.1.2.1
      by_cases op : crC T t i2 = 91 ∧ cxD c < 8
      · rw [if_pos op] at hz
        have p2 := b1.2.2 (crn_1 (by omega))
        refine am_cq (ct_op1 (d := D + 1) (soI_X hI3 hR) hI3.2.1.1 op.1 e32 op.2) ?_
        rintro r4 N4 ⟨rfl, F4, m3, m32⟩
        refine ⟨_, rfl, ?_⟩
        refine am_run hX 1 _ _ _ _ ?_
        conv => whnf
        refine ⟨fun z => absurd z (by decide), fun _ => ?_⟩
        have hB : isB c (evB kk q) (crA T t i2, cxF c, cxW c, cxD c + 1, cxR c, cxA c || decide (cxR c = 4), cxT c) := ⟨kk, q, _, rfl, rfl, op.2, hq⟩
        obtain ⟨rI, nP, FF, kp⟩ := RI_b hI hI3 F4 hz hB m3 m32 (by show cxI c + 3 ≤ crA T t i2; omega) rfl rfl
        generalize hc1 : ((crA T t i2, cxF c, cxW c, cxD c + 1, cxR c, cxA c || decide (cxR c = 4), cxT c) : CX) = c1 at *
        have d1 : cxD c1 = cxD c + 1 := by rw [← hc1]; rfl
        have d2 : cxI c1 = crA T t i2 := by rw [← hc1]; rfl
        refine am_run hX 2 _ _ _ _ ?_
        conv => whnf
        refine am_cq (hSS N4 c1 _ _ _ _ rI (by omega) (by omega)) ?_
        rintro r5 N5 (⟨rfl, c2, s2, k2, tl2, Q2, Ss, hD, h93⟩ | ⟨rfl, g⟩)
        · refine ⟨_, rfl, ?_⟩
          refine am_run hX 1 _ _ _ _ ?_
          conv => whnf
          refine ⟨fun z => absurd z (by decide), fun _ => ?_⟩
          refine am_run hX 3 _ _ _ _ ?_
          conv => whnf
          have r5 := hD.1
          refine am_cq (ct_cl1 (d := D) (D := cxD c2) (m := k2) r5.1 r5.2.1 h93 r5.2.2.2.1.2.1 (by have := hD.2.2.2.2.2.2.2.1.1; omega) r5.2.2.2.2.1.1.1 k4) ?_
          rintro r6 N6 ⟨rfl, F6, m6, n32, n126⟩
          refine ⟨_, rfl, ?_⟩
          refine am_run hX 1 _ _ _ _ ?_
          conv => whnf
          refine ⟨fun z => absurd z (by decide), fun _ => ?_⟩
          refine am_run hX 3 _ _ _ _ ?_
          conv => whnf
          obtain ⟨c3, s3, hE, hl⟩ := stD_b hI hz rfl FF kp nP hD h93 F6 m6 n32 n126
          exact ⟨rfl, Or.inl ⟨rfl, c3, s3, k2, tl2, Q2, _, hE, hl⟩⟩
        · refine ⟨_, rfl, ?_⟩
          refine am_run hX 1 _ _ _ _ ?_
          conv => whnf
          exact ⟨fun _ => zero _ (stN_p hz FF g), fun z => absurd rfl z⟩
      · rw [if_neg op] at hz
        refine am_c1 (ct_op0 (d := D + 1) (soI_X hI3 hR) hI3.2.1.1 op e32 (by have := hI.2.2.2.2.2.1.2.2.1; omega)) ?_
        refine am_run hX 1 _ _ _ _ ?_
        conv => whnf
        exact ⟨fun _ => zero _ (soI_N hI3 hz hcc), fun z => absurd rfl z⟩
    unfold blE blOk at hZ
    rw [if_pos hk] at hZ
    have c7 := rjX_c (i := crA T t (cxI c)) hR
    refine am_run hX 2 _ _ _ _ ?_
    conv => whnf
    refine am_c1 (ct_se (d := D + 3) (soI_X hI3 hR) hI3.2.1.1) ?_
    have hI4 := soI_s hI3
    have e43 := sa_3 N3 (crP T t (crA T t (cxI c)))
    generalize saM N3 (crP T t (crA T t (cxI c))) = N4 at *
    have ks := ct_se0 (d := D + 3) (soI_X hI4 hR) hI4.2.1.1.1 e43
    have refu : tkE T t W c = .inl (crP T t (crA T t (cxI c))) → X 40 [some (aR 108), some (aI (nI k))] [] N4 := by
      intro hz
      refine am_run hX 2 _ _ _ _ ?_
      conv => whnf
      refine am_c1 (ct_rf (d := D + 2) (soI_X hI4 hR) hI4.2.1.1) ?_
      refine am_run hX 1 _ _ _ _ ?_
      conv => whnf
      exact ⟨rfl, Or.inr ⟨rfl, soI_N hI4 hz hcc⟩⟩
    refine am_run hX 2 _ _ _ _ ?_
    conv => whnf
    by_cases b1 : crC T t (crA T t (cxI c)) < 49
    · refine ⟨fun _ => refu ?_, fun z => absurd (nI_lt (b := 49) b1 (by decide)) z⟩
      rw [hZ, if_neg (fun z => by
        obtain ⟨x, y⟩ := (Bool.and_eq_true _ _).mp z
        have := of_decide_eq_true x
        omega)]
    · refine ⟨fun z => absurd z (nI_nlt (b := 49) (by omega) (by omega)), fun _ => ?_⟩
      refine am_run hX 2 _ _ _ _ ?_
      conv => whnf
      refine am_c1 ks ?_
      refine am_run hX 2 _ _ _ _ ?_
      conv => whnf
      by_cases b2 : crC T t (crA T t (cxI c)) ≤ 57
      · refine ⟨fun _ => ?_, fun z => absurd (nI_le (b := 57) b2 (by decide)) z⟩
        rw [if_pos (by rw [decide_eq_true (by omega : 49 ≤ crC T t (crA T t (cxI c))), decide_eq_true b2]; rfl)] at hZ
        have p2 := a2.2.2 (crn_1 (by omega))
        have ea2 : crA T t (crA T t (cxI c)) = crP T t (crA T t (cxI c)) + 1 := cra_p (by omega)
        refine am_run hX 5 _ _ _ _ ?_
        conv => whnf
        refine am_c1 ks ?_
        refine am_run hX 3 _ _ _ _ ?_
        conv => whnf
        refine ⟨ix, ?_⟩
        rw [cl, show nI (crC T t (crA T t (cxI c))) - 48 = nI (crC T t (crA T t (cxI c)) - 48) from by rw [show (48 : Int32) = nI 48 from rfl, nI_sub (by omega)]]
        have hI5 := soI_u (q := 125) (v := nI (crC T t (crA T t (cxI c)) - 48)) hI4 (by decide) (nc' := 0) (b' := false) (nu' := nI (crC T t (crA T t (cxI c)) - 48)) (w0' := nI kk) (by rw [mm_ne _ _ _ _ (by decide)]; exact hI4.2.2.2.1) (by rw [mm_ne _ _ _ _ (by decide)]; exact hI4.2.2.2.2.1) (rj_ac _ _ _ _) (by rw [mm_ne _ _ _ _ (by decide)]; exact hI4.2.2.2.2.2.2.1)
        have e53 : (mm_i N4 125 (upd (N4.1 125) k (nI (crC T t (crA T t (cxI c)) - 48)))).1 108 3 = nI (crP T t (crA T t (cxI c))) := by rw [mm_ne _ _ _ _ (by decide)]; exact e43
        generalize mm_i N4 125 _ = N5 at *
        refine am_run hX 6 _ _ _ _ ?_
        conv => whnf
        rw [e53, nI_1, ← ea2]
        exact tail _ _ _ (soI_a hI5 (by omega)) (by omega) (Or.inl ⟨hk, by omega, by omega⟩) hZ
      · refine ⟨fun z => absurd z (nI_ge (a := 57) (by omega) (by omega)), fun _ => refu ?_⟩
        rw [hZ, if_neg (fun z => by
          obtain ⟨x, y⟩ := (Bool.and_eq_true _ _).mp z
          have := of_decide_eq_true y
          omega)]
end CSC
