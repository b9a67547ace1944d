/-! circuit: the reference reads a ROUTINE -/
section CSD
variable {d : Nat} {M N : mm_M} {T : Nat → Nat} {t W k tl i f : Nat} {c : CX} {s : GS} {Q : Nat → Nat × Tr} {ws cs : List Nat} {nc : Nat} {b : Bool} {nu w0 v5 : Int32}
def roS : List Nat := [3, 17, 18, 19, 27, 32, 33, 34, 35]
theorem RI_o {K : mm_M} {l kk tl' : Nat} {c1 : CX} (hI : RIv M T t W c s k tl Q) (h : tkE T t W c = .inr (evR' l kk, c1)) (hF : rjF roS giC M K) (kp : kpt k tl M K) (h3 : K.1 108 3 = nI (cxI c1)) (hN : rjN K (cxF c1)) (h32 : K.1 108 32 = nI (cxD c1)) (h33 : K.1 108 33 = nI kk) (h34 : K.1 108 34 = 1) (h19 : K.1 108 19 = nI (k + 1)) (h27 : K.1 108 27 = nI tl') (tt : tl ≤ tl') (hi : cxI c + 3 ≤ cxI c1) (ti : tl' ≤ cxI c1) (n0 : K.1 120 k = 15) (n1 : K.1 121 k = nI tl) (n2 : K.1 122 k = 0) (n3 : K.1 123 k = 0) (n4 : K.1 124 k = 0) : RIv K T t W c1 (clS (evR' l kk) c c1 s) (k + 1) tl' Q ∧ noP K tl' k (evR' l kk) := by
  obtain ⟨i1, i2, i3, ⟨f1, f2, f3, f4, f5⟩, ⟨⟨g1, g2⟩, ⟨g3, g4⟩, g5, g6⟩, i6, i7⟩ := hI
  have hT : ∀ j, j < t → T j < 127 := fun j hj => (i1.2.2 j hj).2.2
  obtain ⟨q, q1, q2⟩ := tk_k hT i2.1 h
  obtain ⟨v1, v2⟩ := gI_s hT i2.1 h i6 i7
  have hB : isR c (evR' l kk) c1 := by
    rcases q with ⟨_, _, _, _, _, _, z, _⟩ | ⟨_, _, _, _, _, _, z, _⟩ | ⟨_, _, _, _, _, z, _⟩ | ⟨_, _, _, z, _⟩ | z | ⟨z, _⟩
    · exact absurd (congrArg Prod.fst z) (by show ¬ (4 = 0); decide)
    · exact absurd (congrArg Prod.fst z) (by show ¬ (4 = 1); decide)
    · exact absurd (congrArg Prod.fst z) (by show ¬ (4 = 2); decide)
    · exact absurd (congrArg Prod.fst z) (by show ¬ (4 = 3); decide)
    · exact z
    · exact absurd (congrArg Prod.fst z) (by show ¬ (4 = 5); decide)
  obtain ⟨l', K', i', f', b1, b2, b3, b4, b5, b6, b7, b8⟩ := hB
  have ell : l' = l ∧ K' = kk := by
    unfold evR' at b1
    simp only [Prod.mk.injEq] at b1
    exact ⟨b1.2.1.symm, b1.2.2.1.symm⟩
  obtain ⟨rfl, rfl⟩ := ell
  have cR : cxR c1 = l' := by rw [b2]; rfl
  have cT : cxT c1 = cxT c := by rw [b2]; rfl
  have cW : cxW c1 = K' := by rw [b2]; rfl
  have cA : cxA c1 = false := by rw [b2]; exact b4
  have cF : cxF c1 = 0 → cxF c = 0 ∧ cxT c l' = 0 := by rw [b2]; exact b8
  have eR : gR (clS (evR' l' K') c c1 s) = gR s := by
    unfold clS
    rw [if_neg (by show ¬ (4 = 3); decide), if_pos (by show 4 = 4; rfl)]
    rfl
  have rb : rbX c1 = true := by
    unfold rbX
    rw [cR, decide_eq_false (by omega)]
    rfl
  refine ⟨⟨rjX_f rfl rfl hF i1, rjA_e q2 h3, hN, ⟨by rw [cW]; exact h33, h32, by rw [rb]; exact h34, fun z => absurd z (by omega), fun _ => cA⟩, ⟨⟨h19, by omega⟩, ⟨h27, ti⟩, fun j lz => by rw [hF.1 128 (by decide) rfl, cT]; exact g5 j lz, fun z j lz ln => ?_⟩, v1, v2⟩, n0, ⟨tl, tt, n1, fun j hj => absurd hj (by show ¬ j < 0; omega)⟩, n2, n3, n4, fun z => absurd rfl z⟩
  rw [cT] at ln ⊢
  rw [eR]
  exact roD_k kp (by omega) tt (by rw [hF.1 129 (by decide) rfl]) (by rw [hF.1 130 (by decide) rfl]) (g6 (cF z).1 j lz ln)
set_option maxRecDepth 100000 in
theorem ct_rro {D l K p0 w1 : Nat} (hI : RIv M T t W c s k tl Q) (hS : soI M N T t k tl i f [w1] 0 false nu 11 v5) (h91 : crC T t i = 91) (r4 : cxR c = 4) (ah : cxA c = false) (l4 : l < 4) (hp : p0 ≤ 400) (hi0 : cxI c + 3 ≤ i) (hZ : tkE T t W c = .inr (evR' l K, (crA T t i, (if cxT c l = 0 then f else ntF f p0 4), K, cxD c + 1, l, cxA c, cxT c))) (hSS : ssH (D + 4) T t W (cxI c) (cxD c)) : am_M (D + 5) false nm_X12_readRoutine [aR 108, aI (nI k), aI (nI l), aI (nI K), aI (nI p0)] N (sxR M T t W c s k tl Q) := by
  obtain ⟨k4, hfr, h33, h19, h27⟩ := RI_k hI
  have hR := hI.1
  have t4 := hR.1
  have ix : vp_in (nI k) 401 := vp_in_nI k4 (by decide)
  have cl : (nI k).toNatClampNeg = k := nI_clamp (by omega)
  have il : vp_in (nI l) 4 := vp_in_nI l4 (by decide)
  have cll : (nI l).toNatClampNeg = l := nI_clamp (by omega)
  have D0 : cxD c = 0 := hI.2.2.2.2.2.1.2.2.2.2.2.2.2.2 r4 ah
  have T4 : cxT c l ≤ 4 := hI.2.2.2.2.2.1.2.2.2.2.1 l
  have a1 := cra_1 (T := T) hS.2.1.1.1
  have p1 := a1.2.2 (crn_1 (by omega))
  refine ⟨rfl, rfl, rfl, fun X hX => ?_⟩
  have go : ∀ (a : Int32) (N' : mm_M) (f' : Nat), soI M N' T t k tl i f' [w1] 0 false nu 11 v5 → (a = 0 ↔ cxT c l = 0) → f' = (if cxT c l = 0 then f else ntF f p0 4) → X 28 [some (aR 108), some (aI (nI k)), some (aI (nI l)), some (aI (nI K)), some (aI (nI p0)), some (aI a), none] [] N' := by
    intro a N' f' hS' ha hf'
    rw [← hf'] at hZ
    have e33 : N'.1 108 33 = nI (cxW c) := by rw [soI_f hS' rfl]; exact h33
    have e32 : N'.1 108 32 = nI (cxD c) := by rw [soI_f hS' rfl]; exact hI.2.2.2.1.2.1
    obtain ⟨⟨u1, u2⟩, ⟨u3, u4, u6⟩, ⟨u7, u8⟩, u9, u10, u11, u12, u13⟩ := hS'
    refine am_run hX 3 _ _ _ _ ?_
    conv => whnf
    rw [e33]
    refine am_run hX 5 _ _ _ _ ?_
    conv => whnf
    refine ⟨ix, ?_⟩
    rw [cl]
    generalize q2 : mm_i N' 120 _ = N2
    have o2 : ∀ z, z ≠ 120 → N2.1 z = N'.1 z := fun z hz => by rw [← q2, mm_ne _ _ _ _ hz]
    have x2 : N2.1 120 = upd (N'.1 120) k 15 := by rw [← q2, mm_i1]
    have y2 : N2.2 = N'.2 := by rw [← q2]; rfl
    refine am_run hX 5 _ _ _ _ ?_
    conv => whnf
    refine ⟨ix, ?_⟩
    rw [cl]
    generalize q3 : mm_i N2 122 _ = N3
    have o3 : ∀ z, z ≠ 122 → N3.1 z = N2.1 z := fun z hz => by rw [← q3, mm_ne _ _ _ _ hz]
    have x3 : N3.1 122 = upd (N'.1 122) k 0 := by rw [← q3, mm_i1, o2 122 (by decide)]
    have y3 : N3.2 = N2.2 := by rw [← q3]; rfl
    refine am_run hX 3 _ _ _ _ ?_
    conv => whnf
    generalize q4 : mm_i N3 108 _ = N4
    have o4 : ∀ z, z ≠ 108 → N4.1 z = N3.1 z := fun z hz => by rw [← q4, mm_ne _ _ _ _ hz]
    have x4 : N4.1 108 = upd (N'.1 108) 33 (nI K) := by rw [← q4, mm_i1, o3 108 (by decide), o2 108 (by decide)]
    have y4 : N4.2 = N3.2 := by rw [← q4]; rfl
    refine am_run hX 3 _ _ _ _ ?_
    conv => whnf
    refine ⟨⟨rfl, rfl⟩, ?_⟩
    generalize q5 : mm_i N4 108 _ = N5
    have o5 : ∀ z, z ≠ 108 → N5.1 z = N4.1 z := fun z hz => by rw [← q5, mm_ne _ _ _ _ hz]
    have x5 : N5.1 108 = upd (upd (N'.1 108) 33 (nI K)) 34 1 := by rw [← q5, mm_i1, x4]
    have y5 : N5.2 = N4.2 := by rw [← q5]; rfl
    have c5 : ∀ z, z ≠ 108 → z ≠ 120 → z ≠ 122 → N5.1 z = N'.1 z := fun z h1 h2 h3 => by rw [o5 z h1, o4 z h1, o3 z h3, o2 z h2]
    have c120 : N5.1 120 = upd (N'.1 120) k 15 := by rw [o5 120 (by decide), o4 120 (by decide), o3 120 (by decide), x2]
    have c122 : N5.1 122 = upd (N'.1 122) k 0 := by rw [o5 122 (by decide), o4 122 (by decide), x3]
    have f5 : ∀ y, y ≠ 33 → y ≠ 34 → N5.1 108 y = N'.1 108 y := fun y h1 h2 => by rw [x5, up_ne h2, up_ne h1]
    have F5 : rjF [33, 34] [120, 122] N' N5 := by
      refine ⟨fun z h1 h2 => c5 z h1 (fun e => by rw [e] at h2; exact absurd h2 (by decide)) (fun e => by rw [e] at h2; exact absurd h2 (by decide)), fun y hy => f5 y (fun e => by rw [e] at hy; exact absurd hy (by decide)) (fun e => by rw [e] at hy; exact absurd hy (by decide)), ?_⟩
      rw [y5, y4, y3, y2]
    have k5 : kpt k tl N' N5 := by
      refine ⟨fun z h1 h2 j hj => ?_, fun j _ => by rw [c5 127 (by decide) (by decide) (by decide)]⟩
      by_cases e1 : z = 120
      · rw [e1, c120, up_ne (by omega)]
      · by_cases e2 : z = 122
        · rw [e2, c122, up_ne (by omega)]
        · rw [c5 z (by omega) e1 e2]
    have R5 : rjX N5 T t := rjX_f rfl rfl F5 (rjX_f rfl rfl u1 hR)
    refine am_run hX 2 _ _ _ _ ?_
    conv => whnf
    refine am_cq (ct_op1 (d := D + 1) (D := cxD c) R5 (rjA_f rfl F5 u3) h91 (by rw [f5 32 (by decide) (by decide)]; exact e32) (by omega)) ?_
    rintro r6 N6 ⟨rfl, F6, m3, m32⟩
    refine ⟨_, rfl, ?_⟩
    refine am_run hX 1 _ _ _ _ ?_
    conv => whnf
    refine ⟨fun z => absurd z (by decide), fun _ => ?_⟩
    have FF : rjF roS giC M N6 := rjF_t (rjF_w (by decide) (by decide) u1) (rjF_t (rjF_w (by decide) (by decide) F5) (rjF_w (by decide) (by decide) F6))
    have kp : kpt k tl M N6 := kpt_t u2 (kpt_t k5 (kpt_0 (fun q a _ => F6.1 q (by omega) rfl)))
    obtain ⟨rI, nP⟩ := RI_o (K := N6) (tl' := tl + 1) hI hZ FF kp m3 (rjN_f rfl rfl F6 (rjN_f rfl rfl F5 u4)) m32 (by rw [F6.2.1 33 rfl, x5, up_ne (by decide)]; exact up_at) (by rw [F6.2.1 34 rfl, x5]; exact up_at) (by rw [F6.2.1 19 rfl, f5 19 (by decide) (by decide)]; exact u7) (by rw [F6.2.1 27 rfl, f5 27 (by decide) (by decide)]; exact u8.2.2.2) (by omega) (by show cxI c + 3 ≤ crA T t i; omega) (by
      have : tl + 1 ≤ i := u6
      show tl + 1 ≤ crA T t i
      omega) (by rw [F6.1 120 (by decide) rfl, c120]; exact up_at) (by rw [F6.1 121 (by decide) rfl, c5 121 (by decide) (by decide) (by decide)]; exact u8.1) (by rw [F6.1 122 (by decide) rfl, c122]; exact up_at) (by rw [F6.1 123 (by decide) rfl, c5 123 (by decide) (by decide) (by decide)]; exact u9) (by rw [F6.1 124 (by decide) rfl, c5 124 (by decide) (by decide) (by decide)]; exact u10)
    generalize hc1 : ((crA T t i, f', K, cxD c + 1, l, cxA c, cxT c) : CX) = c1 at *
    have d1 : cxD c1 = cxD c + 1 := by rw [← hc1]; rfl
    have d2 : cxI c1 = crA T t i := by rw [← hc1]; rfl
    refine am_run hX 2 _ _ _ _ ?_
    conv => whnf
    refine am_cq (hSS N6 c1 _ _ _ _ rI (by omega) (by omega)) ?_
    rintro r7 N7 (⟨rfl, cc2, s2, k2, tl2, Q2, Ss, hD, h93⟩ | ⟨rfl, g⟩)
    · refine ⟨_, rfl, ?_⟩
      refine am_run hX 1 _ _ _ _ ?_
      conv => whnf
      refine ⟨fun z => absurd z (by decide), fun _ => ?_⟩
      refine am_run hX 3 _ _ _ _ ?_
      conv => whnf
      have r7 := hD.1
      refine am_cq (ct_cl1 (d := D) (D := cxD cc2) (m := k2) r7.1 r7.2.1 h93 r7.2.2.2.1.2.1 (by have := hD.2.2.2.2.2.2.2.1.1; omega) r7.2.2.2.2.1.1.1 k4) ?_
      rintro r8 N8 ⟨rfl, F8, m8, n32, n126⟩
      refine ⟨_, rfl, ?_⟩
      have n19 : N8.1 108 19 = nI k2 := by rw [F8.2.1 19 rfl]; exact r7.2.2.2.2.1.1.1
      refine am_run hX 1 _ _ _ _ ?_
      conv => whnf
      refine ⟨fun _ => ?_, fun z => absurd (by decide) z⟩
      refine am_run hX 3 _ _ _ _ ?_
      conv => whnf
      refine ⟨⟨rfl, rfl⟩, ?_⟩
      generalize g1 : mm_i N8 108 _ = K1
      have G1 : rjF [34] [] N8 K1 := by rw [← g1]; exact rjF_u N8 _ rfl
      have j1 : K1.1 108 34 = 0 := by rw [← g1]; exact rj_at _ _ _
      refine am_run hX 3 _ _ _ _ ?_
      conv => whnf
      refine ⟨⟨rfl, rfl⟩, ?_⟩
      generalize g2 : mm_i K1 108 _ = K2
      have G2 : rjF [35] [] K1 K2 := by rw [← g2]; exact rjF_u K1 _ rfl
      have j2 : K2.1 108 35 = 0 := by rw [← g2]; exact rj_at _ _ _
      refine am_run hX 3 _ _ _ _ ?_
      conv => whnf
      generalize g3 : mm_i K2 108 _ = K3
      have G3 : rjF [33] [] K2 K3 := by rw [← g3]; exact rjF_u K2 _ rfl
      have j3 : K3.1 108 33 = nI (cxW c) := by rw [← g3]; exact rj_at _ _ _
      have G : rjF [33, 34, 35] [] N8 K3 := rjF_t (rjF_w (by decide) (by decide) G1) (rjF_t (rjF_w (by decide) (by decide) G2) (rjF_w (by decide) (by decide) G3))
      have H : ∀ K9, rjF [] [128, 129, 130] K3 K9 → (cxT c l ≠ 0 → K9.1 128 = K3.1 128) → (cxT c l = 0 → K9.1 128 = upd (K3.1 128) l (nI K) ∧ K9.1 129 = upd (K3.1 129) l (nI (k + 1)) ∧ K9.1 130 = upd (K3.1 130) l (nI k2)) → sxR M T t W c s k tl Q (.inl (some (aI 1))) K9 := by
        intro K9 G9 hy hn
        have e8 : ∀ z, z = 128 ∨ z = 129 ∨ z = 130 → K3.1 z = N7.1 z := fun z hz => by rw [G.1 z (by omega) rfl, F8.1 z (by omega) (by rcases hz with h | h | h <;> rw [h] <;> rfl)]
        obtain ⟨c3, s3, Q3, hE, hl⟩ := stD_o (N3 := K9) hI hZ rfl (rjF_w (by decide) (by decide) FF) kp (by omega) nP hD h93 (rjF_t (rjF_w (by decide) (by decide) F8) (rjF_t (rjF_w (by decide) (by decide) G) (rjF_w (by decide) (by decide) G9))) (by rw [G9.2.1 3 rfl, G.2.1 3 rfl]; exact m8) (by rw [G9.2.1 32 rfl, G.2.1 32 rfl]; exact n32) (by rw [G9.2.1 33 rfl]; exact j3) (by rw [G9.2.1 34 rfl, G3.2.1 34 rfl, G2.2.1 34 rfl]; exact j1) (by rw [G9.2.1 35 rfl, G3.2.1 35 rfl]; exact j2) (by rw [G9.1 126 (by decide) rfl, G.1 126 (by decide) rfl]; exact n126) (fun z => by rw [hy z, e8 128 (by omega)]) (fun z => by
          obtain ⟨z1, z2, z3⟩ := hn z
          exact ⟨by rw [z1, e8 128 (by omega)], by rw [z2, e8 129 (by omega)], by rw [z3, e8 130 (by omega)]⟩)
        exact Or.inl ⟨rfl, c3, s3, k2, tl2, Q3, _, hE, hl⟩
      have k19 : K3.1 108 19 = nI k2 := by rw [G.2.1 19 rfl]; exact n19
      refine am_run hX 2 _ _ _ _ ?_
      conv => whnf
      by_cases z : cxT c l = 0
      · refine ⟨fun _ => ?_, fun y => absurd (ha.mpr z) y⟩
        refine am_run hX 5 _ _ _ _ ?_
        conv => whnf
        refine ⟨il, ?_⟩
        rw [cll]
        generalize e4 : mm_i K3 128 _ = K4
        have v4 : ∀ q, q ≠ 128 → K4.1 q = K3.1 q := fun q hq => by rw [← e4, mm_ne _ _ _ _ hq]
        refine am_run hX 7 _ _ _ _ ?_
        conv => whnf
        refine ⟨il, ?_⟩
        rw [cll, nI_1]
        generalize e5 : mm_i K4 129 _ = K5
        have v5 : ∀ q, q ≠ 129 → K5.1 q = K4.1 q := fun q hq => by rw [← e5, mm_ne _ _ _ _ hq]
        refine am_run hX 6 _ _ _ _ ?_
        conv => whnf
        rw [v5 108 (by decide), v4 108 (by decide), k19]
        refine ⟨il, ?_⟩
        rw [cll]
        generalize e6 : mm_i K5 130 _ = K6
        have v6 : ∀ q, q ≠ 130 → K6.1 q = K5.1 q := fun q hq => by rw [← e6, mm_ne _ _ _ _ hq]
        refine am_run hX 2 _ _ _ _ ?_
        conv => whnf
        refine ⟨rfl, H K6 ⟨fun q h1 h2 => ?_, fun y _ => by rw [v6 108 (by decide), v5 108 (by decide), v4 108 (by decide)], by rw [← e6, ← e5, ← e4]; rfl⟩ (fun y => absurd z y) (fun _ => ⟨by rw [v6 128 (by decide), v5 128 (by decide), ← e4, mm_i1], by rw [v6 129 (by decide), ← e5, mm_i1, v4 129 (by decide)], by rw [← e6, mm_i1, v5 130 (by decide), v4 130 (by decide)]⟩)⟩
        rw [v6 q (fun e => by rw [e] at h2; exact absurd h2 (by decide)), v5 q (fun e => by rw [e] at h2; exact absurd h2 (by decide)), v4 q (fun e => by rw [e] at h2; exact absurd h2 (by decide))]
      · refine ⟨fun y => absurd (ha.mp y) z, fun _ => ?_⟩
        refine am_run hX 2 _ _ _ _ ?_
        conv => whnf
        exact ⟨rfl, H K3 (rjF_r _ _ K3) (fun _ => rfl) (fun y => absurd y z)⟩
    · refine ⟨_, rfl, ?_⟩
      refine am_run hX 1 _ _ _ _ ?_
      conv => whnf
      refine ⟨fun _ => ?_, fun z => absurd rfl z⟩
      refine am_run hX 2 _ _ _ _ ?_
      conv => whnf
      exact ⟨rfl, Or.inr ⟨rfl, stN_p hZ (rjF_w (by decide) (by decide) FF) g⟩⟩
  have e128 : N.1 128 l = nI (cxT c l) := by rw [hS.1.1.1 128 (by decide) rfl]; exact hI.2.2.2.2.1.2.2.1 l l4
  refine am_run hX 4 _ _ _ _ ?_
  conv => whnf
  refine ⟨il, ?_⟩
  rw [cll, e128]
  refine am_run hX 1 _ _ _ _ ?_
  conv => whnf
  by_cases z : cxT c l = 0
  · rw [z]
    refine ⟨fun _ => ?_, fun y => absurd rfl y⟩
    refine am_run hX 2 _ _ _ _ ?_
    conv => whnf
    refine am_run hX 2 _ _ _ _ ?_
    conv => whnf
    exact ⟨fun _ => go 0 N f hS ⟨fun _ => z, fun _ => rfl⟩ (by rw [if_pos z]), fun y => absurd rfl y⟩
  · refine ⟨fun y => absurd y (nI_ne0 (n := cxT c l) (by omega) (by omega)), fun _ => ?_⟩
    refine am_run hX 3 _ _ _ _ ?_
    conv => whnf
    refine am_run hX 2 _ _ _ _ ?_
    conv => whnf
    refine ⟨fun y => absurd y (by decide), fun _ => ?_⟩
    refine am_run hX 4 _ _ _ _ ?_
    conv => whnf
    refine am_cq (ct_nt (d := D + 3) (k := 4) hS.2.1.2.1 hp (by decide)) ?_
    rintro r1 N1 ⟨rfl, F1, n1⟩
    refine ⟨_, rfl, ?_⟩
    refine go 1 N1 (ntF f p0 4) (soI_m hS (rjF_w (by decide) (by decide) F1) (rjA_f rfl F1 hS.2.1.1) n1 (Nat.le_refl _) (by rw [F1.2.1 35 rfl]; exact hS.2.2.2.2.2.2.2)) ⟨fun y => absurd y (by decide), fun y => absurd y z⟩ (by rw [if_neg z])
end CSD
