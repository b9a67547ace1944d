/-! circuit: the reference reads STATEMENTS, a TEXT -/
section CSF
variable {d : Nat} {M N : mm_M} {T : Nat → Nat} {t W k tl i f : Nat} {c c1 : CX} {s s1 : GS} {k1 tl1 : Nat} {Q Q1 : Nat → Nat × Tr} {Ss : List (Ev × Tr)}
theorem RI_s (h : RIv M T t W c s k tl Q) : RIv (saM M (crP T t (cxI c))) T t W c s k tl Q := by
  have F : rjF [3] [] M (saM M (crP T t (cxI c))) := sa_F M _ rfl
  obtain ⟨i1, i2, i3, ⟨f1, f2, f3, f4, f5⟩, ⟨⟨g1, g2⟩, ⟨g3, g4⟩, g5, g6⟩, i6, i7⟩ := h
  refine ⟨sa_X _ i1, rjA_p i2.1 (sa_3 M _), rjN_f rfl rfl F i3, ⟨by rw [F.2.1 33 rfl]; exact f1, by rw [F.2.1 32 rfl]; exact f2, by rw [F.2.1 34 rfl]; exact f3, fun z => by rw [F.2.1 35 rfl]; exact f4 z, f5⟩, ⟨⟨by rw [F.2.1 19 rfl]; exact g1, g2⟩, ⟨by rw [F.2.1 27 rfl]; exact g3, g4⟩, fun l lz => by rw [F.1 128 (by decide) rfl]; exact g5 l lz, fun z l lz ln => ?_⟩, i6, i7⟩
  exact roD_k (kpt_0 (fun q a _ => F.1 q (by omega) rfl)) (Nat.le_refl _) (Nat.le_refl _) (by rw [F.1 129 (by decide) rfl]) (by rw [F.1 130 (by decide) rfl]) (g6 z l lz ln)
theorem sa_rd (M : mm_M) (p : Nat) : rjF rdS rdC M (saM M p) := sa_F M _ rfl
theorem sa_kp (M : mm_M) (p k tl : Nat) : kpt k tl M (saM M p) := kpt_0 (fun q a _ => mm_ne _ _ _ _ (by omega))
theorem stD_p {p : Nat} (h : stD (saM M p) N T t W c s k tl Q c1 s1 k1 tl1 Q1 Ss) : stD M N T t W c s k tl Q c1 s1 k1 tl1 Q1 Ss := by
  obtain ⟨h1, h2, h3, h4, h5, h6⟩ := h
  exact ⟨h1, h2, h3, rjF_t (sa_rd M p) h4, kpt_t (sa_kp M p k tl) h5, h6⟩
theorem stD_q (h : stD M N T t W c s k tl Q c1 s1 k1 tl1 Q1 Ss) : stD M (saM N (crP T t (cxI c1))) T t W c s k tl Q c1 s1 k1 tl1 Q1 Ss := by
  obtain ⟨h1, h2, h3, h4, h5, h6, h7⟩ := h
  exact ⟨RI_s h1, h2, h3, rjF_t h4 (sa_rd N _), kpt_t h5 (sa_kp N _ k tl), trH_k (k := k + (flT Ss).length) (sa_kp N _ _ _) (Nat.le_refl _) (Nat.le_refl _) h6, h7⟩
theorem sxR_p {p : Nat} {r : am_R} (h : sxR (saM M p) T t W c s k tl Q r N) : sxR M T t W c s k tl Q r N := by
  rcases h with ⟨h1, c1, s1, k1, tl1, Q1, S, h2, h3⟩ | ⟨h1, h2, h3⟩
  · exact Or.inl ⟨h1, c1, s1, k1, tl1, Q1, S, stD_p h2, h3⟩
  · exact Or.inr ⟨h1, rjF_t (rjF_w (by decide) (by decide) (sa_rd M p)) h2, h3⟩
theorem tk_lt (h93 : crC T t (cxI c) = 93 → cxD c = 0) (n42 : crC T t (cxI c) ≠ 42) (hm : crC T t (cxI c) = 63 ∨ crC T t (cxI c) = 33 ∨ crC T t (cxI c) = 109 ∨ crC T t (cxI c) = 114 → cxR c ≠ 4) : tkE T t W c = ltE T t c (pfx T t (cxW c) 400 (crC T t (cxI c)) (crP T t (cxI c)) (crA T t (cxI c)) (cxF c) 0 []) := by
  have e : ∀ q, q = 63 ∨ q = 33 ∨ q = 109 ∨ q = 114 ∨ q = 93 → ltE T t c (pfx T t (cxW c) 400 q (crP T t (cxI c)) (crA T t (cxI c)) (cxF c) 0 []) = .inl (crP T t (cxI c)) := by
    intro q hq
    have e1 : pfx T t (cxW c) 400 q (crP T t (cxI c)) (crA T t (cxI c)) (cxF c) 0 [] = .inr (q, crP T t (cxI c), crA T t (cxI c), cxF c, 0, [], false) := by
      have e2 : pfx T t (cxW c) 400 q (crP T t (cxI c)) (crA T t (cxI c)) (cxF c) 0 [] = (if isDg q = true then (if crC T t (crA T t (cxI c)) = 62 then pfx T t (cxW c) 399 (crC T t (crA T t (crA T t (cxI c)))) (crP T t (crA T t (crA T t (cxI c)))) (crA T t (crA T t (crA T t (cxI c)))) (twF (cxW c) 0 (cxF c) (crP T t (cxI c)) (q - 48)) (0 ||| 2 ^ (q - 48)) ([] ++ [q - 48]) else .inl (crP T t (crA T t (cxI c)))) else if q = 45 then .inr (crC T t (crA T t (cxI c)), crP T t (crA T t (cxI c)), crA T t (crA T t (cxI c)), cxF c, 0, [], true) else .inr (q, crP T t (cxI c), crA T t (cxI c), cxF c, 0, [], false)) := rfl
      rw [e2]
      rcases hq with rfl | rfl | rfl | rfl | rfl <;> rfl
    rw [e1]
    rcases hq with rfl | rfl | rfl | rfl | rfl <;> rfl
  unfold tkE
  by_cases m1 : crC T t (cxI c) = 63 ∨ crC T t (cxI c) = 33 ∨ crC T t (cxI c) = 109 ∨ crC T t (cxI c) = 114
  · rw [if_pos ⟨m1, hm m1⟩, e _ (by omega)]
  · rw [if_neg (fun z => m1 z.1)]
    by_cases q : crC T t (cxI c) = 93
    · rw [if_pos q, e _ (by omega)]
      unfold clE
      rw [if_pos (h93 q)]
    · rw [if_neg q, if_neg n42, if_neg (by omega), if_neg (by omega), if_neg (by omega), if_neg (by omega)]
set_option maxRecDepth 100000 in
theorem ct_rst {D : Nat} (hI : RIv M T t W c s k tl Q) (hcc : crC T t (cxI c) ≠ 0 ∨ cxD c ≠ 0) (h93 : crC T t (cxI c) = 93 → cxD c = 0) (hSS : ∀ E, D + 4 ≤ E → ssH E T t W (cxI c) (cxD c)) : am_M (D + 7) false nm_X12_readStatement [aR 108] M (sxR M T t W c s k tl Q) := by
  refine am_wk (p := sxR (saM M (crP T t (cxI c))) T t W c s k tl Q) ?_ (fun r N g => sxR_p g)
  have hR0 := hI.1
  have hA0 := hI.2.1
  have hI := RI_s hI
  have h3 := sa_3 M (crP T t (cxI c))
  have hs := ct_se (d := D + 5) hR0 hA0
  generalize saM M (crP T t (cxI c)) = N at *
  obtain ⟨k4, hfr, h33, h19, h27⟩ := RI_k hI
  have hR := hI.1
  have t4 := hR.1
  have c7 := rjX_c (i := cxI c) hR
  have e34 : N.1 108 34 = b01 (rbX c) := hI.2.2.2.1.2.2.1
  have hQ1 : ∀ N' e c1 tl1, tkE T t W c = .inr (e, c1) → seE N N' c c1 k tl tl1 e → sxR N T t W c s k tl Q (.inl (some (aI 1))) N' := fun N' e c1 tl1 z g => sxR_e hI z g
  have hQ0 : ∀ N', stN N N' T t W c → sxR N T t W c s k tl Q (.inl (some (aI 0))) N' := fun N' g => Or.inr ⟨rfl, g⟩
  refine ⟨rfl, rfl, rfl, fun X hX => am_run hX 2 _ _ _ _ ?_⟩
  conv => whnf
  refine am_c1 hs ?_
  refine am_run hX 1 _ _ _ _ ?_
  conv => whnf
  -- what a call comes to
  have ret : ∀ (pc : Nat) (L : am_L) (K : mm_M) (v : Int32), pc = 15 ∨ pc = 40 ∨ pc = 65 ∨ pc = 150 → v = 0 ∨ v = 1 → sxR N T t W c s k tl Q (.inl (some (aI v))) K → X pc L [aI v] K := by
    intro pc L K v hp hv g
    rcases hp with rfl | rfl | rfl | rfl <;> rcases hv with rfl | rfl <;> (refine am_run hX 1 _ _ _ _ ?_; conv => whnf) <;> exact ⟨rfl, g⟩
  have cont : ∀ (pc : Nat) (L : am_L) (x : Nat) (as : List am_V), pc = 15 ∨ pc = 40 ∨ pc = 65 ∨ pc = 150 → am_M (D + 6) false x as N (sxR N T t W c s k tl Q) → ∃ q : am_Q, am_M (D + 6) false x as N q ∧ ∀ r M', q r M' → ∃ v : Option am_V, r = .inl v ∧ X pc L (v.toList ++ []) M' := by
    intro pc L x as hp hm
    refine ⟨_, hm, fun r M' g => ?_⟩
    have g' := g
    rcases g with ⟨h1, _⟩ | ⟨h1, _⟩
    · rw [h1] at g' ⊢
      exact ⟨_, rfl, ret pc L M' 1 hp (Or.inr rfl) g'⟩
    · rw [h1] at g' ⊢
      exact ⟨_, rfl, ret pc L M' 0 hp (Or.inl rfl) g'⟩
  -- GATES and USES
  have s66 : crC T t (cxI c) ≠ 42 → (crC T t (cxI c) = 63 ∨ crC T t (cxI c) = 33 ∨ crC T t (cxI c) = 109 ∨ crC T t (cxI c) = 114 → cxR c ≠ 4) → X 66 [some (aR 108), some (aI (nI (crC T t (cxI c)))), none] [] N := by
    intro n42 hm
    have hZ := tk_lt (W := W) h93 n42 hm
    refine am_run hX 3 _ _ _ _ ?_
    conv => whnf
    refine am_cq (ct_nd (d := D + 5) h19 k4 h27) ?_
    rintro r1 N1 ⟨rfl, F1, n19, nv, no⟩
    refine ⟨_, rfl, ?_⟩
    have hI1 := soI_0 hI F1 n19 nv no
    refine am_run hX 1 _ _ _ _ ?_
    conv => whnf
    refine px_l (d := D + 3) (M := N) (i0 := cxI c) hX hR h33 hfr k4 _ (fun q N' hz F a b => ?_) (fun i f cs N' nd hz hS e3 le => ?_) 400 (cxI c) (cxF c) [] N1 (by omega) (Nat.le_refl _) rfl hI1
    · refine hQ0 N' ⟨F, q, ⟨0, c, rfl, ?_, hcc⟩, a, b⟩
      rw [hZ]
      have e0 : mskL [] = 0 := rfl
      rw [e0] at hz
      rw [hz]
      rfl
    · have e0 : mskL [] = 0 := rfl
      rw [e0] at hz
      -- behind -
      have s136 : ∀ (i1 : Nat) (bk : Bool) (N2 : mm_M), cxI c ≤ i1 → soI N N2 T t k tl i1 f cs cs.length bk 0 (-1) (N.1 108 35) → tkE T t W c = ltE T t c (.inr (crC T t i1, crP T t i1, crA T t i1, f, mskL cs, cs, bk)) → X 136 [some (aR 108), some (aI (nI (crC T t (cxI c)))), some (aI (nI k))] [] N2 := by
        intro i1 bk N2 le1 hS2 hz2
        have c17 := rjX_c (i := i1) hR
        refine am_run hX 2 _ _ _ _ ?_
        conv => whnf
        refine am_c1 (ct_se (d := D + 5) (soI_X hS2 hR) hS2.2.1.1) ?_
        have hS3 := soI_s hS2
        have e33 := sa_3 N2 (crP T t i1)
        generalize saM N2 (crP T t i1) = N3 at *
        refine am_run hX 2 _ _ _ _ ?_
        conv => whnf
        by_cases q : crC T t i1 = 64
        · refine ⟨fun z => absurd (by rw [q]; rfl) z, fun _ => ?_⟩
          refine am_run hX 3 _ _ _ _ ?_
          conv => whnf
          have hz3 : tkE T t W c = atE T t c (crP T t i1) (crA T t i1) f (mskL cs) cs bk := by
            rw [hz2]
            show (if crC T t i1 = 64 then _ else _) = _
            rw [if_pos q]
          have m := ct_ruse (D := D) hI hS3 e33 q le1 hcc hz3 (hSS _ (Nat.le_refl _))
          refine ⟨_, m, fun r M' g => ?_⟩
          have g' := g
          rcases g with ⟨h1, _⟩ | ⟨h1, _⟩
          · rw [h1] at g' ⊢
            exact ⟨_, rfl, ret 150 _ M' 1 (by omega) (Or.inr rfl) g'⟩
          · rw [h1] at g' ⊢
            exact ⟨_, rfl, ret 150 _ M' 0 (by omega) (Or.inl rfl) g'⟩
        · refine ⟨fun _ => ?_, fun z => absurd (fun e => q ((nI_eq (b := 64) (by omega) (by decide)).mp e)) z⟩
          exact gt_t (d := D + 3) hX hR h33 hfr k4 hcc le1 q hz2 hQ0 hQ1 hS3 e33
      have c17 := rjX_c (i := i) hR
      refine am_run hX 2 _ _ _ _ ?_
      conv => whnf
      refine am_c1 (ct_se0 (d := D + 5) (soI_X hS hR) hS.2.1.1.1 e3) ?_
      refine am_run hX 2 _ _ _ _ ?_
      conv => whnf
      by_cases q : crC T t i = 45
      · rw [if_pos q] at hz
        refine ⟨fun z => absurd (by rw [q]; rfl) z, fun _ => ?_⟩
        refine am_run hX 5 _ _ _ _ ?_
        conv => whnf
        refine ⟨vp_in_nI (by show k < 401; omega) (by decide), ?_⟩
        rw [nI_clamp (n := k) (by omega)]
        have hS2 := soI_u (q := 124) (v := 1) hS (by decide) (nc' := cs.length) (b' := true) (nu' := 0) (w0' := -1) (by rw [mm_ne _ _ _ _ (by decide)]; exact hS.2.2.2.1) (rj_ac _ _ _ _) (by rw [mm_ne _ _ _ _ (by decide)]; exact hS.2.2.2.2.2.1) (by rw [mm_ne _ _ _ _ (by decide)]; exact hS.2.2.2.2.2.2.1)
        have e32 : (mm_i N' 124 (upd (N'.1 124) k 1)).1 108 3 = nI (crP T t i) := by rw [mm_ne _ _ _ _ (by decide)]; exact e3
        have en : mm_i N' 124 (upd (N'.1 124) k (vp_nar .boolean 1)) = mm_i N' 124 (upd (N'.1 124) k 1) := rfl
        show X 126 _ _ (mm_i N' 124 (upd (N'.1 124) k 1))
        generalize mm_i N' 124 (upd (N'.1 124) k 1) = N2 at *
        have ea : crA T t i = crP T t i + 1 := cra_p (by omega)
        have a1 := cra_1 (T := T) hS.2.1.1.1
        refine am_run hX 6 _ _ _ _ ?_
        conv => whnf
        rw [e32, nI_1, ← ea]
        refine s136 (crA T t i) true _ (by omega) (soI_a hS2 (by omega)) ?_
        rw [hZ, hz]
      · rw [if_neg q] at hz
        refine ⟨fun _ => ?_, fun z => absurd (fun e => q ((nI_eq (b := 45) (by omega) (by decide)).mp e)) z⟩
        refine s136 i false N' le hS ?_
        rw [hZ, hz]
  refine am_run hX 3 _ _ _ _ ?_
  conv => whnf
  by_cases q42 : crC T t (cxI c) = 42
  · refine ⟨fun z => absurd (by rw [q42]; rfl) z, fun _ => ?_⟩
    refine am_run hX 2 _ _ _ _ ?_
    conv => whnf
    refine cont 15 _ _ _ (by omega) (ct_rtu (D := D + 1) hI h3 q42 rfl ?_ (hSS _ (by omega)))
    unfold tkE
    rw [if_neg (by omega), if_neg (by omega), if_pos q42]
  · refine ⟨fun _ => ?_, fun z => absurd (fun e => q42 ((nI_eq (b := 42) (by omega) (by decide)).mp e)) z⟩
    refine am_run hX 3 _ _ _ _ ?_
    conv => whnf
    rw [e34]
    by_cases r4 : cxR c = 4
    · have rb : rbX c = false := by unfold rbX; rw [decide_eq_true r4]; rfl
      rw [rb]
      refine ⟨fun z => absurd rfl z, fun _ => ?_⟩
      have s35 : (crC T t (cxI c) = 63 ∨ crC T t (cxI c) = 33) → X 35 [some (aR 108), some (aI (nI (crC T t (cxI c)))), none] [] N := by
        intro hq
        refine am_run hX 3 _ _ _ _ ?_
        conv => whnf
        rcases hq with q | q
        · refine cont 40 _ _ _ (by omega) (ct_rak (D := D + 1) (kk := 12) hI h3 rfl (Or.inl ⟨q, rfl⟩) r4 ?_ (hSS _ (by omega)))
          unfold tkE
          rw [if_neg (fun z => z.2 r4), if_neg (by omega), if_neg (by omega), if_pos q]
        · refine cont 40 _ _ _ (by omega) (ct_rak (D := D + 1) (kk := 13) hI h3 rfl (Or.inr ⟨q, rfl⟩) r4 ?_ (hSS _ (by omega)))
          unfold tkE
          rw [if_neg (fun z => z.2 r4), if_neg (by omega), if_neg (by omega), if_neg (by omega), if_pos q]
      have s60 : (crC T t (cxI c) = 109 ∨ crC T t (cxI c) = 114) → X 60 [some (aR 108), some (aI (nI (crC T t (cxI c)))), none] [] N := by
        intro hq
        refine am_run hX 3 _ _ _ _ ?_
        conv => whnf
        rcases hq with q | q
        · refine cont 65 _ _ _ (by omega) (ct_rme (d := D + 2) (kk := 9) hI h3 rfl (Or.inl ⟨q, rfl⟩) ?_)
          unfold tkE
          rw [if_neg (fun z => z.2 r4), if_neg (by omega), if_neg (by omega), if_neg (by omega), if_neg (by omega), if_pos q]
        · refine cont 65 _ _ _ (by omega) (ct_rme (d := D + 2) (kk := 10) hI h3 rfl (Or.inr ⟨q, rfl⟩) ?_)
          unfold tkE
          rw [if_neg (fun z => z.2 r4), if_neg (by omega), if_neg (by omega), if_neg (by omega), if_neg (by omega), if_neg (by omega), if_pos q]
      have s41 : crC T t (cxI c) ≠ 63 → crC T t (cxI c) ≠ 33 → X 41 [some (aR 108), some (aI (nI (crC T t (cxI c)))), none] [] N := by
        intro n1 n2
        refine am_run hX 3 _ _ _ _ ?_
        conv => whnf
        rw [e34, rb]
        refine ⟨fun z => absurd rfl z, fun _ => ?_⟩
        refine am_run hX 3 _ _ _ _ ?_
        conv => whnf
        by_cases q : crC T t (cxI c) = 109
        · exact ⟨fun _ => s60 (Or.inl q), fun z => absurd (by rw [q]; rfl) z⟩
        · refine ⟨fun z => absurd ((nI_eq (b := 109) (by omega) (by decide)).mp z) q, fun _ => ?_⟩
          refine am_run hX 3 _ _ _ _ ?_
          conv => whnf
          by_cases q2 : crC T t (cxI c) = 114
          · exact ⟨fun z => absurd (by rw [q2]; rfl) z, fun _ => s60 (Or.inr q2)⟩
          · exact ⟨fun _ => s66 q42 (fun z => by omega), fun z => absurd (fun e => q2 ((nI_eq (b := 114) (by omega) (by decide)).mp e)) z⟩
      refine am_run hX 3 _ _ _ _ ?_
      conv => whnf
      by_cases q : crC T t (cxI c) = 63
      · exact ⟨fun _ => s35 (Or.inl q), fun z => absurd (by rw [q]; rfl) z⟩
      · refine ⟨fun z => absurd ((nI_eq (b := 63) (by omega) (by decide)).mp z) q, fun _ => ?_⟩
        refine am_run hX 3 _ _ _ _ ?_
        conv => whnf
        by_cases q2 : crC T t (cxI c) = 33
        · exact ⟨fun z => absurd (by rw [q2]; rfl) z, fun _ => s35 (Or.inr q2)⟩
        · exact ⟨fun _ => s41 q q2, fun z => absurd (fun e => q2 ((nI_eq (b := 33) (by omega) (by decide)).mp e)) z⟩
    · have rb : rbX c = true := by unfold rbX; rw [decide_eq_false r4]; rfl
      rw [rb]
      refine ⟨fun _ => ?_, fun z => absurd (by decide) z⟩
      refine am_run hX 3 _ _ _ _ ?_
      conv => whnf
      rw [e34, rb]
      exact ⟨fun _ => s66 q42 (fun _ => r4), fun z => absurd (by decide) z⟩
end CSF
