/-! circuit: blocks and ROUTINES, at the reference -/
theorem rpt_m (f : bk_X → bk_X) (L : List bk_X) : ∀ m, (rpt L m).map f = rpt (L.map f) m
  | 0 => rfl
  | m + 1 => by
    show (L ++ rpt L m).map f = L.map f ++ rpt (L.map f) m
    rw [List.map_append, rpt_m f L m]
theorem rpt_1 (L : List bk_X) : rpt L 1 = L := List.append_nil L
theorem adA_0 (x : bk_X) : adA (0, 0) x = x := by
  unfold adA
  show (_, _, _, _, x.2.2.2.2.1 ||| 0, x.2.2.2.2.2 ||| 0) = x
  rw [Nat.or_zero, Nat.or_zero]
theorem adA_2 (a : Nat × Nat) (k q : Nat) (x : bk_X) : adA a (adA (askA (0, 0) k q) x) = adA (askA a k q) x := by
  unfold askA
  by_cases h : k = 12
  · rw [if_pos h, if_pos h]
    unfold adA
    show (_, _, _, _, (x.2.2.2.2.1 ||| (0 ||| 2 ^ q)) ||| a.1, (x.2.2.2.2.2 ||| 0) ||| a.2) = (_, _, _, _, x.2.2.2.2.1 ||| (a.1 ||| 2 ^ q), x.2.2.2.2.2 ||| a.2)
    rw [Nat.zero_or, Nat.or_zero, Nat.or_assoc, Nat.or_comm (2 ^ q) a.1]
  · rw [if_neg h, if_neg h]
    by_cases g : k = 13
    · rw [if_pos g, if_pos g]
      unfold adA
      show (_, _, _, _, (x.2.2.2.2.1 ||| 0) ||| a.1, (x.2.2.2.2.2 ||| (0 ||| 2 ^ q)) ||| a.2) = (_, _, _, _, x.2.2.2.2.1 ||| a.1, x.2.2.2.2.2 ||| (a.2 ||| 2 ^ q))
      rw [Nat.zero_or, Nat.or_zero, Nat.or_assoc, Nat.or_comm (2 ^ q) a.2]
    · rw [if_neg g, if_neg g, adA_0]
/-- a node but for its end -/
def noP (M : mm_M) (tl n : Nat) (e : Ev) : Prop := M.1 120 n = nI (wtE e) ∧ (∃ fw, fw + (evW e).length ≤ tl ∧ M.1 121 n = nI fw ∧ ∀ j, j < (evW e).length → M.1 127 (fw + j) = nI ((evW e).getD j 0)) ∧ M.1 122 n = nI (evW e).length ∧ M.1 123 n = nI e.2.2.2.2.1.length ∧ M.1 124 n = b01 e.2.2.2.1 ∧ (e.1 ≠ 4 → M.1 125 n = nI (nuE e))
theorem noP_H {M N : mm_M} {tl tl' n s : Nat} {e : Ev} (h : noP M tl n e) (hk : kpt (n + 1) tl M N) (tt : tl ≤ tl') {K : mm_M} (e6 : K.1 126 n = nI (n + 1 + s)) (eo : ∀ q, 120 ≤ q → q ≤ 127 → q ≠ 126 → K.1 q = N.1 q) : ndH K tl' n e s := by
  obtain ⟨h1, ⟨fw, f1, f2, f3⟩, h3, h4, h5, h6⟩ := h
  refine ⟨?_, ⟨fw, by omega, ?_, fun j hj => ?_⟩, ?_, ?_, ?_, fun q => ?_, e6⟩
  · rw [eo 120 (by decide) (by decide) (by decide), hk.1 120 (by decide) (by decide) n (by omega)]; exact h1
  · rw [eo 121 (by decide) (by decide) (by decide), hk.1 121 (by decide) (by decide) n (by omega)]; exact f2
  · rw [eo 127 (by decide) (by decide) (by decide), hk.2 _ (by omega)]; exact f3 j hj
  · rw [eo 122 (by decide) (by decide) (by decide), hk.1 122 (by decide) (by decide) n (by omega)]; exact h3
  · rw [eo 123 (by decide) (by decide) (by decide), hk.1 123 (by decide) (by decide) n (by omega)]; exact h4
  · rw [eo 124 (by decide) (by decide) (by decide), hk.1 124 (by decide) (by decide) n (by omega)]; exact h5
  · rw [eo 125 (by decide) (by decide) (by decide), hk.1 125 (by decide) (by decide) n (by omega)]; exact h6 q
theorem trH_6 {N K : mm_M} {tl n k : Nat} {L : Tr} {v : Int32} (e6 : K.1 126 = upd (N.1 126) n v) (eo : ∀ q, 120 ≤ q → q ≤ 127 → q ≠ 126 → K.1 q = N.1 q) (hn : n < k) (h : trH N tl k L) : trH K tl k L := by
  intro j hj
  obtain ⟨h1, ⟨fw, f1, f2, f3⟩, h3, h4, h5, h6, h7⟩ := h j hj
  refine ⟨?_, ⟨fw, f1, ?_, fun j hj => ?_⟩, ?_, ?_, ?_, fun q => ?_, ?_⟩
  · rw [eo 120 (by decide) (by decide) (by decide)]; exact h1
  · rw [eo 121 (by decide) (by decide) (by decide)]; exact f2
  · rw [eo 127 (by decide) (by decide) (by decide)]; exact f3 j hj
  · rw [eo 122 (by decide) (by decide) (by decide)]; exact h3
  · rw [eo 123 (by decide) (by decide) (by decide)]; exact h4
  · rw [eo 124 (by decide) (by decide) (by decide)]; exact h5
  · rw [eo 125 (by decide) (by decide) (by decide)]; exact h6 q
  · rw [e6, up_ne (by omega)]; exact h7
theorem kpt_6 {N K : mm_M} {tl n : Nat} {v : Int32} (e6 : K.1 126 = upd (N.1 126) n v) (eo : ∀ q, 120 ≤ q → q ≤ 127 → q ≠ 126 → K.1 q = N.1 q) : kpt n tl N K := by
  refine ⟨fun q a b j hj => ?_, fun j _ => by rw [eo 127 (by decide) (by decide) (by decide)]⟩
  by_cases h : q = 126
  · rw [h, e6, up_ne (by omega)]
  · rw [eo q a (by omega) h]
theorem tk_93 {T : Nat → Nat} {t W : Nat} {c : CX} (h : crC T t (cxI c) = 93) : tkE T t W c = clE W c (crP T t (cxI c)) (crA T t (cxI c)) := by
  unfold tkE
  rw [if_neg (by omega), if_pos h]
section CRY
variable {M N1 N2 N3 : mm_M} {T : Nat → Nat} {t W : Nat} {c c1 c2 : CX} {s s2 : GS} {k tl k2 tl2 : Nat} {Q Q2 : Nat → Nat × Tr} {e : Ev} {Ss : List (Ev × Tr)}
/-- a block was read -/
theorem stD_b (hI : RIv M T t W c s k tl Q) (h : tkE T t W c = .inr (e, c1)) (he : e.1 = 3) (hF : rjF rdS rdC M N1) (hk : kpt k tl M N1) (hP : noP N1 tl k e) (hS : stD N1 N2 T t W c1 (clS e c c1 s) (k + 1) tl Q c2 s2 k2 tl2 Q2 Ss) (hc : crC T t (cxI c2) = 93) (hF3 : rjF [3, 32] [126] N2 N3) (h3 : N3.1 108 3 = nI (crA T t (cxI c2))) (h32 : N3.1 108 32 = nI (cxD c2 - 1)) (h126 : N3.1 126 = upd (N2.1 126) k (nI k2)) : ∃ c3 s3, stD M N3 T t W c s k tl Q c3 s3 k2 tl2 Q2 [(e, flT Ss)] ∧ cxI c < cxI c3 := by
  obtain ⟨i1, i2, i3, ⟨f1, f2, f3, f4, f5⟩, ⟨⟨g1, g2⟩, ⟨g3, g4⟩, g5, g6⟩, i6, i7⟩ := hI
  have hT : ∀ j, j < t → T j < 127 := fun j hj => (i1.2.2 j hj).2.2
  obtain ⟨q, q1, q2⟩ := tk_k hT i2.1 h
  have hB : isB c e c1 := by
    rcases q with ⟨_, _, _, _, _, _, z, _⟩ | ⟨_, _, _, _, _, _, z, _⟩ | ⟨_, _, _, _, _, z, _⟩ | z | ⟨_, _, _, _, z, _⟩ | ⟨z, _⟩
    · rw [z] at he; exact absurd he (by show ¬ (0 = 3); decide)
    · rw [z] at he; exact absurd he (by show ¬ (1 = 3); decide)
    · rw [z] at he; exact absurd he (by show ¬ (2 = 3); decide)
    · exact z
    · rw [z] at he; exact absurd he (by show ¬ (4 = 3); decide)
    · rw [z] at he; exact absurd he (by show ¬ (5 = 3); decide)
  obtain ⟨kk, qq, i', b1, b2, b3, b4⟩ := hB
  obtain ⟨s1, s2', s3, s4, s5, s6, ⟨m, s7⟩, ⟨p1, p2, p3, p4⟩, s9, s10⟩ := hS
  obtain ⟨j1, j2, j3, ⟨w1, w2, w3, w4, w5⟩, ⟨⟨x1, x2⟩, ⟨x3, x4⟩, x5, x6⟩, j6, j7⟩ := s1
  have cD : cxD c1 = cxD c + 1 := by rw [b2]; rfl
  have cR : cxR c1 = cxR c := by rw [b2]; rfl
  have cT : cxT c1 = cxT c := by rw [b2]; rfl
  have cW : cxW c1 = cxW c := by rw [b2]; rfl
  have cF : cxF c1 = cxF c := by rw [b2]; rfl
  have cA : cxA c1 = (cxA c || decide (cxR c = 4)) := by rw [b2]; rfl
  have r1 : cxR c ≠ 4 → 1 ≤ cxD c := i6.2.2.2.2.2.2.2.1
  have z1 : cxR c1 ≠ 4 ∨ cxA c1 = true := by
    by_cases z : cxR c = 4
    · exact Or.inr (by rw [cA, decide_eq_true z, Bool.or_true])
    · exact Or.inl (by rw [cR]; exact z)
  obtain ⟨y1, y2, y3, y4⟩ := s9 z1
  have ek : tkE T t W c2 = .inr (evC, (crA T t (cxI c2), cxF c2, cxW c2, cxD c2 - 1, cxR c2, cxA c2, cxT c2)) := by
    rw [tk_93 hc]
    unfold clE
    rw [if_neg (by omega), if_neg (by omega)]
  generalize hc3 : ((crA T t (cxI c2), cxF c2, cxW c2, cxD c2 - 1, cxR c2, cxA c2, cxT c2) : CX) = c3 at ek
  have d1 : cxI c3 = crA T t (cxI c2) := by rw [← hc3]; rfl
  have d2 : cxF c3 = cxF c2 := by rw [← hc3]; rfl
  have d3 : cxW c3 = cxW c2 := by rw [← hc3]; rfl
  have d4 : cxD c3 = cxD c2 - 1 := by rw [← hc3]; rfl
  have d5 : cxR c3 = cxR c2 := by rw [← hc3]; rfl
  have d6 : cxA c3 = cxA c2 := by rw [← hc3]; rfl
  have d7 : cxT c3 = cxT c2 := by rw [← hc3]; rfl
  obtain ⟨v1, v2⟩ := gI_s hT j2.1 ek j6 j7
  have a1 := cra_1 (T := T) j2.1
  have eo : ∀ q, 120 ≤ q → q ≤ 127 → q ≠ 126 → N3.1 q = N2.1 q := fun q a b' b => hF3.1 q (by omega) (by
    have : ∀ q, 120 ≤ q → q ≤ 127 → q ≠ 126 → [126].contains q = false := by
      intro q a b c
      rcases (by omega : q = 120 ∨ q = 121 ∨ q = 122 ∨ q = 123 ∨ q = 124 ∨ q = 125 ∨ q = 127) with rfl | rfl | rfl | rfl | rfl | rfl | rfl <;> rfl
    exact this q a b' b)
  have kp3 : kpt k tl M N3 := kpt_t hk (kpt_t (kpt_w (by omega) (Nat.le_refl _) s5) (kpt_w (Nat.le_refl _) s3 (kpt_6 h126 eo)))
  have es1 : gO (clS e c c1 s) = gO s ∧ gQ (clS e c c1 s) = askA (gQ s) kk qq ∧ gR (clS e c c1 s) = gR s ∧ gS (clS e c c1 s) = (fun j => if j = cxD c then (if kk = 14 then qq else 1, gQ s, (gO s).length) else gS s j) := by
    unfold clS
    rw [if_pos he, b1]
    exact ⟨rfl, rfl, rfl, rfl⟩
  obtain ⟨t1, t2, t3, t4⟩ := es1
  generalize hsa : clS e c c1 s = sa at *
  have ncl : ¬ (cxD c2 = 1 ∧ cxR c2 ≠ 4) := by omega
  have es3 : clS evC c2 c3 s2 = ((gO s2).take (gS s2 (cxD c2 - 1)).2.2 ++ rpt ((gO s2).drop (gS s2 (cxD c2 - 1)).2.2) (gS s2 (cxD c2 - 1)).1, (gS s2 (cxD c2 - 1)).2.1, gS s2, gR s2) := by
    unfold clS
    rw [if_neg (by show ¬ (5 = 3); decide), if_neg (by show ¬ (5 = 4); decide), if_pos (by show 5 = 5; rfl), if_neg ncl]
  have dd : cxD c2 - 1 = cxD c := by omega
  have er : rbX c3 = rbX c2 := by unfold rbX; rw [d5]
  have eR : gR (clS evC c2 c3 s2) = gR s := by
    rw [es3]
    exact y3.trans t3
  have rI : RIv N3 T t W c3 (clS evC c2 c3 s2) k2 tl2 Q2 := by
    refine ⟨rjX_f rfl rfl hF3 j1, by rw [d1]; exact rjA_e a1.2.1 h3, by rw [d2]; exact rjN_f rfl rfl hF3 j3, ⟨?_, ?_, ?_, fun z => ?_, fun z => ?_⟩, ⟨⟨?_, ?_⟩, ⟨?_, ?_⟩, fun l lz => ?_, fun z l lz ln => ?_⟩, v1, v2⟩
    · rw [d3, hF3.2.1 33 rfl]; exact w1
    · rw [d4]; exact h32
    · rw [er, hF3.2.1 34 rfl]; exact w3
    · rw [d5] at z
      rw [hF3.2.1 35 rfl, d6, d3]
      exact w4 z
    · rw [d5] at z
      rw [d6]
      exact w5 z
    · rw [hF3.2.1 19 rfl]; exact x1
    · rw [d1]; omega
    · rw [hF3.2.1 27 rfl]; exact x3
    · rw [d1]; omega
    · rw [hF3.1 128 (by decide) rfl, d7]; exact x5 l lz
    · rw [d2] at z
      rw [d7] at ln
      have r2 := x6 z l lz ln
      have zc : cxF c = 0 := by rw [← cF]; exact (s10 z).1
      have rM := g6 zc l lz (by rw [← cT, ← y1]; exact ln)
      rw [y2] at r2 ⊢
      rw [eR, d7, y1, cT]
      exact ⟨by rw [hF3.1 129 (by decide) rfl]; exact r2.1, by rw [hF3.1 130 (by decide) rfl]; exact r2.2.1, by have := rM.2.2.1; omega, trH_k kp3 rM.2.2.1 s3 rM.2.2.2.1, rM.2.2.2.2.1, rM.2.2.2.2.2⟩
  refine ⟨c3, clS evC c2 c3 s2, ⟨rI, ?_, s3, rjF_t hF (rjF_t s4 (rjF_w (by decide) (by decide) hF3)), kp3, ?_, ⟨1 + m + 1, PSg_e _ (PSg_t 1 m ⟨e, c1, h, rfl, hsa⟩ s7) ek⟩, ⟨by omega, d5.trans (p2.trans cR), d3.trans (p3.trans cW), by omega⟩, fun z => ⟨d7.trans (y1.trans cT), y2, eR, fun y => by rw [d6]; exact y4 (by rw [cA, y]; rfl)⟩, fun z => ?_⟩, by omega⟩
  · rw [fl_1, jn_l]
    show k2 = k + ((flT Ss).length + 1)
    omega
  · rw [fl_1]
    exact trH_s (noP_H hP s5 s3 (by rw [h126, s2']; exact up_at) eo) (trH_6 h126 eo (by omega) s6)
  · rw [d2] at z
    obtain ⟨u1, u2, u3, u4, u5, u6⟩ := s10 z
    have eS : gS s2 (cxD c) = (if kk = 14 then qq else 1, gQ s, (gO s).length) := by
      rw [u3 _ (by omega), t4]
      exact if_pos rfl
    refine ⟨by rw [← cF]; exact u1, ?_, fun j hj => ?_, fun l lz ln => ⟨by rw [d7, y1, cT], by rw [y2], by rw [eR]⟩, ?_, ?_⟩
    · rw [es3]
      show (gS s2 (cxD c2 - 1)).2.1 = gQ s
      rw [dd, eS]
    · rw [es3]
      show gS s2 j = gS s j
      rw [u3 j (by omega), t4]
      exact if_neg (by omega)
    · rw [d7]
      refine wf_s (Or.inr (Or.inr (Or.inr (Or.inl ⟨kk, qq, b1, ?_⟩)))) (fun y => absurd y (by omega)) (fun _ => ?_)
      · rcases b4 with b | ⟨b5, b6, b7⟩
        · exact Or.inl b
        · exact Or.inr ⟨b5, b6, by unfold rbX; rw [decide_eq_true b7]; rfl⟩
      · have er1 : rbX c1 = rbX c := by unfold rbX; rw [cR]
        rw [er1, cW] at u5
        refine wf_b (fun l lz ln => ?_) u5
        rw [y2]
        have := (g6 (by rw [← cF]; exact u1) l lz (by rw [← cT, ← y1]; exact ln)).2.2.1
        omega
    · have e2 : e.2.1 = kk := by rw [b1]; rfl
      have e3 : e.2.2.1 = qq := by rw [b1]; rfl
      rw [jtF_1, eR]
      have eJ : jtF (gR s2) (flT Ss) = jtF (gR s) (flT Ss) := by rw [y3, t3]
      show gO (clS evC c2 c3 s2) = gO s ++ (jtO (gR s) e (jtF (gR s) (flT Ss))).map (adA (gQ s))
      rw [es3]
      show (gO s2).take (gS s2 (cxD c2 - 1)).2.2 ++ rpt ((gO s2).drop (gS s2 (cxD c2 - 1)).2.2) (gS s2 (cxD c2 - 1)).1 = _
      rw [dd, eS]
      show (gO s2).take (gO s).length ++ rpt ((gO s2).drop (gO s).length) (if kk = 14 then qq else 1) = _
      rw [u6, t1, List.take_left, List.drop_left, eJ, t2]
      unfold jtO
      rw [if_pos he, e2, e3]
      by_cases k14 : kk = 14
      · have ea : askA (gQ s) kk qq = gQ s := by
          unfold askA
          rw [if_neg (by omega), if_neg (by omega)]
        rw [if_pos k14, if_pos k14, ea, rpt_m]
      · rw [if_neg k14, if_neg k14, rpt_1, List.map_map]
        congr 1
        refine List.map_congr_left (fun x _ => ?_)
        exact (adA_2 (gQ s) kk qq x).symm
/-- a ROUTINE was read -/
theorem stD_o {tl' l K : Nat} (hI : RIv M T t W c s k tl Q) (h : tkE T t W c = .inr (e, c1)) (he : e = evR' l K) (hF : rjF rdS rdC M N1) (hk : kpt k tl M N1) (tt : tl ≤ tl') (hP : noP N1 tl' k e) (hS : stD N1 N2 T t W c1 (clS e c c1 s) (k + 1) tl' Q c2 s2 k2 tl2 Q2 Ss) (hc : crC T t (cxI c2) = 93) (hF3 : rjF [3, 32, 33, 34, 35] [126, 128, 129, 130] N2 N3) (h3 : N3.1 108 3 = nI (crA T t (cxI c2))) (h32 : N3.1 108 32 = nI (cxD c2 - 1)) (h33 : N3.1 108 33 = nI (cxW c)) (h34 : N3.1 108 34 = 0) (h35 : N3.1 108 35 = 0) (h126 : N3.1 126 = upd (N2.1 126) k (nI k2)) (hy : cxT c l ≠ 0 → N3.1 128 = N2.1 128) (hn : cxT c l = 0 → N3.1 128 = upd (N2.1 128) l (nI K) ∧ N3.1 129 = upd (N2.1 129) l (nI (k + 1)) ∧ N3.1 130 = upd (N2.1 130) l (nI k2)) : ∃ c3 s3 Q3, stD M N3 T t W c s k tl Q c3 s3 k2 tl2 Q3 [(e, flT Ss)] ∧ cxI c < cxI c3 := by
  obtain ⟨i1, i2, i3, ⟨f1, f2, f3, f4, f5⟩, ⟨⟨g1, g2⟩, ⟨g3, g4⟩, g5, g6⟩, i6, i7⟩ := hI
  have hT : ∀ j, j < t → T j < 127 := fun j hj => (i1.2.2 j hj).2.2
  obtain ⟨q, q1, q2⟩ := tk_k hT i2.1 h
  have e4 : e.1 = 4 := by rw [he]; rfl
  have hB : isR c e c1 := by
    rcases q with ⟨_, _, _, _, _, _, z, _⟩ | ⟨_, _, _, _, _, _, z, _⟩ | ⟨_, _, _, _, _, z, _⟩ | ⟨_, _, _, z, _⟩ | z | ⟨z, _⟩
    · rw [z] at e4; exact absurd e4 (by show ¬ (0 = 4); decide)
    · rw [z] at e4; exact absurd e4 (by show ¬ (1 = 4); decide)
    · rw [z] at e4; exact absurd e4 (by show ¬ (2 = 4); decide)
    · rw [z] at e4; exact absurd e4 (by show ¬ (3 = 4); decide)
    · exact z
    · rw [z] at e4; exact absurd e4 (by show ¬ (5 = 4); decide)
  obtain ⟨l', K', i', f', b1, b2, b3, b4, b5, b6, b7, b8⟩ := hB
  have ell : l' = l ∧ K' = K := by
    rw [he] at b1
    unfold evR' at b1
    simp only [Prod.mk.injEq] at b1
    exact ⟨b1.2.1.symm, b1.2.2.1.symm⟩
  obtain ⟨rfl, rfl⟩ := ell
  obtain ⟨s1, s2', s3, s4, s5, s6, ⟨m, s7⟩, ⟨p1, p2, p3, p4⟩, s9, s10⟩ := hS
  obtain ⟨j1, j2, j3, ⟨w1, w2, w3, w4, w5⟩, ⟨⟨x1, x2⟩, ⟨x3, x4⟩, x5, x6⟩, j6, j7⟩ := s1
  have cD : cxD c1 = cxD c + 1 := by rw [b2]; rfl
  have cR : cxR c1 = l' := by rw [b2]; rfl
  have cT : cxT c1 = cxT c := by rw [b2]; rfl
  have cW : cxW c1 = K' := by rw [b2]; rfl
  have cF : cxF c1 = 0 → cxF c = 0 ∧ cxT c l' = 0 := by rw [b2]; exact b8
  have D0 : cxD c = 0 := i6.2.2.2.2.2.2.2.2 b3 b4
  obtain ⟨y1, y2, y3, y4⟩ := s9 (Or.inl (by rw [cR]; omega))
  have R2 : cxR c2 = l' := p2.trans cR
  have A2 : cxA c2 = false := w5 (by rw [R2]; omega)
  have cT2 : cxT c2 = cxT c := y1.trans cT
  have cW2 : cxW c2 = K' := p3.trans cW
  have cl1 : cxD c2 = 1 ∧ cxR c2 ≠ 4 := by omega
  have ek : tkE T t W c2 = .inr (evC, (crA T t (cxI c2), cxF c2, W, 0, 4, cxA c2, fun j => if j = cxR c2 ∧ cxT c2 j = 0 then cxW c2 else cxT c2 j)) := by
    rw [tk_93 hc]
    unfold clE
    rw [if_neg (by omega), if_pos cl1]
  generalize hc3 : ((crA T t (cxI c2), cxF c2, W, 0, 4, cxA c2, fun j => if j = cxR c2 ∧ cxT c2 j = 0 then cxW c2 else cxT c2 j) : CX) = c3 at ek
  have d1 : cxI c3 = crA T t (cxI c2) := by rw [← hc3]; rfl
  have d2 : cxF c3 = cxF c2 := by rw [← hc3]; rfl
  have d3 : cxW c3 = W := by rw [← hc3]; rfl
  have d4 : cxD c3 = 0 := by rw [← hc3]; rfl
  have d5 : cxR c3 = 4 := by rw [← hc3]; rfl
  have d6 : cxA c3 = false := by rw [← A2, ← hc3]; rfl
  have d7 : ∀ j, cxT c3 j = if j = l' ∧ cxT c j = 0 then K' else cxT c j := by
    intro j
    rw [← hc3]
    show (if j = cxR c2 ∧ cxT c2 j = 0 then cxW c2 else cxT c2 j) = _
    rw [R2, cT2, cW2]
  obtain ⟨v1, v2⟩ := gI_s hT j2.1 ek j6 j7
  have a1 := cra_1 (T := T) j2.1
  have eo : ∀ q, 120 ≤ q → q ≤ 127 → q ≠ 126 → N3.1 q = N2.1 q := fun q a b' b => hF3.1 q (by omega) (by
    have : ∀ q, 120 ≤ q → q ≤ 127 → q ≠ 126 → [126, 128, 129, 130].contains q = false := by
      intro q a b c
      rcases (by omega : q = 120 ∨ q = 121 ∨ q = 122 ∨ q = 123 ∨ q = 124 ∨ q = 125 ∨ q = 127) with rfl | rfl | rfl | rfl | rfl | rfl | rfl <;> rfl
    exact this q a b' b)
  have kp3 : kpt k tl M N3 := kpt_t hk (kpt_t (kpt_w (by omega) tt s5) (kpt_w (Nat.le_refl _) (by omega) (kpt_6 (tl := tl2) h126 eo)))
  have es1 : gO (clS e c c1 s) = gO s ∧ gQ (clS e c c1 s) = gQ s ∧ gR (clS e c c1 s) = gR s ∧ gS (clS e c c1 s) = (fun j => if j = cxD c then (0, gQ s, (gO s).length) else gS s j) := by
    unfold clS
    rw [if_neg (by omega), if_pos e4]
    exact ⟨rfl, rfl, rfl, rfl⟩
  obtain ⟨t1, t2, t3, t4⟩ := es1
  generalize hsa : clS e c c1 s = sa at *
  obtain ⟨O0, Q0⟩ := i7.2.1 b3 b4
  have es3 : clS evC c2 c3 s2 = ([], (gS s2 0).2.1, gS s2, fun j => if j = cxR c2 ∧ cxT c2 j = 0 then gO s2 else gR s2 j) := by
    unfold clS
    rw [if_neg (by show ¬ (5 = 3); decide), if_neg (by show ¬ (5 = 4); decide), if_pos (by show 5 = 5; rfl), if_pos cl1]
  have eR : ∀ j, gR (clS evC c2 c3 s2) j = if j = l' ∧ cxT c j = 0 then gO s2 else gR s j := by
    intro j
    rw [es3]
    show (if j = cxR c2 ∧ cxT c2 j = 0 then gO s2 else gR s2 j) = _
    rw [R2, cT2, y3, t3]
  have rb1 : rbX c1 = true := by
    unfold rbX
    rw [cR, decide_eq_false (by omega)]
    rfl
  have rb0 : rbX c = false := by
    unfold rbX
    rw [decide_eq_true b3]
    rfl
  have hq : cxT c l' = 0 → ∀ j, j < 4 → cxT c j ≠ 0 → cxT c3 j = cxT c j ∧ (if j = l' then (k + 1, flT Ss) else Q j) = Q j := by
    intro z j _ hj
    have nj : j ≠ l' := fun e => hj (by rw [e]; exact z)
    exact ⟨by rw [d7 j, if_neg (fun y => nj y.1)], if_neg nj⟩
  have hr : cxT c l' = 0 → ∀ j, j < 4 → cxT c j ≠ 0 → gR s j = gR (clS evC c2 c3 s2) j := by
    intro z j _ hj
    have nj : j ≠ l' := fun e => hj (by rw [e]; exact z)
    rw [eR j, if_neg (fun y => nj y.1)]
  have rI : RIv N3 T t W c3 (clS evC c2 c3 s2) k2 tl2 (fun j => if j = l' then (k + 1, flT Ss) else Q j) := by
    refine ⟨rjX_f rfl rfl hF3 j1, by rw [d1]; exact rjA_e a1.2.1 h3, by rw [d2]; exact rjN_f rfl rfl hF3 j3, ⟨?_, ?_, ?_, fun _ => ⟨?_, d3⟩, fun z => absurd d5 z⟩, ⟨⟨?_, ?_⟩, ⟨?_, ?_⟩, fun j lz => ?_, fun z j lz ln => ?_⟩, v1, v2⟩
    · rw [d3, h33, (f4 b3).2]
    · rw [d4, h32]
      congr 1
      omega
    · unfold rbX
      rw [d5, h34]
      rfl
    · rw [d6, h35]
      rfl
    · rw [hF3.2.1 19 rfl]; exact x1
    · rw [d1]; omega
    · rw [hF3.2.1 27 rfl]; exact x3
    · rw [d1]; omega
    · rw [d7 j]
      by_cases z : cxT c l' = 0
      · rw [(hn z).1]
        by_cases y : j = l'
        · rw [if_pos ⟨y, by rw [y]; exact z⟩, y]
          exact up_at
        · rw [if_neg (fun w => y w.1), up_ne y, x5 j lz, cT2]
      · rw [hy z, if_neg (fun w => z (by rw [← w.1]; exact w.2)), x5 j lz, cT2]
    · rw [d2] at z
      obtain ⟨u1, u2, u3, u4, u5, u6⟩ := s10 z
      obtain ⟨zc, zT⟩ := cF u1
      obtain ⟨n1, n2, n3⟩ := hn zT
      have u5b : ekB Q2 (cxT c2) (rbX c1) (cxW c1) (k + 1) (flT Ss) := wf_b (fun j j4 jz => by
        rw [cT2] at jz
        rw [y2]
        have := (g6 zc j j4 jz).2.2.1
        omega) u5
      have u5 := ekB_q (Q' := fun j => if j = l' then (k + 1, flT Ss) else Q j) (Tw' := cxT c3) (fun j j4 jz => by
        rw [cT2] at jz ⊢
        rw [y2]
        exact hq zT j j4 jz) (Or.inl rfl) u5b
      rw [rb1, cW] at u5
      by_cases y : j = l'
      · subst y
        have eq : (if j = j then (k + 1, flT Ss) else Q j) = (k + 1, flT Ss) := if_pos rfl
        have eT : cxT c3 j = K' := by rw [d7 j, if_pos ⟨rfl, zT⟩]
        refine ⟨?_, ?_, ?_, ?_, ?_, ?_⟩
        · show N3.1 129 j = nI (if j = j then (k + 1, flT Ss) else Q j).1
          rw [eq, n2]
          exact up_at
        · show N3.1 130 j = nI ((if j = j then (k + 1, flT Ss) else Q j).1 + (if j = j then (k + 1, flT Ss) else Q j).2.length)
          rw [eq, n3, s2']
          exact up_at
        · show (if j = j then (k + 1, flT Ss) else Q j).1 + (if j = j then (k + 1, flT Ss) else Q j).2.length ≤ k2
          rw [eq]
          show k + 1 + (flT Ss).length ≤ k2
          omega
        · show trH N3 tl2 (if j = j then (k + 1, flT Ss) else Q j).1 (if j = j then (k + 1, flT Ss) else Q j).2
          rw [eq]
          exact trH_6 h126 eo (by omega) s6
        · show ekB _ _ true (cxT c3 j) (if j = j then (k + 1, flT Ss) else Q j).1 (if j = j then (k + 1, flT Ss) else Q j).2
          rw [eq, eT]
          exact u5
        · show gR (clS evC c2 c3 s2) j = jtF (gR (clS evC c2 c3 s2)) (if j = j then (k + 1, flT Ss) else Q j).2
          rw [eq, eR j, if_pos ⟨rfl, zT⟩, u6, t1, O0, t2, Q0, List.nil_append]
          have em : ∀ L : List bk_X, L.map (adA (0, 0)) = L := fun L => by
            rw [List.map_congr_left (g := id) (fun x _ => adA_0 x), List.map_id]
          rw [em, y3, t3]
          exact jt_rB (Q := Q2) (Tw := cxT c2) (fun i i4 iz => hr zT i i4 (by rw [← cT2]; exact iz)) u5b
      · have eq : (if j = l' then (k + 1, flT Ss) else Q j) = Q j := if_neg y
        have eT : cxT c3 j = cxT c j := by rw [d7 j, if_neg (fun w => y w.1)]
        rw [eT] at ln
        have rM := g6 zc j lz ln
        have r2 := x6 z j lz (by rw [cT2]; exact ln)
        rw [y2] at r2
        refine ⟨?_, ?_, ?_, ?_, ?_, ?_⟩
        · show N3.1 129 j = nI (if j = l' then (k + 1, flT Ss) else Q j).1
          rw [eq, n2, up_ne y]
          exact r2.1
        · show N3.1 130 j = nI ((if j = l' then (k + 1, flT Ss) else Q j).1 + (if j = l' then (k + 1, flT Ss) else Q j).2.length)
          rw [eq, n3, up_ne y]
          exact r2.2.1
        · show (if j = l' then (k + 1, flT Ss) else Q j).1 + (if j = l' then (k + 1, flT Ss) else Q j).2.length ≤ k2
          rw [eq]
          have := rM.2.2.1
          omega
        · show trH N3 tl2 (if j = l' then (k + 1, flT Ss) else Q j).1 (if j = l' then (k + 1, flT Ss) else Q j).2
          rw [eq]
          exact trH_k kp3 rM.2.2.1 (by omega) rM.2.2.2.1
        · show ekB _ _ true (cxT c3 j) (if j = l' then (k + 1, flT Ss) else Q j).1 (if j = l' then (k + 1, flT Ss) else Q j).2
          rw [eq, eT]
          exact ekB_q (fun i i4 iz => hq zT i i4 iz) (Or.inl rfl) rM.2.2.2.2.1
        · show gR (clS evC c2 c3 s2) j = jtF (gR (clS evC c2 c3 s2)) (if j = l' then (k + 1, flT Ss) else Q j).2
          rw [eq, ← hr zT j lz ln, ← jt_rB (fun i i4 iz => hr zT i i4 iz) rM.2.2.2.2.1]
          exact rM.2.2.2.2.2
  refine ⟨c3, clS evC c2 c3 s2, _, ⟨rI, ?_, by omega, rjF_t hF (rjF_t s4 (rjF_w (by decide) (by decide) hF3)), kp3, ?_, ⟨1 + m + 1, PSg_e _ (PSg_t 1 m ⟨e, c1, h, rfl, hsa⟩ s7) ek⟩, ⟨by omega, by rw [d5, b3], by rw [d3, (f4 b3).2], by omega⟩, fun z => ?_, fun z => ?_⟩, by omega⟩
  · rw [fl_1, jn_l]
    show k2 = k + ((flT Ss).length + 1)
    omega
  · rw [fl_1]
    exact trH_s (noP_H hP s5 s3 (by rw [h126, s2']; exact up_at) eo) (trH_6 h126 eo (by omega) s6)
  · rcases z with z | z
    · exact absurd b3 z
    · rw [b4] at z
      exact absurd z (by decide)
  · rw [d2] at z
    obtain ⟨u1, u2, u3, u4, u5, u6⟩ := s10 z
    obtain ⟨zc, zT⟩ := cF u1
    refine ⟨zc, ?_, fun j hj => absurd hj (by omega), fun j lz ln => ⟨(hq zT j lz ln).1, (hq zT j lz ln).2, (hr zT j lz ln).symm⟩, ?_, ?_⟩
    · rw [es3]
      show (gS s2 0).2.1 = gQ s
      rw [u3 0 (by omega), t4]
      show (if 0 = cxD c then (0, gQ s, (gO s).length) else gS s 0).2.1 = gQ s
      rw [if_pos D0.symm]
    · exact wf_s (Or.inr (Or.inr (Or.inr (Or.inr ⟨l', K', he, rb0⟩)))) (fun y => absurd y (by omega)) (fun y => absurd y (by omega))
    · rw [jtF_1, O0, es3]
      show ([] : List bk_X) = [] ++ (jtO _ e _).map _
      unfold jtO
      rw [if_neg (by omega), if_pos e4]
      rfl
end CRY
