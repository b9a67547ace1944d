/-! THE PAIR ladder: the reference's side, and the pair -/
section LDR
variable {d : Nat} {M : mm_M} {A B : SU}
set_option maxRecDepth 100000 in
theorem lr_2 {Pp : am_Q} {X : am_X} {i j n : Nat} {up u : Int32} {q t : Nat → Int32} {f g : Nat → Int64} {kk : Nat → Nat} (hX : am_K (d + 2) false nm_X12_ladder Pp X) (hj : j < 8) (hu : up = 0 ∧ u = 1 ∨ up = 1 ∧ u = -1) (h1 : rsS M 0 A) (oA : orS A) (hi : i < A.1) (hn : n < 22501) (hw : wkO n q t f g kk) (hS : wkS (fun i l => A.2.2.1 i ^^^ (ldS j u).2.2.1 l) (tP A (ldS j u)) (tQ A (ldS j u)) 2 i 1 f g) (hK : ∀ n' q t f g kk, n' ≤ n + 1 → wkO n' q t f g kk → wkS (fun i l => A.2.2.1 i ^^^ (ldS j u).2.2.1 l) (tP A (ldS j u)) (tQ A (ldS j u)) 2 (i + 1) 0 f g → X 37 [some (aR 108), some (aI (nI j)), some (aI up), some (aI ((1 : Int32) <<< (nI j &&& 31) - 1)), some (aI ((256 : Int32) <<< (nI j &&& 31))), some (aI (nI (i + 1)))] [] (wF M n' q t f g)) : X 81 [some (aR 108), some (aI (nI j)), some (aI up), some (aI ((1 : Int32) <<< (nI j &&& 31) - 1)), some (aI ((256 : Int32) <<< (nI j &&& 31))), some (aI (nI i))] [] (wF M n q t f g) := by
  obtain ⟨e1, e2, l3, l4⟩ := lad_k hj
  have t1 := oA.1
  obtain ⟨ai1, ai2, ai3⟩ := h1.2.2 i hi
  rw [show 150 * 0 + i = i by omega] at ai1 ai2 ai3
  have ka := oA.2.2.2 i hi
  have ai1 : (wF M n q t f g).1 143 (nI i).toNatClampNeg = nI (A.2.2.1 i) := by rw [nI_clamp (n := i) (by omega)]; exact ai1
  have ai2 : (wF M n q t f g).1 144 (nI i).toNatClampNeg = A.2.2.2.1 i := by rw [nI_clamp (n := i) (by omega)]; exact ai2
  have ai3 : (wF M n q t f g).1 145 (nI i).toNatClampNeg = A.2.2.2.2 i := by rw [nI_clamp (n := i) (by omega)]; exact ai3
  have hI : vp_in (nI i) 300 := vp_in_nI (by omega) (by decide)
  have fin : X 125 [some (aR 108), some (aI (nI j)), some (aI up), some (aI ((1 : Int32) <<< (nI j &&& 31) - 1)), some (aI ((256 : Int32) <<< (nI j &&& 31))), some (aI (nI i))] [aJ u.toInt64, aJ 0, aI (nI (258 * 2 ^ j - 1)), aJ (A.2.2.2.2 i).toInt64, aJ (A.2.2.2.1 i).toInt64, aI (nI (A.2.2.1 i)), aR 108] (wF M n q t f g) := by
    refine am_run hX 3 _ _ _ _ ?_
    conv => whnf
    refine am_cq (ct_atR (d := d) (M := M) (u := 0) (v := u.toInt64) hw hn ka l4) ?_
    rintro r' M' ⟨rfl, n2, q2, t2, kk2, h2, hw2, rfl⟩
    refine ⟨none, rfl, ?_⟩
    conv => whnf
    rw [nI_1]
    exact hK n2 q2 t2 _ _ kk2 h2 hw2 (wkS_n (s := 2) (wkS_s (K := fun i l => A.2.2.1 i ^^^ (ldS j u).2.2.1 l) (T := tP A (ldS j u)) (U := tQ A (ldS j u)) (j := 1) hS))
  refine am_run hX 25 _ _ _ _ ?_
  conv => whnf
  iterate 3
    refine ⟨hI, ?_⟩
    conv => whnf
  rw [ai1, ai2, ai3, e2]
  rcases hu with ⟨rfl, rfl⟩ | ⟨rfl, rfl⟩
  · refine ⟨fun _ => ?_, fun c => absurd rfl c⟩
    refine am_run hX 1 _ _ _ _ ?_
    conv => whnf
    exact fin
  · refine ⟨fun c => absurd c (by decide), fun _ => ?_⟩
    refine am_run hX 2 _ _ _ _ ?_
    conv => whnf
    exact fin
set_option maxRecDepth 100000 in
theorem lr_l {Pp : am_Q} {X : am_X} {j : Nat} {up u : Int32} (hX : am_K (d + 2) false nm_X12_ladder Pp X) (hj : j < 8) (hu : up = 0 ∧ u = 1 ∨ up = 1 ∧ u = -1) (h1 : rsS M 0 A) (oA : orS A) (hP : ∀ n q t f g kk, wkO n q t f g kk → wkS (fun i l => A.2.2.1 i ^^^ (ldS j u).2.2.1 l) (tP A (ldS j u)) (tQ A (ldS j u)) 2 A.1 0 f g → X 134 [some (aR 108), some (aI (nI j)), some (aI up), some (aI ((1 : Int32) <<< (nI j &&& 31) - 1)), some (aI ((256 : Int32) <<< (nI j &&& 31))), some (aI (nI A.1))] [] (wF M n q t f g)) : ∀ w i n q t f g kk, i + w = A.1 → n ≤ 2 * i → wkO n q t f g kk → wkS (fun i l => A.2.2.1 i ^^^ (ldS j u).2.2.1 l) (tP A (ldS j u)) (tQ A (ldS j u)) 2 i 0 f g → X 37 [some (aR 108), some (aI (nI j)), some (aI up), some (aI ((1 : Int32) <<< (nI j &&& 31) - 1)), some (aI ((256 : Int32) <<< (nI j &&& 31))), some (aI (nI i))] [] (wF M n q t f g) := by
  obtain ⟨e1, e2, l3, l4⟩ := lad_k hj
  have h0 : vp_in 0 2 := vp_in_nI (n := 0) (N := 2) (by decide) (by decide)
  have t1 := oA.1
  intro w
  induction w with
  | zero =>
    intro i n q t f g kk hi hn hw hS
    have hi : i = A.1 := by omega
    subst hi
    refine am_run hX 6 _ _ _ _ ?_
    conv => whnf
    refine ⟨h0, ?_⟩
    conv => whnf
    rw [show (wF M n q t f g).1 141 (Int32.toNatClampNeg 0) = nI A.1 from h1.1]
    refine ⟨fun _ => ?_, fun c => absurd (nI_le (by omega) (by omega)) c⟩
    exact hP n q t f g kk hw hS
  | succ w ih =>
    intro i n q t f g kk hi hn hw hS
    have hiA : i < A.1 := by omega
    obtain ⟨ai1, ai2, ai3⟩ := h1.2.2 i hiA
    rw [show 150 * 0 + i = i by omega] at ai1 ai2 ai3
    have ka := oA.2.2.2 i hiA
    have ai1 : (wF M n q t f g).1 143 (nI i).toNatClampNeg = nI (A.2.2.1 i) := by rw [nI_clamp (n := i) (by omega)]; exact ai1
    have ai2 : (wF M n q t f g).1 144 (nI i).toNatClampNeg = A.2.2.2.1 i := by rw [nI_clamp (n := i) (by omega)]; exact ai2
    have ai3 : (wF M n q t f g).1 145 (nI i).toNatClampNeg = A.2.2.2.2 i := by rw [nI_clamp (n := i) (by omega)]; exact ai3
    have hI : vp_in (nI i) 300 := vp_in_nI (by omega) (by decide)
    refine am_run hX 6 _ _ _ _ ?_
    conv => whnf
    refine ⟨h0, ?_⟩
    conv => whnf
    rw [show (wF M n q t f g).1 141 (Int32.toNatClampNeg 0) = nI A.1 from h1.1]
    refine ⟨fun c => absurd c (nI_ge (by omega) (by omega)), fun _ => ?_⟩
    refine am_run hX 21 _ _ _ _ ?_
    conv => whnf
    iterate 3
      refine ⟨hI, ?_⟩
      conv => whnf
    rw [ai1, ai2, ai3, e1]
    refine am_cq (ct_atR (d := d) (M := M) hw (by omega) ka (by omega)) ?_
    rintro r' M' ⟨rfl, n2, q2, t2, kk2, h2, hw2, rfl⟩
    refine ⟨none, rfl, ?_⟩
    conv => whnf
    exact lr_2 (d := d) (M := M) (i := i) hX hj hu h1 oA hiA (by omega) hw2 (wkS_s (K := fun i l => A.2.2.1 i ^^^ (ldS j u).2.2.1 l) (T := tP A (ldS j u)) (U := tQ A (ldS j u)) (j := 0) hS) fun n3 q t f g kk y1 y2 y3 => ih (i + 1) n3 q t f g kk (by omega) (by omega) y2 y3
set_option maxRecDepth 100000 in
theorem lm_1 {j c : Nat} {up u : Int32} {κ : Nat → Nat} (hj : j < 8) (hu : up = 0 ∧ u = 1 ∨ up = 1 ∧ u = -1) (h1 : rsS M 0 A) (oA : orS A) (hw : wkM M) (he : enX (fun x => dbl (fun i l => A.2.2.1 i ^^^ (ldS j u).2.2.1 l) (tP A (ldS j u)) 2 x A.1) (fun x => dbl (fun i l => A.2.2.1 i ^^^ (ldS j u).2.2.1 l) (tQ A (ldS j u)) 2 x A.1) c κ) : am_M (d + 4) false nm_X12_ladder [aR 108, aI (nI j), aI up] M (ssE (th0 M) (fun x => dbl (fun i l => A.2.2.1 i ^^^ (ldS j u).2.2.1 l) (tP A (ldS j u)) 2 x A.1) (fun x => dbl (fun i l => A.2.2.1 i ^^^ (ldS j u).2.2.1 l) (tQ A (ldS j u)) 2 x A.1) (A.2.1 + 1) c κ) := by
  obtain ⟨n0, kk0, hn0, hw⟩ := wkM_th hw
  have h1 : rsS (th0 M) 0 A := rsS_th h1
  have h0 : vp_in 0 2 := vp_in_nI (n := 0) (N := 2) (by decide) (by decide)
  have u1 := oA.2.1
  refine ⟨rfl, rfl, rfl, fun X hX => am_run hX 10 _ _ _ _ ?_⟩
  conv => whnf
  refine ⟨fun c => absurd c (nI_pos (by omega)), fun _ => ?_⟩
  conv => whnf
  refine ⟨fun _ => ?_, fun c => absurd (nI_le (a := j) (b := 7) (by omega) (by decide)) c⟩
  conv => whnf
  have hcl := ct_clrR (d := d + 2) (M := th0 M) hw
  rw [wF_self hn0] at hcl
  refine am_cq hcl ?_
  rintro r M' ⟨rfl, tc, fc, gc, hz, rfl⟩
  refine ⟨none, rfl, ?_⟩
  conv => whnf
  refine am_run hX 12 _ _ _ _ ?_
  conv => whnf
  refine lr_l (d := d + 1) (M := th0 M) hX hj hu h1 oA (fun n q t f g kk y1 y2 => ?_) A.1 0 0 _ tc fc gc (fun _ => 0) (by omega) (by omega) (wkO_0 hz) (wkS_0 fun x hx => ⟨(hz x hx).2.1, (hz x hx).2.2⟩)
  refine am_run hX 20 _ _ _ _ ?_
  conv => whnf
  refine ⟨h0, ?_⟩
  conv => whnf
  rw [show (wF (th0 M) n q t f g).1 142 (Int32.toNatClampNeg 0) = nI A.2.1 from h1.2.1, nI_1]
  refine am_cq (ct_ssumR (d := d) (M := th0 M) y1 (over := A.2.1 + 1) (by omega) (fun x hx => ?_) he) ?_
  · obtain ⟨z1, z2⟩ := y2 x hx
    rw [z1, z2]
    exact ⟨Int64.add_zero _, Int64.add_zero _⟩
  · intro r M' hE
    have hE' := hE
    obtain ⟨_, _, _, ⟨_, rfl, _⟩ | ⟨_, rfl, _⟩⟩ := hE'
    all_goals (
      refine ⟨_, rfl, ?_⟩
      conv => whnf
      exact ⟨trivial, hE⟩)
end LDR
section LDP
variable {ac : Nat → ClassId} {lo : Nat} {ad as : Nat → Nat} {b L : Nat} {xs : Nat → Int32} {hp : mm_M → Nat → xm_H} {I J : mm_M → Prop}
theorem pr_ladder (H : mm_L ac lo hp) (h1 : ∀ M, I M → smI M) (hJ : ∀ M N M', I M → csF M N → rsF N M' → smI M' → J M') (p up : Int32) (hup : up = 0 ∨ up = 1) : la_I ac lo ad as b L xs hp I J nm_X11_ladder nm_X12_ladder [.int p, .int up] := by
  refine am_la_I (us := [aI p, aI up]) H fun M hI => ?_
  have hs := h1 M hI
  obtain ⟨a, b, A, B, hr, c1, c2, r1, r2, o1, o2, hw, hz⟩ := hs
  by_cases hd : p < 0 ∨ 8 ≤ p
  · refine am_wk (lx_d (d := 999) hd) fun r M1 e => ⟨_, e.1, ?_⟩
    rw [e.2]
    exact am_wk (lm_d (d := 999) hd) fun r M2 e => ⟨e.1, by rw [e.2]; exact hJ M M _ hI (csF_r M) rsF_th (smI_th (h1 M hI))⟩
  · obtain ⟨j, hj, rfl⟩ := wire_n (s := p) (w := 8) (by decide) ⟨fun z => hd (Or.inl z), fun z => hd (Or.inr z)⟩
    obtain ⟨u, hu⟩ : ∃ u : Int32, up = 0 ∧ u = 1 ∨ up = 1 ∧ u = -1 := by
      rcases hup with h | h
      · exact ⟨1, Or.inl ⟨h, rfl⟩⟩
      · exact ⟨-1, Or.inr ⟨h, rfl⟩⟩
    have hab := hr.1
    have f2 : f2M M (ldM M j u) := f2M_l
    have hrN := sm_rG (f2M_G f2) hr
    have c1N := f2M_c f2 (by omega) (by decide) c1
    have c2N := f2M_c f2 (by omega) (by decide) c2
    have hzN : ∀ z, z < 256 → (ldM M j u).2 101 z = 0 ∧ (ldM M j u).2 102 z = 0 := fun z h => by
      rw [f2.2.1]
      exact hz z h
    have hrN0 := hrN
    obtain ⟨_, ⟨a1, _, a3⟩, ⟨b1, _, b3⟩, ⟨d1, _, d3⟩⟩ := hrN0
    have km := ct_mulC (d := 994) (lr := 0) (lp := a) (rr := 2) (rp := 2) (T := ldS j u) hrN (by unfold prR; omega) ⟨⟨a1, b1, d1⟩, ⟨a3, b3, d3⟩⟩ c1N csl_l c1N (okS_or o1) (orS_l hj) hzN
    have kt := ct_tlC (d := 996) (M := M) (j := j) (up := up) (u := u) hj hu hr.2.1.2.2 hr.2.2.1.2.2 hr.2.2.2.2.2 km (by
      rintro r M' ⟨_, _, _, _, _, _, _, ⟨_, rfl, _⟩ | ⟨_, rfl, _⟩⟩
      · exact ⟨1, rfl, Or.inr rfl⟩
      · exact ⟨0, rfl, Or.inl rfl⟩)
    refine lx_g (d := 998) hj kt ?_
    rintro r M1 ⟨c, κ, he, f1, ⟨g1, g2, g3⟩, hz1, f3, hE⟩
    have f1 := csF_t (f2M_F f2) f1
    have gg := f2M_G f2
    have n1 := rsS_cs f1 r1
    have nw := wkM_cs f1 hw
    rcases hE with ⟨y1, rfl, y3⟩ | ⟨y1, rfl, y3⟩
    · refine Or.inl ⟨rfl, _, rfl, am_wk (lm_1 (d := 996) hj hu n1 (okS_or o1) nw he) ?_⟩
      intro r M2 hE
      obtain ⟨t1, t2, t3⟩ := ss_fin hr (g1.trans gg.1) (g2.trans gg.2.1) (g3.trans gg.2.2.1) hz1 f1 r1 r2 o1 o2 (f3 B c2N) (Or.inl ⟨y1, rfl, y3⟩) he hE
      exact ⟨by rw [t1, y3.1]; rfl, hJ M M1 _ hI f1 t2 t3⟩
    · refine Or.inr ⟨rfl, _, rfl, am_wk (lm_1 (d := 996) hj hu n1 (okS_or o1) nw he) ?_⟩
      intro r M2 hE
      obtain ⟨t1, t2, t3⟩ := ss_fin hr (g1.trans gg.1) (g2.trans gg.2.1) (g3.trans gg.2.2.1) hz1 f1 r1 r2 o1 o2 (f3 B c2N) (Or.inr ⟨y1, rfl, y3⟩) he hE
      exact ⟨t1, hJ M M1 _ hI f1 t2 t3⟩
end LDP
