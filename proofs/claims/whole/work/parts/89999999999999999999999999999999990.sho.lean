/-! SHORTEST: the reference's layShortest whole -/
theorem dvrF_w {n : Nat} {M N : mm_M} (h : fwG M N) : dvrF n M N := ⟨fun k a _ c => h.1 k a (by omega), h.2.1, fun y _ _ _ e => h.2.2 y e, fun k a b c _ => by rw [h.1 k (by omega) (by omega)]⟩
theorem dvrF_g {n : Nat} {M N : mm_M} (h : g45 M N) : dvrF n M N := ⟨fun k a _ _ => h.1 k a, h.2.1, fun y _ _ _ e => h.2.2 y (by omega) (by omega) (by omega), fun k a b c _ => by rw [h.1 k (by omega)]⟩
theorem dvrF_2 {n : Nat} {M N : mm_M} (h : ltF M N) : dvrF n M N := ⟨fun k a _ c => h.1 k (by omega), h.2, fun y _ _ _ e => by rw [h.1 108 (by decide)], fun k a b c _ => by rw [h.1 k (by omega)]⟩
theorem kT_s {l : List bk_X} {j : Nat} (hj : j < l.length) : szP (gC (zg l j)) (szA ((l.take j).map gC) k4e) = szA ((l.take (j + 1)).map gC) k4e := by
  rw [zg_tk hj, List.map_append, szA_a]
  rfl
section SHO
variable {d : Nat} {M : mm_M} {n c : Nat} {l : List bk_X}
set_option maxRecDepth 100000 in
theorem ls_l {P : am_Q} {X : am_X} (hX : am_K (d + 6) false nm_X12_layShortest P X) (hc : c < 20) (hl : opsL M c 2 l) (ho : allO 2 l) (hp : plA l) (hK : ∀ N, g45 M N → X 66 [some (aR 108), some (aI (nI c)), some (aI (nI (kK (szA (l.map gC) k4e)))), some (aI (nI (300 * c + l.length)))] [] N) : ∀ (m j : Nat) (N : mm_M), j + m = l.length → g45 M N → X 14 [some (aR 108), some (aI (nI c)), some (aI (nI (kK (szA ((l.take j).map gC) k4e)))), some (aI (nI (300 * c + j)))] [] N := by
  have hl3 := hl.2.2.1
  have e3 : (300 : Int32) * nI c + nI l.length = nI (300 * c + l.length) := by rw [show (300 : Int32) = nI 300 from rfl, nI_mul, nI_add]
  intro m
  induction m with
  | zero =>
    intro j N hj hF
    obtain rfl : j = l.length := by omega
    refine am_run hX 10 _ _ _ _ ?_
    conv => whnf
    refine ⟨vp_in_nI (by show c < 21; omega) (by decide), ?_⟩
    conv => whnf
    rw [nI_clamp (n := c) (by omega), hF.1 111 (by decide), hl.2.1, e3]
    refine ⟨fun _ => ?_, fun z => absurd (nI_le (Nat.le_refl _) (by omega)) z⟩
    have := hK N hF
    rw [List.take_length]
    exact this
  | succ m ih =>
    intro j N hj hF
    have jl : j < l.length := by omega
    obtain ⟨_, _, o2, o3, o4, o5, _⟩ := hl.2.2.2 j jl
    refine am_run hX 10 _ _ _ _ ?_
    conv => whnf
    refine ⟨vp_in_nI (by show c < 21; omega) (by decide), ?_⟩
    conv => whnf
    rw [nI_clamp (n := c) (by omega), hF.1 111 (by decide), hl.2.1, e3]
    refine ⟨fun z => absurd z (nI_ge (by omega) (by omega)), fun _ => ?_⟩
    refine am_run hX 19 _ _ _ _ ?_
    conv => whnf
    refine ⟨vp_in_nI (by show 300 * c + j < 6300; omega) (by decide), ?_⟩
    conv => whnf
    refine ⟨vp_in_nI (by show 300 * c + j < 6300; omega) (by decide), ?_⟩
    conv => whnf
    refine ⟨vp_in_nI (by show 300 * c + j < 6300; omega) (by decide), ?_⟩
    conv => whnf
    refine ⟨vp_in_nI (by show 300 * c + j < 6300; omega) (by decide), ?_⟩
    conv => whnf
    rw [nI_clamp (n := 300 * c + j) (by omega), hF.1 112 (by decide), hF.1 113 (by decide), hF.1 114 (by decide), hF.1 115 (by decide), o2, o3, o4, o5]
    refine am_cq (ct_thr (d := d + 2) (M := N) (x := zg l j) (k := szA ((l.take j).map gC) k4e) (ho j jl).1 (plB_p (hp j jl)) (szA_k _ k4e_k)) fun r1 N1 hq => ?_
    obtain ⟨rfl, f1⟩ := hq
    refine ⟨_, rfl, ?_⟩
    refine am_run hX 3 _ _ _ _ ?_
    conv => whnf
    rw [nI_1, kT_s jl]
    exact ih (j + 1) N1 (by omega) (g45_t hF f1)
end SHO
set_option maxRecDepth 100000 in
theorem shR_Z : shR rsZ shZ := by
  intro K n c l hs h6 hn hc hl ho ok hp hL
  have hl3 := hl.2.2.1
  refine ⟨rfl, rfl, rfl, fun X hX => am_run hX 2 _ _ _ _ ?_⟩
  conv => whnf
  refine am_cq (ct_fTwos (d := 992) (M := K) hs) fun r1 N1 hq => ?_
  obtain ⟨rfl, f1, e48, t, T, fr, yb, B, hI⟩ := hq
  refine ⟨none, rfl, ?_⟩
  refine am_run hX 1 _ _ _ _ ?_
  conv => whnf
  refine am_c1 (ct_sTwo (d := 997)) ?_
  refine am_run hX 5 _ _ _ _ ?_
  conv => whnf
  rw [show (300 : Int32) * nI c = nI (300 * c + 0) from by rw [show (300 : Int32) = nI 300 from rfl, nI_mul]; rfl]
  have hl1 : opsL N1 c 2 l := by
    refine ⟨by rw [f1.1 11 (by decide) (by decide)]; exact hl.1, by rw [f1.1 111 (by decide) (by decide)]; exact hl.2.1, hl3, fun j hj => ⟨(hl.2.2.2 j hj).1, ?_⟩⟩
    have := (hl.2.2.2 j hj).2
    unfold bk_o at this ⊢
    rw [f1.1 10 (by decide) (by decide), f1.1 112 (by decide) (by decide), f1.1 113 (by decide) (by decide), f1.1 114 (by decide) (by decide), f1.1 115 (by decide) (by decide), f1.1 116 (by decide) (by decide), f1.1 117 (by decide) (by decide)]
    exact this
  refine ls_l (d := 992) (M := N1) hX (by omega) hl1 ho hp (fun N2 f2 => ?_) l.length 0 N1 (by omega) (g45_r N1)
  have hI2 := fwI_g f2 hI
  have hu := al_C ho hp
  obtain ⟨i, hi, ei, hw⟩ := isL_T hI2.1 (fun j h a b => hI2.2.2.2.2.2.2 j h a b (Or.inl a)) hu
  have h14 := isL_14 hu hw
  refine am_run hX 4 _ _ _ _ ?_
  conv => whnf
  refine am_cq (ct_fTwo (d := 996) (M := N2) (t := szA (l.map gC) k4e) hI2.2.1 (szA_k _ k4e_k)) fun r2 N3 hq => ?_
  obtain ⟨rfl, ⟨p, hpn, ep, rfl⟩ | ⟨hno, rfl⟩⟩ := hq
  · obtain rfl : p = i := hI2.1.2.2.2.1 p i hpn hi (ep.trans ei.symm)
    refine ⟨_, rfl, ?_⟩
    refine am_run hX 1 _ _ _ _ ?_
    conv => whnf
    have e6 : N3.1 108 6 = nI n := by
      rw [f2.2.2 6 (by decide) (by decide) (by decide), f1.2.2 6 (by decide)]
      exact h6
    have hL2 : llw N3 n [] := by
      obtain ⟨a, b, c', _⟩ := hL
      refine ⟨?_, ?_, ?_, fun j hj => absurd hj (Nat.not_lt_zero _)⟩
      · rw [f2.2.2 36 (by decide) (by decide) (by decide), f1.2.2 36 (by decide)]; exact a
      · rw [f2.2.2 37 (by decide) (by decide) (by decide), f1.2.2 37 (by decide)]; exact b
      · rw [f2.2.2 38 (by decide) (by decide) (by decide), f1.2.2 38 (by decide)]; exact c'
    refine am_cq (ct_layTwo (d := 996) (M := N3) (b := n) hI2 hi e6 hn hL2 hw.1 h14) fun r3 N4 hq => ?_
    obtain ⟨rfl, N5, f5, rfl⟩ := hq
    refine ⟨none, rfl, ?_⟩
    refine am_run hX 1 _ _ _ _ ?_
    conv => whnf
    have m1 := mqF_l (n := n) (M := N5) ((wdB fr yb p p).map stX)
    refine ⟨trivial, rfl, dvrF_t (dvrF_t (dvrF_t (dvrF_w f1) (dvrF_g f2)) (dvrF_2 f5)) (dvrF_m m1), ?_, ?_⟩
    · have e48' : N5.1 108 48 = 1 := by
        rw [f5.1 108 (by decide), f2.2.2 48 (by decide) (by decide) (by decide)]
        exact e48
      have hz : rsZ N5 := by
        refine Or.inr ⟨e48', t, T, fr, yb, B, ?_⟩
        obtain ⟨a1, a2, a3, a4, a5, a6⟩ := hI2
        refine ⟨a1, ?_, a3, fun j b c => by rw [f5.1 137 (by decide)]; exact a4 j b c, fun j b => by rw [f5.1 138 (by decide)]; exact a5 j b, a6⟩
        unfold twT at a2 ⊢
        rw [f5.1 108 (by decide), f5.1 136 (by decide), f5.1 139 (by decide)]
        exact a2
      exact rsZ_k N5 _ hz (fun k a b => m1.1 k (by omega) (by omega) (by omega)) (fun y a b => m1.2.2.1 y (by omega) (by omega) (by omega)) (fun k _ => by rw [m1.2.1])
    · rw [shZ_w hw]
      exact llw_n (llw_l N5 n _)
  · exact absurd ei (hno i hi)
