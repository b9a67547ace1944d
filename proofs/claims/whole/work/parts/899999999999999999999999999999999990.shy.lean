/-! SHORTEST: the class's prepare -/
def shF (M N : mm_M) : Prop := (∀ k, (k < 57 ∨ 64 < k) → N.1 k = M.1 k) ∧ (∀ k, k ≠ 64 → N.2 k = M.2 k) ∧ ∀ y, y ≠ 9 → N.1 57 y = M.1 57 y
theorem shF_r (M : mm_M) : shF M M := ⟨fun _ _ => rfl, fun _ _ => rfl, fun _ _ => rfl⟩
theorem shF_t {M N K : mm_M} (h : shF M N) (g : shF N K) : shF M K := ⟨fun k a => (g.1 k a).trans (h.1 k a), fun k a => (g.2.1 k a).trans (h.2.1 k a), fun y a => (g.2.2 y a).trans (h.2.2 y a)⟩
theorem shF_4 {M N : mm_M} (h : f4F M N) : shF M N := ⟨fun k a => h.1 k (by omega), fun k _ => by rw [h.2], fun y _ => by rw [h.1 57 (by decide)]⟩
theorem shF_w {M N : mm_M} (h : spW4 M N) : shF M N := ⟨fun k a => h.1 k (by omega) (by omega), h.2.1, h.2.2⟩
/-- the gates of the table, as OPS -/
def stO (t : Nat) : bk_X := if t < 5 then stX t else (6, t - 5, 0, 0, 0, 0)
theorem stO_p : ∀ t, t < 7 → xp_a2.getD t 0 = nI (bk_p (stO t)) ∧ gC (stO t) = sgT t := by decide +kernel
theorem stO_o {t : Nat} (h : t < 7) : ogd 2 (stO t) := by
  rcases (by omega : t = 0 ∨ t = 1 ∨ t = 2 ∨ t = 3 ∨ t = 4 ∨ t = 5 ∨ t = 6) with rfl | rfl | rfl | rfl | rfl | rfl | rfl
  all_goals (unfold ogd bk_w; decide)
theorem stO_l {t : Nat} (h : t < 7) : pln (stO t) := by
  rcases (by omega : t = 0 ∨ t = 1 ∨ t = 2 ∨ t = 3 ∨ t = 4 ∨ t = 5 ∨ t = 6) with rfl | rfl | rfl | rfl | rfl | rfl | rfl
  all_goals (unfold pln; decide)
theorem sgT_19 : ∀ t, t < 7 → sgT t < 19 := by decide
theorem py_v : ∀ g, g < 19 → ∀ r, r < 32 → nI (dcR (szR g (r % 16))).1 ||| nI (dcR (szR g (r % 16))).2.1 <<< ((2 : Int32) &&& 31) ||| (nI (dcR (szR g (r % 16))).2.2 ^^^ nI (r / 16)) <<< ((4 : Int32) &&& 31) = nI (szR g r) := by decide +kernel
theorem dcR_m (i : Nat) : dcR (i % 16) = (i % 4, i / 4 % 4, 0) := by
  show (i % 16 % 4, i % 16 / 4 % 4, i % 16 / 16) = _
  rw [show i % 16 % 4 = i % 4 by omega, show i % 16 / 4 % 4 = i / 4 % 4 by omega, show i % 16 / 16 = 0 by omega]
def pyF (M N : mm_M) : Prop := (∀ k, (k < 58 ∨ 62 < k) → N.1 k = M.1 k) ∧ N.2 = M.2
section SHY
variable {d : Nat} {M : mm_M}
set_option maxRecDepth 100000 in
theorem py_l {P : am_Q} {X : am_X} (hX : am_K (d + 4) false nm_X2_prepare P X) (hK : ∀ N k, pyF M N → k4 k → fr4 N k → stpd N → X 101 [some (aR 57), some (aI (nI 224))] [] N) : ∀ (m i : Nat) (N : mm_M) (k : K4), i + m = 224 → pyF M N → k4 k → fr4 N k → (∀ j, j < i → N.1 62 j = nI (szR (sgT (j / 32)) (j % 32))) → X 11 [some (aR 57), some (aI (nI i))] [] N := by
  intro m
  induction m with
  | zero =>
    intro i N k hi hF hk h4 hS
    obtain rfl : i = 224 := by omega
    refine am_run hX 5 _ _ _ _ ?_
    conv => whnf
    refine ⟨fun _ => ?_, fun z => absurd (by decide) z⟩
    exact hK N k hF hk h4 hS
  | succ m ih =>
    intro i N k hi hF hk h4 hS
    have i2 : i < 224 := by omega
    have t7 : i / 32 < 7 := by omega
    obtain ⟨s1, s2⟩ := stO_p (i / 32) t7
    refine am_run hX 5 _ _ _ _ ?_
    conv => whnf
    refine ⟨fun z => absurd z (nI_ge (a := i) (b := 224) i2 (by decide)), fun _ => ?_⟩
    refine am_run hX 12 _ _ _ _ ?_
    conv => whnf
    rw [nI_m3, show (2 : Int32) = nI 2 from rfl, nI_sh (by omega) 2 (by decide), nI_m3]
    refine am_c0 (ct_sr58 (d := d + 3) (r := 0) (nI (i % 4)) (nI (i / 2 ^ 2 % 4)) (by decide) h4.1 (by decide)) ?_
    generalize hN1 : sr4 N 0 _ _ _ = N1
    have f1 : f4F N N1 := by rw [← hN1]; exact sr4_F _ _ _ _ _
    have g1 : fr4 N1 (i % 16, k.2.1, k.2.2.1, k.2.2.2) := by
      refine ⟨by rw [← hN1, sr4_3]; rfl, fun j hj => ?_⟩
      by_cases c : j = 0
      · subst c
        show r4f N1 0 (dcR (i % 16))
        rw [dcR_m, ← hN1]
        exact sr4_r _
      · have e : rwK (i % 16, k.2.1, k.2.2.1, k.2.2.2) j = rwK k j := by
          unfold rwK
          rw [if_neg c, if_neg c]
        rw [e, ← hN1]
        exact sr4_o (h4.2 j hj) c
    have k1 : k4 (i % 16, k.2.1, k.2.2.1, k.2.2.2) := ⟨by show i % 16 < 32; omega, hk.2⟩
    refine am_run hX 8 _ _ _ _ ?_
    conv => whnf
    rw [show (5 : Int32) = nI 5 from rfl, nI_sh (by omega) 5 (by decide)]
    refine ⟨vp_in_nI (by show i / 2 ^ 5 < 7; omega) (by decide), ?_⟩
    conv => whnf
    rw [nI_clamp (n := i / 2 ^ 5) (by omega), show i / 2 ^ 5 = i / 32 from rfl]
    dsimp only
    rw [s1]
    refine am_cq (ct_t4O (d := d) (stO_o t7) (stO_l t7) k1 g1) ?_
    rintro r2 N2 ⟨rfl, f2, g2⟩
    refine ⟨none, rfl, ?_⟩
    rw [s2] at g2
    obtain ⟨x1, x2, x3⟩ := g2.2 0 (by decide)
    have x1 : N2.1 59 0 = nI (dcR (szR (sgT (i / 32)) (i % 32 % 16))).1 := by rw [show i % 32 % 16 = i % 16 by omega]; exact x1
    have x2 : N2.1 60 0 = nI (dcR (szR (sgT (i / 32)) (i % 32 % 16))).2.1 := by rw [show i % 32 % 16 = i % 16 by omega]; exact x2
    have x3 : N2.1 61 0 = nI (dcR (szR (sgT (i / 32)) (i % 32 % 16))).2.2 := by rw [show i % 32 % 16 = i % 16 by omega]; exact x3
    have ev := py_v (sgT (i / 32)) (sgT_19 _ t7) (i % 32) (by omega)
    refine am_run hX 33 _ _ _ _ ?_
    conv => whnf
    refine ⟨i4_0, ?_⟩
    conv => whnf
    refine ⟨i4_0, ?_⟩
    conv => whnf
    refine ⟨i4_0, ?_⟩
    conv => whnf
    refine ⟨vp_in_nI i2 (by decide), ?_⟩
    rw [show nI i >>> ((4 : Int32) &&& 31) &&& 1 = nI (i % 32 / 16) from by
      rw [show (4 : Int32) = nI 4 from rfl, nI_sh (by omega) 4 (by decide), nI_m1]
      congr 1
      omega]
    rw [show N2.1 59 (Int32.toNatClampNeg 0) = N2.1 59 0 from rfl, show N2.1 60 (Int32.toNatClampNeg 0) = N2.1 60 0 from rfl, show N2.1 61 (Int32.toNatClampNeg 0) = N2.1 61 0 from rfl, x1, x2, x3, ev, nI_clamp (n := i) (by omega)]
    generalize hN3 : mm_i N2 62 _ = N3
    have f3 : ∀ j, j ≠ 62 → N3.1 j = N2.1 j := fun j hj => by rw [← hN3, mm_ne _ _ _ _ hj]
    conv => whnf
    rw [nI_1]
    refine ih (i + 1) N3 (szP (sgT (i / 32)) (i % 16, k.2.1, k.2.2.1, k.2.2.2)) (by omega) ⟨fun j hj => ?_, ?_⟩ (szP_k _ _) ⟨by rw [f3 58 (by decide)]; exact g2.1, fun j hj => ?_⟩ (fun j hj => ?_)
    · rw [f3 j (by omega), f2.1 j (by omega), f1.1 j (by omega)]
      exact hF.1 j hj
    · rw [← hN3]
      exact (f2.2.trans f1.2).trans hF.2
    · obtain ⟨y1, y2, y3⟩ := g2.2 j hj
      exact ⟨by rw [f3 59 (by decide)]; exact y1, by rw [f3 60 (by decide)]; exact y2, by rw [f3 61 (by decide)]; exact y3⟩
    · rw [← hN3, mm_i1]
      by_cases c : j = i
      · subst c
        exact up_at
      · rw [up_ne c, f2.1 62 (by decide), f1.1 62 (by decide)]
        exact hS j (by omega)
end SHY
theorem nb_1 : ∀ s, s < 16 → nb 1 s = if s = 0 then 1 else 0 := by decide +kernel
theorem nb_0 (s : Nat) : nb 0 s = 0 := by
  show 0 / 2 ^ (4 * s) % 16 = 0
  rw [Nat.zero_div]
theorem dlx_0 : dlS stZ k4e k4e 0 := ⟨⟨[], fun g hg => absurd hg List.not_mem_nil, rfl, rfl⟩, fun _ _ _ => Nat.zero_le _⟩
theorem dl_z {k : K4} (h : dlS stZ k4e k 0) : k = k4e := by
  obtain ⟨⟨w, _, w2, w3⟩, _⟩ := h
  have : w = [] := List.length_eq_zero_iff.mp w2
  rw [this] at w3
  exact w3
/-- the table with no gate alone -/
theorem tbD_0 {M : mm_M} (h1 : M.1 63 (rkK k4e) = nI (kK k4e)) (h2 : M.2 64 (rkK k4e) = 1) (h3 : ∀ r, r < 720 → r ≠ rkK k4e → M.2 64 r = 0) : tbD M 0 := by
  refine ⟨fun r s hr hs h0 => ?_, fun k x hk hx hd => ?_⟩
  · by_cases c : r = rkK k4e
    · subst c
      rw [h2, nb_1 s hs] at h0 ⊢
      by_cases c2 : s = 0
      · subst c2
        exact ⟨k4e, 0, sym_e, rfl, rfl, h1, by decide, dlx_0, rfl⟩
      · rw [if_neg c2] at h0
        exact absurd rfl h0
    · rw [h3 r hr c, nb_0] at h0
      exact absurd rfl h0
  · obtain rfl : x = 0 := by omega
    rw [dl_z hd]
    unfold dOf
    rw [h2]
    exact nb_1 0 (by decide)
/-- what the class keeps of SHORTEST -/
def scZ (M : mm_M) : Prop := (∃ v, v ≤ 4 ∧ M.1 58 3 = nI v) ∧ ((M.1 57 9 = -1 ∧ ∀ r, r < 720 → M.2 64 r = 0) ∨ ∃ m, m ≤ 14 ∧ M.1 57 9 = nI m ∧ stpd M ∧ tbD M m)
theorem tbD_F {M N : mm_M} {m : Nat} (h : tbD M m) (e1 : N.1 63 = M.1 63) (e2 : N.2 64 = M.2 64) : tbD N m := by
  unfold tbD dOf at h ⊢
  rw [e1, e2]
  exact h
theorem scZ_F {M N : mm_M} (h : scZ M) (e0 : N.1 57 9 = M.1 57 9) (e1 : ∀ k, 58 ≤ k → k ≤ 63 → N.1 k = M.1 k) (e2 : N.2 64 = M.2 64) : scZ N := by
  obtain ⟨⟨v, v4, hv⟩, h | ⟨m, m1, m2, m3, m4⟩⟩ := h
  · exact ⟨⟨v, v4, by rw [e1 58 (by decide) (by decide)]; exact hv⟩, Or.inl ⟨e0.trans h.1, fun r hr => by rw [e2]; exact h.2 r hr⟩⟩
  · exact ⟨⟨v, v4, by rw [e1 58 (by decide) (by decide)]; exact hv⟩, Or.inr ⟨m, m1, e0.trans m2, fun i hi => by rw [e1 62 (by decide) (by decide)]; exact m3 i hi, tbD_F m4 (e1 63 (by decide) (by decide)) e2⟩⟩
theorem scZ_k : scK scZ := fun M N h e => scZ_F h (by rw [(e 57 (by decide) (by decide)).1]) (fun k a b => (e k (by omega) (by omega)).1) (e 64 (by decide) (by decide)).2
section SHZ
variable {d : Nat} {M : mm_M} {k : K4}
set_option maxRecDepth 100000 in
theorem ct_prep (hk : k4 k) (h4 : fr4 M k) (h : (M.1 57 9 = -1 ∧ ∀ r, r < 720 → M.2 64 r = 0) ∨ ∃ m, m ≤ 14 ∧ M.1 57 9 = nI m ∧ stpd M ∧ tbD M m) : am_M (d + 5) false nm_X2_prepare [aR 57] M (fun r N => r = .inl none ∧ shF M N ∧ N.1 58 3 = nI 4 ∧ ∃ m, m ≤ 14 ∧ N.1 57 9 = nI m ∧ stpd N ∧ tbD N m) := by
  refine ⟨rfl, rfl, rfl, fun X hX => am_run hX 4 _ _ _ _ ?_⟩
  conv => whnf
  rcases h with ⟨h9, hz⟩ | ⟨m, m1, m2, m3, m4⟩
  · rw [h9]
    refine ⟨fun _ => ?_, fun z => absurd rfl z⟩
    refine am_run hX 2 _ _ _ _ ?_
    conv => whnf
    refine py_l (d := d) (M := M) hX (fun N k' hF hk' g4 hS => ?_) 224 0 M k (by omega) ⟨fun _ _ => rfl, rfl⟩ hk h4 (fun j hj => absurd hj (Nat.not_lt_zero _))
    refine am_run hX 2 _ _ _ _ ?_
    conv => whnf
    refine am_cq (ct_sF (d := d + 2) g4.1 (by decide)) ?_
    rintro r1 N1 ⟨rfl, f1, g1⟩
    refine ⟨none, rfl, ?_⟩
    refine am_run hX 2 _ _ _ _ ?_
    conv => whnf
    refine am_c1 (ct_kF (d := d + 3) k4e_k g1) ?_
    refine am_run hX 5 _ _ _ _ ?_
    conv => whnf
    refine am_c1 (ct_rkO (d := d + 1) sym_e) ?_
    have hr := rkK_l sym_e
    refine am_run hX 6 _ _ _ _ ?_
    conv => whnf
    refine ⟨vp_in_nI hr (by decide), ?_⟩
    conv => whnf
    rw [nI_clamp (n := rkK k4e) (by omega)]
    generalize hN2 : mm_i N1 63 _ = N2
    refine am_c1 (ct_rkO (d := d + 1) sym_e) ?_
    refine am_run hX 6 _ _ _ _ ?_
    conv => whnf
    refine ⟨vp_in_nI hr (by decide), ?_⟩
    conv => whnf
    rw [nI_clamp (n := rkK k4e) (by omega)]
    generalize hN3 : mm_l N2 64 _ = N3
    generalize hN4 : mm_i N3 57 _ = N4
    have e1 : ∀ j, j ≠ 57 → j ≠ 63 → N4.1 j = N1.1 j := fun j a b => by
      rw [← hN4, mm_ne _ _ _ _ a, ← hN3, mm_l1, ← hN2, mm_ne _ _ _ _ b]
    have e3 : ∀ y, y ≠ 9 → N4.1 57 y = N1.1 57 y := fun y hy => by
      rw [← hN4, mm_i1, up_ne hy, ← hN3, mm_l1, ← hN2, mm_ne _ _ _ _ (by decide)]
    have e9 : N4.1 57 9 = nI 0 := by
      rw [← hN4, mm_i1]
      exact up_at
    have e63 : N4.1 63 (rkK k4e) = nI (kK k4e) := by
      rw [← hN4, mm_ne _ _ _ _ (by decide), ← hN3, mm_l1, ← hN2, mm_i1]
      exact up_at
    have e64 : N4.2 64 = vp_updL (N1.2 64) (rkK k4e) 1 := by
      rw [← hN4]
      show N3.2 64 = _
      rw [← hN3, mm_l2, ← hN2]
      rfl
    have e2 : ∀ j, j ≠ 64 → N4.2 j = N1.2 j := fun j hj => by
      rw [← hN4]
      show N3.2 j = _
      rw [← hN3, mm_lne _ _ _ _ hj, ← hN2]
      rfl
    refine ⟨trivial, rfl, ?_, ?_, 0, by decide, e9, ?_, ?_⟩
    · refine ⟨fun j hj => ?_, fun j hj => ?_, fun y hy => ?_⟩
      · rw [e1 j (by omega) (by omega), f1.1 j (by omega), hF.1 j (by omega)]
      · rw [e2 j hj, f1.2, hF.2]
      · rw [e3 y hy, f1.1 57 (by decide), hF.1 57 (by decide)]
    · rw [e1 58 (by decide) (by decide)]
      exact g1.1
    · intro j hj
      rw [e1 62 (by decide) (by decide), f1.1 62 (by decide)]
      exact hS j hj
    · refine tbD_0 e63 (by rw [e64]; exact upl_at) (fun r hr' hne => ?_)
      rw [e64, upl_ne hne, f1.2, hF.2]
      exact hz r hr'
  · rw [m2]
    refine ⟨fun z => absurd z (nI_nm (by omega)), fun _ => ?_⟩
    refine am_run hX 1 _ _ _ _ ?_
    conv => whnf
    exact ⟨trivial, rfl, shF_r M, h4.1, m, m1, m2, m3, m4⟩
end SHZ
