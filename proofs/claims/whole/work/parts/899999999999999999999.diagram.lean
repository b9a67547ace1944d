/-! diagram -/
section DGM
variable {d n c inp S : Nat} {N M : mm_M} {op : Nat → bk_X}
/-- what the reference may change when it draws -/
def dgF (N N' : mm_M) : Prop := (∀ k, k ≠ 108 → (k < 169 ∨ 173 < k) → N'.1 k = N.1 k) ∧ (∀ j, j ≠ 98 → j ≠ 99 → j ≠ 100 → j ≠ 106 → N'.1 108 j = N.1 108 j) ∧ N'.2 = N.2
theorem dgF_t {M N K : mm_M} (h : dgF M N) (h' : dgF N K) : dgF M K := ⟨fun k a b => (h'.1 k a b).trans (h.1 k a b), fun j a b c e => (h'.2.1 j a b c e).trans (h.2.1 j a b c e), h'.2.2.trans h.2.2⟩
theorem dgF_d {N N' : mm_M} (h : drF N N') : dgF N N' := ⟨h.1, fun j _ _ b _ => h.2.1 j b, h.2.2⟩
theorem dgF_p {j : Nat} {v : Int32} (hj : j = 98 ∨ j = 99 ∨ j = 100 ∨ j = 106) : dgF N (mm_i N 108 (upd (N.1 108) j v)) := by
  refine ⟨fun k a _ => if_neg a, fun i a b c e => ?_, rfl⟩
  show upd (N.1 108) j v i = N.1 108 i
  exact if_neg (by omega)
theorem cir_dg {N N' : mm_M} (hf : dgF N N') (h : cir N n c inp S op) : cir N' n c inp S op := by
  have e : ∀ k, k ≠ 108 → (k < 169 ∨ 173 < k) → N'.1 k = N.1 k := hf.1
  exact cir_e h (e 9 (by decide) (by decide)) (e 10 (by decide) (by decide)) (e 11 (by decide) (by decide)) (e 12 (by decide) (by decide)) (hf.2.1 6 (by decide) (by decide) (by decide) (by decide)) fun k a b => e k (by omega) (by omega)
theorem cir_th0 (h : cir N n c inp S op) : cir (th0 N) n c inp S op := h
/-- the DIAGRAM of a circuit -/
def dgmW (inp S : Nat) (op : Nat → bk_X) : WB := (fnS inp (drN (dr0 inp) op S) inp).2.1
def dg1 (N : mm_M) (inp : Nat) : mm_M := mm_i (mm_i (mm_i N 108 (upd (N.1 108) 99 (nI inp))) 108 (upd (upd (N.1 108) 99 (nI inp)) 100 (nI (2 * inp)))) 108 (upd (upd (upd (N.1 108) 99 (nI inp)) 100 (nI (2 * inp))) 106 0)
theorem dg1_F : dgF N (dg1 N inp) := dgF_t (dgF_p (Or.inr (Or.inl rfl))) (dgF_t (dgF_p (Or.inr (Or.inr (Or.inl rfl)))) (dgF_p (Or.inr (Or.inr (Or.inr rfl)))))
set_option maxRecDepth 100000 in
theorem ct_dgmR (h : cir N n c inp S op) : am_M (d + 6) false nm_X12_diagram [aR 108, aI (nI c)] N (fun r N' => (¬ drOK inp S op ∧ r = .inl (some (aI (-1))) ∧ N' = th0 N) ∨ (drOK inp S op ∧ r = .inl (some (aI (nI (2 * inp + dsm op S)))) ∧ dgF (th0 N) N' ∧ rwR N' inp (dgmW inp S op))) := by
  have hn20 := h.1.1
  have hcc := h.2.1
  have w1 := h.2.2.1.1
  have w8 := h.2.2.1.2.1
  have h6 : (th0 N).1 108 6 = nI n := h.1.2.2.1
  refine ⟨rfl, rfl, rfl, fun X hX => am_run hX 6 _ _ _ _ ?_⟩
  conv => whnf
  refine am_c1 (bk_isc (d := d + 4) (M := th0 N) (nI c)) ?_
  rw [h6, if_neg (bk_yes hn20 hcc)]
  conv => whnf
  refine am_run hX 1 _ _ _ _ ?_
  conv => whnf
  refine ⟨fun q => absurd q (by decide), fun _ => ?_⟩
  refine am_run hX 3 _ _ _ _ ?_
  conv => whnf
  refine am_cq (ct_cbd (d := d + 3) (cir_th0 h)) ?_
  rintro r N0 ⟨rfl, ⟨ok, rfl⟩ | ⟨no, rfl⟩⟩
  rotate_left
  · refine ⟨_, rfl, ?_⟩
    conv => whnf
    refine am_run hX 1 _ _ _ _ ?_
    conv => whnf
    refine ⟨fun q => absurd rfl q, fun _ => ?_⟩
    refine am_run hX 2 _ _ _ _ ?_
    conv => whnf
    exact ⟨trivial, Or.inl ⟨no, rfl, rfl⟩⟩
  refine ⟨_, rfl, ?_⟩
  conv => whnf
  refine am_run hX 1 _ _ _ _ ?_
  conv => whnf
  refine ⟨fun _ => ?_, fun q => absurd (by decide) q⟩
  refine am_run hX 2 _ _ _ _ ?_
  conv => whnf
  have i4 := ok.1
  have hm := ok.2.2
  have k1 := dv_1 (d := d + 5) (N := th0 N) (v1 := nI c) hX (fun f l2 hf => ?_) 3600 0 ((th0 N).1 171) (by omega) (fun j hj => absurd hj (Nat.not_lt_zero _))
  · rw [mm_iz] at k1
    exact k1
  have F1 : dgF (th0 N) (mm_i (th0 N) 171 f) := dgF_d (drF_i (by decide) (by decide))
  have h1 := cir_dg F1 (cir_th0 h)
  have hf : ∀ j, j < 3600 → (mm_i (th0 N) 171 f).1 171 j = 0 := hf
  generalize mm_i (th0 N) 171 f = N1 at *
  refine am_run hX 6 _ _ _ _ ?_
  conv => whnf
  refine ⟨vp_in_nI (by show c < 21; omega) (by decide), ?_⟩
  conv => whnf
  rw [nI_clamp (n := c) (by omega), h1.2.2.1.2.2.2.2.1]
  refine am_run hX 6 _ _ _ _ ?_
  conv => whnf
  rw [show (mm_i N1 108 (upd (N1.1 108) 99 (nI inp))).1 108 99 = nI inp from rfl, show (2 : Int32) = nI 2 from rfl, nI_mul]
  refine am_run hX 3 _ _ _ _ ?_
  conv => whnf
  refine ⟨⟨rfl, rfl⟩, ?_⟩
  conv => whnf
  show X 70 _ _ (dg1 N1 inp)
  have F2 : dgF (th0 N) (dg1 N1 inp) := dgF_t F1 dg1_F
  have h2 := cir_dg (dg1_F (inp := inp)) h1
  have a99 : (dg1 N1 inp).1 108 99 = nI inp := rfl
  have a100 : (dg1 N1 inp).1 108 100 = nI (2 * inp) := rfl
  have a106 : (dg1 N1 inp).1 108 106 = 0 := rfl
  have hf : ∀ j, j < 3600 → (dg1 N1 inp).1 171 j = 0 := hf
  generalize dg1 N1 inp = N2 at *
  refine am_run hX 2 _ _ _ _ ?_
  conv => whnf
  have k2 := dv_2 (d := d + 5) (N := N2) (v1 := nI c) (q := 2 * inp) hX (by omega) a100 (fun f g l2 hf1 hg1 => ?_) 60 0 (N2.1 169) (N2.1 170) (by omega) (fun j hj => absurd hj (Nat.not_lt_zero _)) (fun j hj => absurd hj (Nat.not_lt_zero _))
  · rw [mm_iz, mm_iz] at k2
    exact k2
  have F3 : dgF (th0 N) (mm_i (mm_i N2 169 f) 170 g) := dgF_t F2 (dgF_t (dgF_d (drF_i (by decide) (by decide))) (dgF_d (drF_i (by decide) (by decide))))
  have d3 : rwD (mm_i (mm_i N2 169 f) 170 g) inp (bare (2 * inp)) := ⟨a99, hf1, fun i hi => hg1 i (by have := of_decide_eq_true (p := i < 2 * inp) hi; omega), fun i j hi hj => hf (60 * i + j) (by omega)⟩
  have b100 : (mm_i (mm_i N2 169 f) 170 g).1 108 100 = nI (2 * inp) := a100
  have b106 : (mm_i (mm_i N2 169 f) 170 g).1 108 106 = 0 := a106
  generalize mm_i (mm_i N2 169 f) 170 g = N3 at *
  refine am_run hX 2 _ _ _ _ ?_
  conv => whnf
  have k3 := dv_3 (d := d + 5) (N := N3) (v1 := nI c) hX i4 d3.1 (fun f g l2 hfg => ?_) inp 0 (N3.1 172) (N3.1 173) (by omega) (fun j hj => absurd hj (Nat.not_lt_zero _))
  · rw [mm_iz, mm_iz] at k3
    exact k3
  have F4 : dgF (th0 N) (mm_i (mm_i N3 172 f) 173 g) := dgF_t F3 (dgF_t (dgF_d (drF_i (by decide) (by decide))) (dgF_d (drF_i (by decide) (by decide))))
  have d4 : drR (mm_i (mm_i N3 172 f) 173 g) inp (dr0 inp) := ⟨d3, b100, b106, fun w hw => ⟨(hfg w hw).1, by rw [show (mm_i (mm_i N3 172 f) 173 g).1 173 w = 0 from (hfg w hw).2]; show (0 : Int32) = nI (0 / 2 ^ w % 2); rw [Nat.zero_div]; rfl⟩⟩
  generalize mm_i (mm_i N3 172 f) 173 g = N4 at *
  have h4 := cir_dg F4 (cir_th0 h)
  refine am_run hX 4 _ _ _ _ ?_
  conv => whnf
  rw [show (300 : Int32) = nI 300 from rfl, nI_mul]
  obtain ⟨a1, a2⟩ := drN_I w1 i4 (fun j hj => (h.2.2.2.1 j hj).1) ok.2.1 hm S (Nat.le_refl _)
  refine dv_4 (d := d + 1) (K := N4) hX h4 i4 ok.2.1 hm (fun N5 l2 f5 d5 => ?_) S 0 N4 (by omega) (drF_r _) d4
  refine am_run hX 2 _ _ _ _ ?_
  conv => whnf
  have k5 := dv_5 (d := d + 4) (K := N5) (v1 := nI c) hX a1 d5 (fun N6 l2 e6 d6 => ?_) inp 0 (N5.1 171) (by omega) (by rw [mm_iz]; exact d5.1)
  · rw [mm_iz] at k5
    exact k5
  obtain ⟨f6, rfl⟩ := e6
  refine am_run hX 3 _ _ _ _ ?_
  conv => whnf
  refine ⟨⟨rfl, rfl⟩, ?_⟩
  conv => whnf
  refine am_run hX 3 _ _ _ _ ?_
  conv => whnf
  rw [show (mm_i (mm_i N5 171 f6) 108 (upd ((mm_i N5 171 f6).1 108) 98 1)).1 108 100 = nI (2 * inp + dsm op S) from d5.2.1.trans (by rw [a2])]
  refine ⟨trivial, Or.inr ⟨ok, rfl, dgF_t F4 (dgF_t (dgF_d f5) (dgF_t (dgF_d (drF_i (by decide) (by decide))) (dgF_p (Or.inl rfl)))), rfl, d6⟩⟩
end DGM
section DGC
variable {d n c inp S : Nat} {N M : mm_M} {op : Nat → bk_X}
set_option maxRecDepth 100000 in
theorem ct_dgC (h : cir N n c inp S op) : am_M (d + 6) false nm_X11_diagram [aR 0, aI (nI c)] N (fun r N' => (¬ drOK inp S op ∧ r = .inl (some (aI (-1))) ∧ N' = N) ∨ (drOK inp S op ∧ r = .inl (some (aI (nI (2 * inp + dsm op S)))) ∧ dwF N N' ∧ N'.1 39 9 = -1 ∧ cwR N' (2 * inp + dsm op S) inp (dgmW inp S op))) := by
  have hn20 := h.1.1
  have hcc := h.2.1
  have w1 := h.2.2.1.1
  have w8 := h.2.2.1.2.1
  have s300 := h.2.2.1.2.2.1
  have ds := dsm_b (op := op) S
  refine ⟨rfl, rfl, rfl, fun X hX => am_run hX 4 _ _ _ _ ?_⟩
  conv => whnf
  refine am_c1 (bk_has (d := d + 4) (M := N) (nI c)) ?_
  rw [h.1.2.1, if_neg (bk_yes hn20 hcc)]
  conv => whnf
  refine am_run hX 1 _ _ _ _ ?_
  conv => whnf
  refine ⟨fun q => absurd q (by decide), fun _ => ?_⟩
  have no : ¬ drOK inp S op → X 41 [some (aR 0), some (aI (nI c))] [] N := fun q => by
    refine am_run hX 2 _ _ _ _ ?_
    conv => whnf
    exact ⟨trivial, Or.inl ⟨q, rfl, rfl⟩⟩
  refine am_run hX 7 _ _ _ _ ?_
  conv => whnf
  refine ⟨vp_in_nI (by show c < 20; omega) (by decide), ?_⟩
  conv => whnf
  rw [nI_clamp (n := c) (by omega), h.2.2.1.2.2.2.1]
  by_cases i4 : inp ≤ 4
  · refine ⟨fun q => absurd q (nI_nlt (a := 4) i4 (by decide)), fun _ => ?_⟩
    refine am_run hX 6 _ _ _ _ ?_
    conv => whnf
    refine am_cq (ct_csC (d := d + 1) h) ?_
    rintro r N0 ⟨rfl, ⟨ok, rfl⟩ | ⟨nk, rfl⟩⟩
    · refine ⟨_, rfl, ?_⟩
      conv => whnf
      refine am_run hX 2 _ _ _ _ ?_
      conv => whnf
      by_cases hm : 2 * inp + dsm op S ≤ 60
      · refine ⟨fun _ => ?_, fun q => absurd (nI_le (b := 60) hm (by decide)) q⟩
        refine am_run hX 6 _ _ _ _ ?_
        conv => whnf
        refine am_cq (ct_drw (d := d) h i4 ok hm) ?_
        rintro r N1 ⟨rfl, f1, f2, f3⟩
        refine ⟨_, rfl, ?_⟩
        conv => whnf
        refine am_run hX 4 _ _ _ _ ?_
        conv => whnf
        rw [f3.1]
        exact ⟨trivial, Or.inr ⟨⟨i4, ok, hm⟩, rfl, f1, f2, f3⟩⟩
      · exact ⟨fun q => absurd q (nI_ge (a := 60) (b := 2 * inp + dsm op S) (by omega) (by omega)), fun _ => no fun z => hm z.2.2⟩
    · refine ⟨_, rfl, ?_⟩
      conv => whnf
      refine am_run hX 2 _ _ _ _ ?_
      conv => whnf
      exact ⟨fun q => absurd q (by decide), fun _ => no fun z => nk z.2.1⟩
  · exact ⟨fun _ => no fun z => i4 z.1, fun q => absurd (nI_lt (a := 4) (b := inp) (by omega) (by omega)) q⟩
set_option maxRecDepth 100000 in
theorem dg_x0 {p : Int32} (h : bk_iv M n) (hno : p < 0 ∨ nI n ≤ p) : am_M (d + 2) false nm_X11_diagram [aR 0, aI p] M (am_q1 (aI (-1)) M) := by
  refine ⟨rfl, rfl, rfl, fun X hX => am_run hX 20 _ _ _ _ ?_⟩
  conv => whnf
  refine am_c1 (bk_has (d := d) (M := M) p) ?_
  rw [h.2.1, if_pos hno]
  conv => whnf
  refine ⟨fun _ => ?_, fun c => absurd rfl c⟩
  conv => whnf
  exact ⟨trivial, rfl, rfl⟩
set_option maxRecDepth 100000 in
theorem dg_m0 {p : Int32} (h : bk_iv M n) (hno : p < 0 ∨ nI n ≤ p) : am_M (d + 2) false nm_X12_diagram [aR 108, aI p] M (am_q1 (aI (-1)) (th0 M)) := by
  have h6 : (th0 M).1 108 6 = nI n := h.2.2.1
  refine ⟨rfl, rfl, rfl, fun X hX => am_run hX 20 _ _ _ _ ?_⟩
  conv => whnf
  refine am_c1 (bk_isc (d := d) (M := th0 M) p) ?_
  rw [h6, if_pos hno]
  conv => whnf
  refine ⟨fun _ => ?_, fun c => absurd rfl c⟩
  conv => whnf
  exact ⟨trivial, rfl, rfl⟩
theorem dg_c9 {N N' : mm_M} {m : Nat} {W : WB} (hf : dgF N N') (h : cwR N m inp W) (h9 : N.1 39 9 = -1) : cwR N' m inp W ∧ N'.1 39 9 = -1 := by
  have e39 := hf.1 39 (by decide) (by decide)
  have e42 := hf.1 42 (by decide) (by decide)
  unfold cwR
  rw [e39, e42, hf.2.2]
  exact ⟨h, h9⟩
end DGC
section DGP
variable {ac : Nat → ClassId} {lo : Nat} {ad as : Nat → Nat} {b L : Nat} {xs : Nat → Int32} {hp : mm_M → Nat → xm_H} {I J : mm_M → Prop}
theorem pr_diagram (H : mm_L ac lo hp) (h1 : ∀ M, I M → ∃ n, bk_iv M n ∧ ∀ c, c < n → ∃ W S op, cir M n c W S op) (hJ0 : ∀ M, I M → J (th0 M)) (hJ : ∀ M N M', I M → dwF M N → dgF (th0 N) M' → wvJ M' → J M') (p : Int32) : la_I ac lo ad as b L xs hp I J nm_X11_diagram nm_X12_diagram [.int p] := by
  refine am_la_I (us := [aI p]) H fun M hI => ?_
  obtain ⟨n, hb, hc⟩ := h1 M hI
  rcases bk_no (p := p) hb.1 with z | ⟨c, cn, rfl⟩
  · refine am_wk (dg_x0 (d := 998) hb z) fun r M1 e => ⟨_, e.1, ?_⟩
    rw [e.2]
    exact am_wk (dg_m0 (d := 998) hb z) fun r M2 e => ⟨e.1, by rw [e.2]; exact hJ0 M hI⟩
  · obtain ⟨inp, S, op, hC⟩ := hc c cn
    refine am_wk (ct_dgC (d := 994) hC) ?_
    rintro r M1 (⟨no, rfl, rfl⟩ | ⟨ok, rfl, f1, f2, f3⟩)
    · refine ⟨_, rfl, am_wk (ct_dgmR (d := 994) hC) ?_⟩
      rintro r M2 (⟨_, rfl, rfl⟩ | ⟨ok, _⟩)
      · exact ⟨rfl, hJ0 _ hI⟩
      · exact absurd ok no
    · refine ⟨_, rfl, am_wk (ct_dgmR (d := 994) (cir_dw f1 hC)) ?_⟩
      rintro r M2 (⟨no, _⟩ | ⟨_, rfl, g1, g2⟩)
      · exact absurd ok no
      · obtain ⟨k1, k2⟩ := dg_c9 g1 (cwR_th f3) (show (th0 M1).1 39 9 = -1 from f2)
        have w1 := hC.2.2.1.1
        have A := (drN_I w1 ok.1 (fun j hj => (hC.2.2.2.1 j hj).1) ok.2.1 ok.2.2 S (Nat.le_refl _))
        have B := fn_I A.1 inp (Nat.le_refl _)
        have B1 := B.1
        rw [A.2] at B1
        exact ⟨rfl, hJ M M1 M2 hI f1 g1 (Or.inr ⟨2 * inp + dsm op S, inp, dgmW inp S op, by omega, k1, g2, B1, B.2.1, askI_9 k2⟩)⟩
end DGP
