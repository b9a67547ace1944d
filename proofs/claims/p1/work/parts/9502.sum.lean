/-! SUMS without TERMS: the first program's setTerm, sum, term, ladder -/
/-- no TERMS at all -/
def smz (M : mm_M) : Prop := M.1 96 0 = nI 0 ∧ M.1 96 1 = nI 0 ∧ M.1 97 0 = nI 0 ∧ M.1 97 1 = nI 0 ∧ (M.1 84 0 = nI 0 ∧ M.1 84 1 = nI 1 ∧ M.1 84 2 = nI 2) ∧ (M.1 88 0 = nI 0 ∧ M.1 88 1 = nI 1 ∧ M.1 88 2 = nI 2) ∧ (M.1 92 0 = nI 0 ∧ M.1 92 1 = nI 1 ∧ M.1 92 2 = nI 2)
section SMG
variable {d : Nat} {M : mm_M}
/-- one more TERM in row 0 -/
def stT0 (M : mm_M) (s : Nat) (k p q : Int32) : mm_M := mm_i (mm_i (mm_i (mm_i (mm_i M 85 (upd (M.1 85) s k)) 89 (upd (M.1 89) s p)) 93 (upd (M.1 93) s q)) 96 (upd (M.1 96) 0 (nI (s + 1)))) 97 (upd (M.1 97) 0 0)
set_option maxRecDepth 100000 in
theorem sf_st0 {s : Nat} {k p q : Int32} (hs : M.1 96 0 = nI s) (s1 : s < 149) (a1 : M.1 84 0 = nI 0) (a2 : M.1 88 0 = nI 0) (a3 : M.1 92 0 = nI 0) : am_M (d + 1) false nm_X9_setTerm [aR 83, aI 0, aI k, aI p, aI q] M (am_q0 (stT0 M s k p q)) := by
  refine ⟨rfl, rfl, rfl, fun X hX => am_run hX 60 _ _ _ _ ?_⟩
  conv => whnf
  refine ⟨vp_in_nI (n := 0) (N := 3) (by decide) (by decide), ?_⟩
  conv => whnf
  rw [show M.1 96 (Int32.toNatClampNeg 0) = nI s from hs, show (if (149 : Int32) < nI s then (149 : Int32) else nI s) = nI s from if_neg (nI_nlt (a := 149) (by omega) (by decide))]
  rw [show M.1 84 (Int32.toNatClampNeg 0) = nI 0 from a1]
  refine ⟨⟨vp_in_nI (n := 0) (N := 3) (by decide) (by decide), by decide⟩, ?_⟩
  conv => whnf
  refine ⟨vp_in_nI (by show s < 150; omega) (by decide), ?_⟩
  conv => whnf
  rw [show 84 + 1 + (nI 0).toNatClampNeg = 85 from rfl]
  rw [show (mm_i M 85 (upd (M.1 85) (nI s).toNatClampNeg k)).1 88 (Int32.toNatClampNeg 0) = nI 0 from a2]
  refine ⟨⟨vp_in_nI (n := 0) (N := 3) (by decide) (by decide), by decide⟩, ?_⟩
  conv => whnf
  refine ⟨vp_in_nI (by show s < 150; omega) (by decide), ?_⟩
  conv => whnf
  rw [show 88 + 1 + (nI 0).toNatClampNeg = 89 from rfl]
  rw [show (mm_i (mm_i M 85 (upd (M.1 85) (nI s).toNatClampNeg k)) 89 (upd ((mm_i M 85 (upd (M.1 85) (nI s).toNatClampNeg k)).1 89) (nI s).toNatClampNeg p)).1 92 (Int32.toNatClampNeg 0) = nI 0 from a3]
  refine ⟨⟨vp_in_nI (n := 0) (N := 3) (by decide) (by decide), by decide⟩, ?_⟩
  conv => whnf
  refine ⟨vp_in_nI (by show s < 150; omega) (by decide), ?_⟩
  conv => whnf
  rw [show 92 + 1 + (nI 0).toNatClampNeg = 93 from rfl]
  refine ⟨vp_in_nI (n := 0) (N := 3) (by decide) (by decide), ?_⟩
  conv => whnf
  refine ⟨vp_in_nI (n := 0) (N := 3) (by decide) (by decide), ?_⟩
  conv => whnf
  rw [nI_clamp (n := s) (by omega), nI_1]
  exact ⟨trivial, rfl, rfl⟩
theorem stx_0 {s : Nat} {k p q : Int32} : fxM M (stT0 M s k p q) := fx_i (fx_i (fx_i (fx_i (fx_i (fx_r M) (by decide)) (by decide)) (by decide)) (by decide)) (by decide)
/-- one more TERM in row 2 -/
def stT2 (M : mm_M) (s : Nat) (k p q : Int32) : mm_M := mm_i (mm_i (mm_i (mm_i (mm_i M 87 (upd (M.1 87) s k)) 91 (upd (M.1 91) s p)) 95 (upd (M.1 95) s q)) 96 (upd (M.1 96) 2 (nI (s + 1)))) 97 (upd (M.1 97) 2 0)
set_option maxRecDepth 100000 in
theorem sf_st2 {s : Nat} {k p q : Int32} (hs : M.1 96 2 = nI s) (s1 : s < 149) (a1 : M.1 84 2 = nI 2) (a2 : M.1 88 2 = nI 2) (a3 : M.1 92 2 = nI 2) : am_M (d + 1) false nm_X9_setTerm [aR 83, aI 2, aI k, aI p, aI q] M (am_q0 (stT2 M s k p q)) := by
  refine ⟨rfl, rfl, rfl, fun X hX => am_run hX 60 _ _ _ _ ?_⟩
  conv => whnf
  refine ⟨vp_in_nI (n := 2) (N := 3) (by decide) (by decide), ?_⟩
  conv => whnf
  rw [show M.1 96 (Int32.toNatClampNeg 2) = nI s from hs, show (if (149 : Int32) < nI s then (149 : Int32) else nI s) = nI s from if_neg (nI_nlt (a := 149) (by omega) (by decide))]
  rw [show M.1 84 (Int32.toNatClampNeg 2) = nI 2 from a1]
  refine ⟨⟨vp_in_nI (n := 2) (N := 3) (by decide) (by decide), by decide⟩, ?_⟩
  conv => whnf
  refine ⟨vp_in_nI (by show s < 150; omega) (by decide), ?_⟩
  conv => whnf
  rw [show 84 + 1 + (nI 2).toNatClampNeg = 87 from rfl]
  rw [show (mm_i M 87 (upd (M.1 87) (nI s).toNatClampNeg k)).1 88 (Int32.toNatClampNeg 2) = nI 2 from a2]
  refine ⟨⟨vp_in_nI (n := 2) (N := 3) (by decide) (by decide), by decide⟩, ?_⟩
  conv => whnf
  refine ⟨vp_in_nI (by show s < 150; omega) (by decide), ?_⟩
  conv => whnf
  rw [show 88 + 1 + (nI 2).toNatClampNeg = 91 from rfl]
  rw [show (mm_i (mm_i M 87 (upd (M.1 87) (nI s).toNatClampNeg k)) 91 (upd ((mm_i M 87 (upd (M.1 87) (nI s).toNatClampNeg k)).1 91) (nI s).toNatClampNeg p)).1 92 (Int32.toNatClampNeg 2) = nI 2 from a3]
  refine ⟨⟨vp_in_nI (n := 2) (N := 3) (by decide) (by decide), by decide⟩, ?_⟩
  conv => whnf
  refine ⟨vp_in_nI (by show s < 150; omega) (by decide), ?_⟩
  conv => whnf
  rw [show 92 + 1 + (nI 2).toNatClampNeg = 95 from rfl]
  refine ⟨vp_in_nI (n := 2) (N := 3) (by decide) (by decide), ?_⟩
  conv => whnf
  refine ⟨vp_in_nI (n := 2) (N := 3) (by decide) (by decide), ?_⟩
  conv => whnf
  rw [nI_clamp (n := s) (by omega), nI_1]
  exact ⟨trivial, rfl, rfl⟩
theorem stx_2 {s : Nat} {k p q : Int32} : fxM M (stT2 M s k p q) := fx_i (fx_i (fx_i (fx_i (fx_i (fx_r M) (by decide)) (by decide)) (by decide)) (by decide)) (by decide)
set_option maxRecDepth 100000 in
theorem sf_s0 (h : smz M) : am_M (d + 6) false nm_X11_sum [aR 0, aI 0] M (fun r M' => r = .inl (some (aI (nI 1))) ∧ fxM M M') := by
  obtain ⟨h0, h1, h2, h3, ⟨a0, a1, a2⟩, ⟨b0, b1, b2⟩, ⟨c0, c1, c2⟩⟩ := h
  refine ⟨rfl, rfl, rfl, fun X hX => am_run hX 60 _ _ _ _ ?_⟩
  conv => whnf
  refine am_inl ⟨rfl, rfl, rfl, fun X' hX' => am_run hX' 200 _ _ _ _ ?_⟩
  conv => whnf
  refine ⟨fun _ => ?_, fun e => absurd rfl e⟩
  conv => whnf
  refine ⟨vp_in_nI (n := 0) (N := 3) (by decide) (by decide), ?_⟩
  conv => whnf
  refine am_c0 (sf_st0 (s := 0) (M := mm_i M 96 (upd (M.1 96) (Int32.toNatClampNeg 0) 0)) rfl (by decide) a0 b0 c0) ?_
  conv => whnf
  refine ⟨rfl, _, rfl, ?_⟩
  conv => whnf
  refine ⟨fun c => absurd c (by decide), fun _ => ?_⟩
  conv => whnf
  refine ⟨vp_in_nI (n := 0) (N := 3) (by decide) (by decide), ?_⟩
  conv => whnf
  exact ⟨trivial, rfl, fx_t (fx_i (fx_r M) (by decide)) stx_0⟩
set_option maxRecDepth 100000 in
theorem sf_s1 (h : smz M) : am_M (d + 6) false nm_X11_sum [aR 0, aI 1] M (fun r M' => r = .inl (some (aI (nI 0))) ∧ fxM M M') := by
  obtain ⟨h0, h1, h2, h3, ⟨a0, a1, a2⟩, ⟨b0, b1, b2⟩, ⟨c0, c1, c2⟩⟩ := h
  refine ⟨rfl, rfl, rfl, fun X hX => am_run hX 60 _ _ _ _ ?_⟩
  conv => whnf
  refine am_inl ⟨rfl, rfl, rfl, fun X' hX' => am_run hX' 200 _ _ _ _ ?_⟩
  conv => whnf
  refine ⟨fun e => absurd e (by decide), fun _ => ?_⟩
  conv => whnf
  refine ⟨fun _ => ?_, fun e => absurd rfl e⟩
  conv => whnf
  refine ⟨vp_in_nI (n := 0) (N := 3) (by decide) (by decide), ?_⟩
  conv => whnf
  refine ⟨vp_in_nI (n := 0) (N := 3) (by decide) (by decide), ?_⟩
  conv => whnf
  refine ⟨rfl, _, rfl, ?_⟩
  conv => whnf
  refine ⟨fun c => absurd c (by decide), fun _ => ?_⟩
  conv => whnf
  refine ⟨vp_in_nI (n := 0) (N := 3) (by decide) (by decide), ?_⟩
  conv => whnf
  exact ⟨trivial, rfl, fx_i (fx_i (fx_r M) (by decide)) (by decide)⟩
set_option maxRecDepth 100000 in
theorem sf_s2 (h : smz M) : am_M (d + 6) false nm_X11_sum [aR 0, aI 2] M (fun r M' => r = .inl (some (aI (nI 0))) ∧ fxM M M') := by
  obtain ⟨h0, h1, h2, h3, ⟨a0, a1, a2⟩, ⟨b0, b1, b2⟩, ⟨c0, c1, c2⟩⟩ := h
  refine ⟨rfl, rfl, rfl, fun X hX => am_run hX 60 _ _ _ _ ?_⟩
  conv => whnf
  refine am_inl ⟨rfl, rfl, rfl, fun X' hX' => am_run hX' 200 _ _ _ _ ?_⟩
  conv => whnf
  refine ⟨fun e => absurd e (by decide), fun _ => ?_⟩
  conv => whnf
  refine ⟨fun e => absurd e (by decide), fun _ => ?_⟩
  conv => whnf
  refine ⟨fun _ => ?_, fun e => absurd rfl e⟩
  conv => whnf
  refine am_inl ⟨rfl, rfl, rfl, fun X2 hX2 => am_run hX2 300 _ _ _ _ ?_⟩
  conv => whnf
  rw [show M.1 84 (Int32.toNatClampNeg 0) = nI 0 from a0]
  refine ⟨⟨vp_in_nI (n := 0) (N := 3) (by decide) (by decide), by decide⟩, ?_⟩
  conv => whnf
  rw [show M.1 84 (Int32.toNatClampNeg 1) = nI 1 from a1]
  refine ⟨⟨vp_in_nI (n := 1) (N := 3) (by decide) (by decide), by decide⟩, ?_⟩
  conv => whnf
  refine ⟨vp_in_nI (n := 0) (N := 3) (by decide) (by decide), ?_⟩
  conv => whnf
  refine ⟨vp_in_nI (n := 1) (N := 3) (by decide) (by decide), ?_⟩
  conv => whnf
  simp only [mm_ne _ _ _ _ (by decide : (88 : Nat) ≠ 84)]
  rw [show M.1 88 (Int32.toNatClampNeg 0) = nI 0 from b0]
  refine ⟨⟨vp_in_nI (n := 0) (N := 3) (by decide) (by decide), by decide⟩, ?_⟩
  conv => whnf
  simp only [mm_ne _ _ _ _ (by decide : (88 : Nat) ≠ 84)]
  rw [show M.1 88 (Int32.toNatClampNeg 1) = nI 1 from b1]
  refine ⟨⟨vp_in_nI (n := 1) (N := 3) (by decide) (by decide), by decide⟩, ?_⟩
  conv => whnf
  refine ⟨vp_in_nI (n := 0) (N := 3) (by decide) (by decide), ?_⟩
  conv => whnf
  refine ⟨vp_in_nI (n := 1) (N := 3) (by decide) (by decide), ?_⟩
  conv => whnf
  simp only [mm_ne _ _ _ _ (by decide : (92 : Nat) ≠ 84), mm_ne _ _ _ _ (by decide : (92 : Nat) ≠ 88)]
  rw [show M.1 92 (Int32.toNatClampNeg 0) = nI 0 from c0]
  refine ⟨⟨vp_in_nI (n := 0) (N := 3) (by decide) (by decide), by decide⟩, ?_⟩
  conv => whnf
  simp only [mm_ne _ _ _ _ (by decide : (92 : Nat) ≠ 84), mm_ne _ _ _ _ (by decide : (92 : Nat) ≠ 88)]
  rw [show M.1 92 (Int32.toNatClampNeg 1) = nI 1 from c1]
  refine ⟨⟨vp_in_nI (n := 1) (N := 3) (by decide) (by decide), by decide⟩, ?_⟩
  conv => whnf
  refine ⟨vp_in_nI (n := 0) (N := 3) (by decide) (by decide), ?_⟩
  conv => whnf
  refine ⟨vp_in_nI (n := 1) (N := 3) (by decide) (by decide), ?_⟩
  conv => whnf
  refine ⟨vp_in_nI (n := 0) (N := 3) (by decide) (by decide), ?_⟩
  conv => whnf
  refine ⟨vp_in_nI (n := 1) (N := 3) (by decide) (by decide), ?_⟩
  conv => whnf
  refine ⟨vp_in_nI (n := 0) (N := 3) (by decide) (by decide), ?_⟩
  conv => whnf
  refine ⟨vp_in_nI (n := 1) (N := 3) (by decide) (by decide), ?_⟩
  conv => whnf
  refine ⟨vp_in_nI (n := 0) (N := 3) (by decide) (by decide), ?_⟩
  conv => whnf
  refine ⟨vp_in_nI (n := 1) (N := 3) (by decide) (by decide), ?_⟩
  conv => whnf
  refine ⟨vp_in_nI (n := 0) (N := 3) (by decide) (by decide), ?_⟩
  conv => whnf
  refine ⟨vp_in_nI (n := 1) (N := 3) (by decide) (by decide), ?_⟩
  conv => whnf
  refine ⟨trivial, _, rfl, ?_⟩
  conv => whnf
  refine ⟨rfl, _, rfl, ?_⟩
  conv => whnf
  refine ⟨fun c => absurd c (by decide), fun _ => ?_⟩
  conv => whnf
  refine ⟨vp_in_nI (n := 0) (N := 3) (by decide) (by decide), ?_⟩
  conv => whnf
  refine ⟨trivial, ?_, ?_⟩
  · exact congrArg (fun v => (.inl (some (aI v)) : am_R)) h1
  · repeat first | exact fx_r M | refine fx_i ?_ (by decide)
set_option maxRecDepth 100000 in
theorem sf_s3 (h : smz M) : am_M (d + 6) false nm_X11_sum [aR 0, aI 3] M (fun r M' => r = .inl (some (aI (nI 0))) ∧ fxM M M') := by
  obtain ⟨h0, h1, h2, h3, ⟨a0, a1, a2⟩, ⟨b0, b1, b2⟩, ⟨c0, c1, c2⟩⟩ := h
  refine ⟨rfl, rfl, rfl, fun X hX => am_run hX 60 _ _ _ _ ?_⟩
  conv => whnf
  refine am_inl ⟨rfl, rfl, rfl, fun X' hX' => am_run hX' 200 _ _ _ _ ?_⟩
  conv => whnf
  refine ⟨fun e => absurd e (by decide), fun _ => ?_⟩
  conv => whnf
  refine ⟨fun e => absurd e (by decide), fun _ => ?_⟩
  conv => whnf
  refine ⟨fun e => absurd e (by decide), fun _ => ?_⟩
  conv => whnf
  refine ⟨fun _ => ?_, fun e => absurd rfl e⟩
  conv => whnf
  refine am_cq (sf_add1 h0 h1) (fun r M' z => ?_)
  obtain ⟨rfl, z1, z2⟩ := z
  refine ⟨_, rfl, ?_⟩
  conv => whnf
  refine ⟨rfl, _, rfl, ?_⟩
  conv => whnf
  refine ⟨fun c => absurd c (by decide), fun _ => ?_⟩
  conv => whnf
  refine ⟨vp_in_nI (n := 0) (N := 3) (by decide) (by decide), ?_⟩
  conv => whnf
  rw [show M'.1 96 (Int32.toNatClampNeg 0) = nI 0 from z2]
  exact ⟨trivial, rfl, z1⟩
set_option maxRecDepth 100000 in
theorem sf_s4 (h : smz M) : am_M (d + 6) false nm_X11_sum [aR 0, aI 4] M (fun r M' => r = .inl (some (aI (nI 0))) ∧ fxM M M') := by
  obtain ⟨h0, h1, h2, h3, ⟨a0, a1, a2⟩, ⟨b0, b1, b2⟩, ⟨c0, c1, c2⟩⟩ := h
  refine ⟨rfl, rfl, rfl, fun X hX => am_run hX 60 _ _ _ _ ?_⟩
  conv => whnf
  refine am_inl ⟨rfl, rfl, rfl, fun X' hX' => am_run hX' 200 _ _ _ _ ?_⟩
  conv => whnf
  refine ⟨fun e => absurd e (by decide), fun _ => ?_⟩
  conv => whnf
  refine ⟨fun e => absurd e (by decide), fun _ => ?_⟩
  conv => whnf
  refine ⟨fun e => absurd e (by decide), fun _ => ?_⟩
  conv => whnf
  refine ⟨fun e => absurd e (by decide), fun _ => ?_⟩
  conv => whnf
  refine ⟨fun _ => ?_, fun e => absurd rfl e⟩
  conv => whnf
  refine am_cq (sf_add1 h0 h1) (fun r M' z => ?_)
  obtain ⟨rfl, z1, z2⟩ := z
  refine ⟨_, rfl, ?_⟩
  conv => whnf
  refine ⟨rfl, _, rfl, ?_⟩
  conv => whnf
  refine ⟨fun c => absurd c (by decide), fun _ => ?_⟩
  conv => whnf
  refine ⟨vp_in_nI (n := 0) (N := 3) (by decide) (by decide), ?_⟩
  conv => whnf
  rw [show M'.1 96 (Int32.toNatClampNeg 0) = nI 0 from z2]
  exact ⟨trivial, rfl, z1⟩
set_option maxRecDepth 100000 in
theorem sf_s5 (h : smz M) : am_M (d + 6) false nm_X11_sum [aR 0, aI 5] M (fun r M' => r = .inl (some (aI (nI 0))) ∧ fxM M M') := by
  obtain ⟨h0, h1, h2, h3, ⟨a0, a1, a2⟩, ⟨b0, b1, b2⟩, ⟨c0, c1, c2⟩⟩ := h
  refine ⟨rfl, rfl, rfl, fun X hX => am_run hX 60 _ _ _ _ ?_⟩
  conv => whnf
  refine am_inl ⟨rfl, rfl, rfl, fun X' hX' => am_run hX' 200 _ _ _ _ ?_⟩
  conv => whnf
  refine ⟨fun e => absurd e (by decide), fun _ => ?_⟩
  conv => whnf
  refine ⟨fun e => absurd e (by decide), fun _ => ?_⟩
  conv => whnf
  refine ⟨fun e => absurd e (by decide), fun _ => ?_⟩
  conv => whnf
  refine ⟨fun e => absurd e (by decide), fun _ => ?_⟩
  conv => whnf
  refine ⟨fun e => absurd e (by decide), fun _ => ?_⟩
  conv => whnf
  refine ⟨fun _ => ?_, fun e => absurd rfl e⟩
  conv => whnf
  refine am_cq (sf_mul01 (s := 0) h0 h1 (by decide) a1) (fun r M' z => ?_)
  obtain ⟨rfl, z1, z2⟩ := z
  refine ⟨_, rfl, ?_⟩
  conv => whnf
  refine ⟨rfl, _, rfl, ?_⟩
  conv => whnf
  refine ⟨fun c => absurd c (by decide), fun _ => ?_⟩
  conv => whnf
  refine ⟨vp_in_nI (n := 0) (N := 3) (by decide) (by decide), ?_⟩
  conv => whnf
  rw [show M'.1 96 (Int32.toNatClampNeg 0) = nI 0 from z2]
  exact ⟨trivial, rfl, z1⟩
set_option maxRecDepth 100000 in
theorem sf_s6 (h : smz M) : am_M (d + 6) false nm_X11_sum [aR 0, aI 6] M (fun r M' => r = .inl (some (aI (nI 0))) ∧ fxM M M') := by
  obtain ⟨h0, h1, h2, h3, ⟨a0, a1, a2⟩, ⟨b0, b1, b2⟩, ⟨c0, c1, c2⟩⟩ := h
  refine ⟨rfl, rfl, rfl, fun X hX => am_run hX 60 _ _ _ _ ?_⟩
  conv => whnf
  refine am_inl ⟨rfl, rfl, rfl, fun X' hX' => am_run hX' 200 _ _ _ _ ?_⟩
  conv => whnf
  refine ⟨fun e => absurd e (by decide), fun _ => ?_⟩
  conv => whnf
  refine ⟨fun e => absurd e (by decide), fun _ => ?_⟩
  conv => whnf
  refine ⟨fun e => absurd e (by decide), fun _ => ?_⟩
  conv => whnf
  refine ⟨fun e => absurd e (by decide), fun _ => ?_⟩
  conv => whnf
  refine ⟨fun e => absurd e (by decide), fun _ => ?_⟩
  conv => whnf
  refine ⟨fun e => absurd e (by decide), fun _ => ?_⟩
  conv => whnf
  refine ⟨fun _ => ?_, fun e => absurd rfl e⟩
  conv => whnf
  refine am_cq (sf_mul10 (s := 0) h1 h0 (by decide) a0) (fun r M' z => ?_)
  obtain ⟨rfl, z1, z2⟩ := z
  refine ⟨_, rfl, ?_⟩
  conv => whnf
  refine ⟨rfl, _, rfl, ?_⟩
  conv => whnf
  refine ⟨fun c => absurd c (by decide), fun _ => ?_⟩
  conv => whnf
  refine ⟨vp_in_nI (n := 0) (N := 3) (by decide) (by decide), ?_⟩
  conv => whnf
  rw [show M'.1 96 (Int32.toNatClampNeg 0) = nI 0 from z2]
  exact ⟨trivial, rfl, z1⟩
set_option maxRecDepth 100000 in
theorem sf_s7 (h : smz M) : am_M (d + 6) false nm_X11_sum [aR 0, aI 7] M (fun r M' => r = .inl (some (aI (nI 0))) ∧ fxM M M') := by
  obtain ⟨h0, h1, h2, h3, ⟨a0, a1, a2⟩, ⟨b0, b1, b2⟩, ⟨c0, c1, c2⟩⟩ := h
  refine ⟨rfl, rfl, rfl, fun X hX => am_run hX 60 _ _ _ _ ?_⟩
  conv => whnf
  refine am_inl ⟨rfl, rfl, rfl, fun X' hX' => am_run hX' 200 _ _ _ _ ?_⟩
  conv => whnf
  refine ⟨fun e => absurd e (by decide), fun _ => ?_⟩
  conv => whnf
  refine ⟨fun e => absurd e (by decide), fun _ => ?_⟩
  conv => whnf
  refine ⟨fun e => absurd e (by decide), fun _ => ?_⟩
  conv => whnf
  refine ⟨fun e => absurd e (by decide), fun _ => ?_⟩
  conv => whnf
  refine ⟨fun e => absurd e (by decide), fun _ => ?_⟩
  conv => whnf
  refine ⟨fun e => absurd e (by decide), fun _ => ?_⟩
  conv => whnf
  refine ⟨fun e => absurd e (by decide), fun _ => ?_⟩
  conv => whnf
  refine ⟨fun _ => ?_, fun e => absurd rfl e⟩
  conv => whnf
  refine ⟨vp_in_nI (n := 0) (N := 3) (by decide) (by decide), ?_⟩
  conv => whnf
  rw [show M.1 96 (Int32.toNatClampNeg 0) = nI 0 from h0]
  refine ⟨fun _ => ?_, fun c => absurd (by decide) c⟩
  conv => whnf
  refine ⟨rfl, _, rfl, ?_⟩
  conv => whnf
  refine ⟨fun c => absurd c (by decide), fun _ => ?_⟩
  conv => whnf
  refine ⟨vp_in_nI (n := 0) (N := 3) (by decide) (by decide), ?_⟩
  conv => whnf
  rw [show M.1 96 (Int32.toNatClampNeg 0) = nI 0 from h0]
  exact ⟨trivial, rfl, fx_r M⟩
set_option maxRecDepth 100000 in
theorem sf_sn {p : Int32} (hp : ¬ p = 0 ∧ ¬ p = 1 ∧ ¬ p = 2 ∧ ¬ p = 3 ∧ ¬ p = 4 ∧ ¬ p = 5 ∧ ¬ p = 6 ∧ ¬ p = 7) : am_M (d + 6) false nm_X11_sum [aR 0, aI p] M (fun r M' => r = .inl (some (aI (-1))) ∧ fxM M M') := by
  obtain ⟨p0, p1, p2, p3, p4, p5, p6, p7⟩ := hp
  refine ⟨rfl, rfl, rfl, fun X hX => am_run hX 60 _ _ _ _ ?_⟩
  conv => whnf
  refine am_inl ⟨rfl, rfl, rfl, fun X' hX' => am_run hX' 200 _ _ _ _ ?_⟩
  conv => whnf
  refine ⟨fun e => absurd e p0, fun _ => ?_⟩
  conv => whnf
  refine ⟨fun e => absurd e p1, fun _ => ?_⟩
  conv => whnf
  refine ⟨fun e => absurd e p2, fun _ => ?_⟩
  conv => whnf
  refine ⟨fun e => absurd e p3, fun _ => ?_⟩
  conv => whnf
  refine ⟨fun e => absurd e p4, fun _ => ?_⟩
  conv => whnf
  refine ⟨fun e => absurd e p5, fun _ => ?_⟩
  conv => whnf
  refine ⟨fun e => absurd e p6, fun _ => ?_⟩
  conv => whnf
  refine ⟨fun e => absurd e p7, fun _ => ?_⟩
  conv => whnf
  refine ⟨rfl, _, rfl, ?_⟩
  conv => whnf
  refine ⟨fun _ => ?_, fun c => absurd rfl c⟩
  conv => whnf
  exact ⟨trivial, rfl, fx_r M⟩
end SMG
