/-! SUMS without TERMS: the first program's ladder, term -/
section SMH
variable {d : Nat} {M : mm_M}
set_option maxRecDepth 100000 in
theorem sf_tl {p u : Int32} (h : smz M) : am_M (d + 5) false nm_X9_timesLadder [aR 83, aI p, aI u] M (fun r M' => r = .inl (some (aI (nI 1))) ∧ fxM M M' ∧ M'.1 96 0 = nI 0) := by
  obtain ⟨h0, h1, h2, h3, ⟨a0, a1, a2⟩, ⟨b0, b1, b2⟩, ⟨c0, c1, c2⟩⟩ := h
  have fin : ∀ {P : am_Q} {X : am_X} {k1 k2 w : Int32} {l3 : Option am_V} (hX : am_K (d + 4) false nm_X9_timesLadder P X) (hP : ∀ M', fxM M M' → M'.1 96 0 = nI 0 → P (.inl (some (aI (nI 1)))) M'), X 50 [some (aR 83), some (aI p), some (aI u), l3] [aI w, aI 0, aI k2, aI 2, aR 83] (stT2 (mm_i M 96 (upd (M.1 96) (Int32.toNatClampNeg 2) 0)) 0 k1 1 0) := by
    intro P X k1 k2 w l3 hX hP
    refine am_run hX 40 _ _ _ _ ?_
    conv => whnf
    refine am_c0 (sf_st2 (s := 1) rfl (by decide) a2 b2 c2) ?_
    conv => whnf
    refine ⟨vp_in_nI (n := 2) (N := 3) (by decide) (by decide), ?_⟩
    conv => whnf
    refine am_cq (sf_mul02 (s := 2) h0 rfl (by decide) a2) (fun r M' z => ?_)
    obtain ⟨rfl, z1, z2⟩ := z
    refine ⟨_, rfl, ?_⟩
    conv => whnf
    exact ⟨rfl, hP M' (fx_t (fx_i (fx_t (fx_t (fx_i (fx_r M) (by decide)) stx_2) stx_2) (by decide)) z1) z2⟩
  refine ⟨rfl, rfl, rfl, fun X hX => am_run hX 35 _ _ _ _ ?_⟩
  conv => whnf
  refine ⟨vp_in_nI (n := 2) (N := 3) (by decide) (by decide), ?_⟩
  conv => whnf
  refine am_c0 (sf_st2 (s := 0) (M := mm_i M 96 (upd (M.1 96) (Int32.toNatClampNeg 2) 0)) rfl (by decide) a2 b2 c2) ?_
  conv => whnf
  refine ⟨fun _ => ?_, fun _ => ?_⟩
  · refine am_run hX 1 _ _ _ _ ?_
    conv => whnf
    exact fin hX (fun M' z1 z2 => ⟨rfl, z1, z2⟩)
  · refine am_run hX 2 _ _ _ _ ?_
    conv => whnf
    exact fin hX (fun M' z1 z2 => ⟨rfl, z1, z2⟩)
set_option maxRecDepth 100000 in
theorem sf_ld1 {p u : Int32} (h : smz M) (p0 : ¬ p < 0) (p8 : ¬ 8 ≤ p) : am_M (d + 6) false nm_X11_ladder [aR 0, aI p, aI u] M (fun r M' => r = .inl (some (aI (nI 0))) ∧ fxM M M') := by
  refine ⟨rfl, rfl, rfl, fun X hX => am_run hX 60 _ _ _ _ ?_⟩
  conv => whnf
  refine ⟨fun c => absurd c p0, fun _ => ?_⟩
  conv => whnf
  refine ⟨fun c => absurd c p8, fun _ => ?_⟩
  conv => whnf
  refine am_cq (sf_tl h) (fun r M' z => ?_)
  obtain ⟨rfl, z1, z2⟩ := z
  refine ⟨_, rfl, ?_⟩
  conv => whnf
  refine ⟨fun c => absurd c (by decide), fun _ => ?_⟩
  conv => whnf
  refine ⟨vp_in_nI (n := 0) (N := 3) (by decide) (by decide), ?_⟩
  conv => whnf
  rw [show M'.1 96 (Int32.toNatClampNeg 0) = nI 0 from z2]
  exact ⟨trivial, rfl, z1⟩
set_option maxRecDepth 100000 in
theorem sf_ld0 {p u : Int32} (hp : p < 0 ∨ 8 ≤ p) : am_M (d + 6) false nm_X11_ladder [aR 0, aI p, aI u] M (fun r M' => r = .inl (some (aI (-1))) ∧ fxM M M') := by
  refine ⟨rfl, rfl, rfl, fun X hX => am_run hX 60 _ _ _ _ ?_⟩
  conv => whnf
  refine ⟨fun c => ?_, fun c => ?_⟩
  · conv => whnf
    exact ⟨trivial, rfl, fx_r M⟩
  · conv => whnf
    refine ⟨fun _ => ?_, fun c2 => absurd (hp.resolve_left c) c2⟩
    conv => whnf
    exact ⟨trivial, rfl, fx_r M⟩
theorem fit_x : ∃ F : Int64 → Nat, ∀ v, F v = if lg_cmp v (-1000000) < 0 then 0 else if 0 < lg_cmp v 1000000 then 0 else 1 := ⟨_, fun _ => rfl⟩
noncomputable def fitN : Int64 → Nat := Classical.choose fit_x
theorem fit_e (v : Int64) : fitN v = if lg_cmp v (-1000000) < 0 then 0 else if 0 < lg_cmp v 1000000 then 0 else 1 := Classical.choose_spec fit_x v
set_option maxRecDepth 100000 in
theorem ct_fit {v : Int64} : am_M (d + 1) false nm_X9_fits [aJ v] M (am_q1 (aI (nI (fitN v))) M) := by
  rw [fit_e]
  refine ⟨rfl, rfl, rfl, fun X hX => am_run hX 30 _ _ _ _ ?_⟩
  conv => whnf
  refine ⟨fun c => ?_, fun c => ?_⟩
  · conv => whnf
    rw [if_pos c]
    exact ⟨rfl, rfl, rfl⟩
  · conv => whnf
    rw [if_neg c]
    refine ⟨fun c => ?_, fun c => ?_⟩
    · conv => whnf
      rw [if_pos c]
      exact ⟨rfl, rfl, rfl⟩
    · conv => whnf
      rw [if_neg c]
      exact ⟨rfl, rfl, rfl⟩
set_option maxRecDepth 100000 in
theorem ct_fitm {v : Int64} : am_M (d + 1) false nm_X12_isSmall [aJ v] M (am_q1 (aI (nI (fitN v))) M) := by
  rw [fit_e]
  refine ⟨rfl, rfl, rfl, fun X hX => am_run hX 30 _ _ _ _ ?_⟩
  conv => whnf
  refine ⟨fun c => ?_, fun c => ?_⟩
  · conv => whnf
    rw [if_pos c]
    exact ⟨rfl, rfl, rfl⟩
  · conv => whnf
    rw [if_neg c]
    refine ⟨fun c => ?_, fun c => ?_⟩
    · conv => whnf
      rw [if_pos c]
      exact ⟨rfl, rfl, rfl⟩
    · conv => whnf
      rw [if_neg c]
      exact ⟨rfl, rfl, rfl⟩
set_option maxRecDepth 100000 in
theorem sf_set1 (h : M.1 83 11 = nI 1) (f1 : fitN (M.2 99 0) = 1) (f2 : fitN (M.2 100 0) = 1) (a0 : M.1 84 0 = nI 0) (b0 : M.1 88 0 = nI 0) (c0 : M.1 92 0 = nI 0) : am_M (d + 3) false nm_X9_settle [aR 83, aI 0] M (fun r M' => r = .inl (some (aI (nI 1))) ∧ fxM M M' ∧ M'.1 96 0 = nI 1) := by
  refine ⟨rfl, rfl, rfl, fun X hX => am_run hX 60 _ _ _ _ ?_⟩
  conv => whnf
  rw [h]
  refine ⟨fun _ => ?_, fun c => absurd (by decide) c⟩
  conv => whnf
  rw [h]
  refine ⟨fun _ => ?_, fun c => absurd (by decide) c⟩
  conv => whnf
  refine ⟨fun _ => ?_, fun c => absurd (by decide) c⟩
  conv => whnf
  refine ⟨fun c => absurd c (by decide), fun _ => ?_⟩
  conv => whnf
  rw [h]
  refine am_inl ⟨rfl, rfl, rfl, fun X' hX' => am_run hX' 60 _ _ _ _ ?_⟩
  conv => whnf
  refine ⟨fun c => absurd c (by decide), fun _ => ?_⟩
  conv => whnf
  refine ⟨vp_in_nI (n := 0) (N := 150) (by decide) (by decide), ?_⟩
  conv => whnf
  rw [show M.2 99 (Int32.toNatClampNeg 0) = M.2 99 0 from rfl]
  refine am_c1 ct_fit ?_
  conv => whnf
  rw [f1]
  refine ⟨fun c => absurd c (by decide), fun _ => ?_⟩
  conv => whnf
  refine ⟨vp_in_nI (n := 0) (N := 150) (by decide) (by decide), ?_⟩
  conv => whnf
  rw [show M.2 100 (Int32.toNatClampNeg 0) = M.2 100 0 from rfl]
  refine am_c1 ct_fit ?_
  conv => whnf
  rw [f2]
  refine ⟨fun _ => ?_, fun c => absurd (by decide) c⟩
  conv => whnf
  refine ⟨fun _ => ?_, fun c => absurd (by decide) c⟩
  conv => whnf
  refine ⟨rfl, _, rfl, ?_⟩
  conv => whnf
  refine ⟨fun c => absurd c (by decide), fun _ => ?_⟩
  conv => whnf
  rw [h]
  refine am_inl ⟨rfl, rfl, rfl, fun X' hX' => am_run hX' 90 _ _ _ _ ?_⟩
  conv => whnf
  refine ⟨fun c => absurd c (by decide), fun _ => ?_⟩
  conv => whnf
  rw [show M.1 84 (Int32.toNatClampNeg 0) = nI 0 from a0]
  refine ⟨⟨vp_in_nI (n := 0) (N := 3) (by decide) (by decide), by decide⟩, ?_⟩
  conv => whnf
  refine ⟨vp_in_nI (n := 0) (N := 150) (by decide) (by decide), ?_⟩
  conv => whnf
  refine ⟨vp_in_nI (n := 0) (N := 150) (by decide) (by decide), ?_⟩
  conv => whnf
  rw [show 84 + 1 + (nI 0).toNatClampNeg = 85 from rfl]
  simp only [mm_ne _ _ _ _ (by decide : (88 : Nat) ≠ 85)]
  rw [show M.1 88 (Int32.toNatClampNeg 0) = nI 0 from b0]
  refine ⟨⟨vp_in_nI (n := 0) (N := 3) (by decide) (by decide), by decide⟩, ?_⟩
  conv => whnf
  refine ⟨vp_in_nI (n := 0) (N := 150) (by decide) (by decide), ?_⟩
  conv => whnf
  refine ⟨vp_in_nI (n := 0) (N := 150) (by decide) (by decide), ?_⟩
  conv => whnf
  rw [show 88 + 1 + (nI 0).toNatClampNeg = 89 from rfl]
  simp only [mm_ne _ _ _ _ (by decide : (92 : Nat) ≠ 85), mm_ne _ _ _ _ (by decide : (92 : Nat) ≠ 89)]
  rw [show M.1 92 (Int32.toNatClampNeg 0) = nI 0 from c0]
  refine ⟨⟨vp_in_nI (n := 0) (N := 3) (by decide) (by decide), by decide⟩, ?_⟩
  conv => whnf
  refine ⟨vp_in_nI (n := 0) (N := 150) (by decide) (by decide), ?_⟩
  conv => whnf
  refine ⟨vp_in_nI (n := 0) (N := 150) (by decide) (by decide), ?_⟩
  conv => whnf
  refine ⟨fun _ => ?_, fun c => absurd (by decide) c⟩
  conv => whnf
  refine ⟨vp_in_nI (n := 0) (N := 3) (by decide) (by decide), ?_⟩
  conv => whnf
  refine ⟨vp_in_nI (n := 0) (N := 3) (by decide) (by decide), ?_⟩
  conv => whnf
  refine ⟨rfl, _, rfl, ?_⟩
  conv => whnf
  refine ⟨fun c => absurd c (by decide), fun _ => ?_⟩
  conv => whnf
  refine ⟨rfl, rfl, ?_, rfl⟩
  rw [show 92 + 1 + (nI 0).toNatClampNeg = 93 from rfl]
  repeat first | exact fx_r M | refine fx_i ?_ (by decide)
end SMH
