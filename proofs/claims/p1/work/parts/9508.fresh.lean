/-! the pair circuit, without a TAPE -/
section FRB
variable {d : Nat} {M : mm_M}
set_option maxRecDepth 100000 in
theorem fc_fill : am_M (d + 1) false nm_J7_fill_53178 [aR 6, aI 0] M (fun r M' => r = .inl none ∧ ∃ f, M' = mm_i M 6 f) := by
  refine ⟨rfl, rfl, rfl, fun X hX => am_run hX 100 _ _ _ _ ?_⟩
  conv => whnf
  repeat first
    | (refine ⟨fun _ => ?_, fun c => absurd (by decide) c⟩; conv => whnf)
    | (refine ⟨fun c => absurd c (by decide), fun _ => ?_⟩; conv => whnf)
    | (refine ⟨by unfold vp_in; decide, ?_⟩; conv => whnf)
    | (refine ⟨⟨rfl, rfl⟩, ?_⟩; conv => whnf)
    | (refine ⟨fun _ => ⟨rfl, rfl⟩, ?_⟩; conv => whnf)
  refine ⟨trivial, rfl, ?_⟩
  rw [mm_i1, mm_ii, mm_i1, mm_ii, mm_i1, mm_ii]
  exact ⟨_, rfl⟩
set_option maxRecDepth 100000 in
theorem fc_so : am_M (d + 2) false nm_X5_startOver [aR 2, aR 1, aI (nI 0)] M (fun r M' => r = .inl none ∧ M'.1 2 7 = nI 0 ∧ M'.1 2 8 = nI 0 ∧ M'.1 9 = M.1 9 ∧ fxM M M') := by
  refine ⟨rfl, rfl, rfl, fun X hX => am_run hX 60 _ _ _ _ ?_⟩
  conv => whnf
  repeat first
    | (refine ⟨fun _ => ?_, fun c => absurd (by decide) c⟩; conv => whnf)
    | (refine ⟨fun c => absurd c (by decide), fun _ => ?_⟩; conv => whnf)
    | (refine ⟨by unfold vp_in; decide, ?_⟩; conv => whnf)
    | (refine ⟨⟨rfl, rfl⟩, ?_⟩; conv => whnf)
    | (refine ⟨fun _ => ⟨rfl, rfl⟩, ?_⟩; conv => whnf)
  refine am_cq fc_fill (fun r M' z => ?_)
  obtain ⟨rfl, f, rfl⟩ := z
  refine ⟨_, rfl, ?_⟩
  conv => whnf
  refine ⟨trivial, rfl, rfl, rfl, rfl, ?_⟩
  repeat first | exact fx_r M | refine fx_i ?_ (by decide)
set_option maxRecDepth 100000 in
theorem fc_take (h7 : M.1 2 7 = nI 0) (h8 : M.1 2 8 = nI 0) : am_M (d + 1) false nm_X5_take [aR 2] M (am_q1 (aI 0) (mm_i M 2 (upd (M.1 2) 9 (nI 0)))) := by
  refine ⟨rfl, rfl, rfl, fun X hX => am_run hX 60 _ _ _ _ ?_⟩
  conv => whnf
  rw [h7, h8]
  refine ⟨fun _ => ?_, fun c => absurd (by decide) c⟩
  conv => whnf
  rw [h8]
  rw [show (mm_i M 2 (upd (M.1 2) 9 (nI 0))).1 2 8 = nI 0 from h8, show (mm_i M 2 (upd (M.1 2) 9 (nI 0))).1 2 7 = nI 0 from h7]
  refine ⟨fun c => absurd c (by decide), fun _ => ?_⟩
  conv => whnf
  first
    | exact ⟨trivial, rfl, rfl⟩
    | exact ⟨rfl, rfl, rfl⟩
set_option maxRecDepth 100000 in
theorem fc_rw (h7 : M.1 2 7 = nI 0) (h8 : M.1 2 8 = nI 0) : am_M (d + 2) false nm_X5_readWidth [aR 2] M (fun r M' => r = .inl (some (aI 0)) ∧ M'.1 2 19 = nI 1 ∧ M'.1 9 = M.1 9 ∧ fxM M M') := by
  refine ⟨rfl, rfl, rfl, fun X hX => am_run hX 60 _ _ _ _ ?_⟩
  conv => whnf
  refine am_c1 (fc_take h7 h8) ?_
  conv => whnf
  refine ⟨fun _ => ?_, fun c => absurd (by decide) c⟩
  conv => whnf
  refine am_inl ⟨rfl, rfl, rfl, fun X' hX' => am_run hX' 60 _ _ _ _ ?_⟩
  conv => whnf
  refine ⟨rfl, _, rfl, ?_⟩
  conv => whnf
  refine ⟨rfl, rfl, ?_, rfl, ?_⟩
  · rfl
  · repeat first | exact fx_r M | refine fx_i ?_ (by decide)
set_option maxRecDepth 100000 in
theorem fc_read : am_M (d + 4) false nm_X5_read [aR 2, aR 1, aI (nI 0)] M (fun r M' => r = .inl none ∧ M'.1 2 19 = nI 1 ∧ fxM M M') := by
  refine ⟨rfl, rfl, rfl, fun X hX => am_run hX 60 _ _ _ _ ?_⟩
  conv => whnf
  refine am_cq fc_so (fun r M' z => ?_)
  obtain ⟨rfl, z1, z2, z3, z4⟩ := z
  refine ⟨_, rfl, ?_⟩
  conv => whnf
  refine am_cq (fc_rw z1 z2) (fun r M2 y => ?_)
  obtain ⟨rfl, y1, y2, y3⟩ := y
  refine ⟨_, rfl, ?_⟩
  conv => whnf
  refine ⟨fun c => absurd c (by decide), fun _ => ?_⟩
  conv => whnf
  refine ⟨fun _ => ?_, fun c => absurd rfl c⟩
  conv => whnf
  refine ⟨fun _ => ?_, fun c => absurd rfl c⟩
  conv => whnf
  rw [y1]
  refine ⟨fun _ => ?_, fun c => absurd (by decide) c⟩
  conv => whnf
  exact ⟨trivial, rfl, y1, fx_t z4 y3⟩
set_option maxRecDepth 100000 in
theorem fc_x (h14 : M.1 0 14 = nI 0) (h7 : M.1 9 7 = nI 0) : am_M 999 true nm_X11_circuit [aR 0] M (fun r M' => r = .inr "java/lang/IllegalArgumentException" ∧ fxM M M') := by
  refine ⟨rfl, rfl, rfl, fun X hX => am_run hX 100 _ _ _ _ ?_⟩
  conv => whnf
  rw [show (mm_i M 0 (upd (M.1 0) 14 0)).1 9 7 = nI 0 from h7]
  refine ⟨fun _ => ?_, fun c => absurd (by decide) c⟩
  conv => whnf
  rw [h14]
  refine am_cq (fc_read (d := 994) (M := mm_i M 0 (upd (M.1 0) 14 0))) (fun r M' z => ?_)
  obtain ⟨rfl, z1, z2⟩ := z
  refine ⟨_, rfl, ?_⟩
  conv => whnf
  rw [z1]
  refine ⟨fun c => absurd c (show ¬ (nI 1 &&& 7) = 0 from by decide), fun _ => ?_⟩
  conv => whnf
  refine ⟨⟨by decide, rfl⟩, rfl, ?_⟩
  exact fx_i (fx_i (fx_t (fx_i (fx_r M) (by decide)) z2) (by decide)) (by decide)
set_option maxRecDepth 100000 in
theorem fc_see (h3 : M.1 108 3 = nI 0) (h2 : M.1 108 2 = nI 0) : am_M (d + 1) false nm_X12_see [aR 108] M (am_q1 (aI 0) M) := by
  refine ⟨rfl, rfl, rfl, fun X hX => am_run hX 60 _ _ _ _ ?_⟩
  conv => whnf
  rw [h3, h2]
  refine ⟨fun _ => ?_, fun c => absurd (by decide) c⟩
  conv => whnf
  rw [h3, h2]
  refine ⟨fun _ => ?_, fun c => absurd (by decide) c⟩
  conv => whnf
  exact ⟨trivial, rfl, rfl⟩
set_option maxRecDepth 100000 in
theorem fc_rt (h3 : M.1 108 3 = nI 0) (h2 : M.1 108 2 = nI 0) : am_M (d + 3) false nm_X12_readText [aR 108] M (fun r M' => r = .inl (some (aI 0)) ∧ M'.1 108 4 = nI 1) := by
  refine ⟨rfl, rfl, rfl, fun X hX => am_run hX 120 _ _ _ _ ?_⟩
  conv => whnf
  repeat first
    | (refine ⟨fun _ => ?_, fun c => absurd (by decide) c⟩; conv => whnf)
    | (refine ⟨fun c => absurd c (by decide), fun _ => ?_⟩; conv => whnf)
    | (refine ⟨by unfold vp_in; decide, ?_⟩; conv => whnf)
    | (refine ⟨⟨rfl, rfl⟩, ?_⟩; conv => whnf)
    | (refine ⟨fun _ => ⟨rfl, rfl⟩, ?_⟩; conv => whnf)
  refine am_c1 (fc_see h3 h2) ?_
  conv => whnf
  refine ⟨fun _ => ?_, fun c => absurd (by decide) c⟩
  conv => whnf
  refine am_inl ⟨rfl, rfl, rfl, fun X' hX' => am_run hX' 60 _ _ _ _ ?_⟩
  conv => whnf
  refine am_c1 (fc_see h3 h2) ?_
  conv => whnf
  refine ⟨rfl, _, rfl, ?_⟩
  conv => whnf
  exact ⟨rfl, rfl, rfl⟩
set_option maxRecDepth 100000 in
theorem fc_m (h6 : M.1 108 6 = nI 0) (h2 : M.1 108 2 = nI 0) : am_M (d + 4) false nm_X12_circuit [aR 108] M (fun r M' => r = .inl (some (aI 0)) ∧ M'.1 108 0 = 2) := by
  refine ⟨rfl, rfl, rfl, fun X hX => am_run hX 120 _ _ _ _ ?_⟩
  conv => whnf
  rw [h6]
  refine ⟨fun _ => ?_, fun c => absurd (by decide) c⟩
  conv => whnf
  refine am_cq (fc_rt rfl h2) (fun r M' z => ?_)
  obtain ⟨rfl, z⟩ := z
  refine ⟨_, rfl, ?_⟩
  conv => whnf
  refine ⟨fun _ => ?_, fun c => absurd rfl c⟩
  conv => whnf
  refine ⟨fun _ => ?_, fun c => absurd rfl c⟩
  conv => whnf
  rw [z]
  refine ⟨fun _ => ?_, fun c => absurd (by decide) c⟩
  conv => whnf
  rw [show (mm_i M' 108 (upd (M'.1 108) 2 0)).1 108 4 = nI 1 from z]
  refine ⟨fun c => absurd c (by decide), fun _ => ?_⟩
  conv => whnf
  refine am_inl ⟨rfl, rfl, rfl, fun X' hX' => am_run hX' 60 _ _ _ _ ?_⟩
  conv => whnf
  refine ⟨trivial, _, rfl, ?_⟩
  conv => whnf
  exact ⟨trivial, rfl, rfl⟩
end FRB
section FRT
variable {d : Nat} {M : mm_M}
/-- what total answers at the start -/
def totz (M : mm_M) : Prop := M.1 9 7 = nI 0 ∧ M.1 0 14 = nI 0 ∧ M.1 25 3 = nI 0 ∧ M.1 49 6 = nI 0 ∧ M.1 70 12 = nI 0 ∧ M.1 70 13 = -1 ∧ M.1 96 0 = nI 0 ∧ M.1 96 1 = nI 0
end FRT
