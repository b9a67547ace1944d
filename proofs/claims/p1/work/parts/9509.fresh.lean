/-! measure and row on the fresh memory -/
section FRC
def mmS : mm_M := mm_i mm_0 25 (upd (mm_0.1 25) 4 1)
set_option maxRecDepth 100000 in
theorem fm_st {d : Nat} : am_M (d + 2) false nm_X8_straighten [aR 25] mm_0 (am_q0 mmS) := by
  refine ⟨rfl, rfl, rfl, fun X hX => am_run hX 400 _ _ _ _ ?_⟩
  conv => whnf
  repeat first
    | (refine ⟨fun _ => ?_, fun c => absurd (by decide) c⟩; conv => whnf)
    | (refine ⟨fun c => absurd c (by decide), fun _ => ?_⟩; conv => whnf)
    | (refine ⟨by unfold vp_in; decide, ?_⟩; conv => whnf)
    | (refine ⟨⟨rfl, rfl⟩, ?_⟩; conv => whnf)
    | (refine am_inl ⟨rfl, rfl, rfl, fun X' hX' => am_run hX' 400 _ _ _ _ ?_⟩; conv => whnf)
    | (refine ⟨trivial, _, rfl, ?_⟩; conv => whnf)
    | (refine ⟨rfl, _, rfl, ?_⟩; conv => whnf)
  simp only [upd_self, mm_iz]
  exact ⟨trivial, rfl, rfl⟩
set_option maxRecDepth 100000 in
theorem fm_sz {d : Nat} : am_M (d + 3) false nm_X8_signOfZ [aR 25, aI 0] mm_0 (am_q1 (aI 0) mmS) := by
  refine ⟨rfl, rfl, rfl, fun X hX => am_run hX 400 _ _ _ _ ?_⟩
  conv => whnf
  refine am_c0 fm_st ?_
  conv => whnf
  repeat first
    | (refine ⟨fun _ => ?_, fun c => absurd (by decide) c⟩; conv => whnf)
    | (refine ⟨fun c => absurd c (by decide), fun _ => ?_⟩; conv => whnf)
    | (refine ⟨by unfold vp_in; decide, ?_⟩; conv => whnf)
    | (refine ⟨⟨rfl, rfl⟩, ?_⟩; conv => whnf)
    | (refine am_inl ⟨rfl, rfl, rfl, fun X' hX' => am_run hX' 400 _ _ _ _ ?_⟩; conv => whnf)
    | (refine ⟨trivial, _, rfl, ?_⟩; conv => whnf)
    | (refine ⟨rfl, _, rfl, ?_⟩; conv => whnf)
  exact ⟨trivial, rfl, rfl⟩
set_option maxRecDepth 100000 in
theorem fm_mx {d : Nat} {q : Int32} : am_M (d + 5) false nm_X11_measure [aR 0, aI 0, aI q] mm_0 (am_q1 (aI 0) mmS) := by
  refine ⟨rfl, rfl, rfl, fun X hX => am_run hX 60 _ _ _ _ ?_⟩
  conv => whnf
  refine ⟨fun c => absurd c (by decide), fun _ => ?_⟩
  conv => whnf
  refine ⟨fun _ => ?_, fun c => absurd (by decide) c⟩
  conv => whnf
  refine am_inl ⟨rfl, rfl, rfl, fun X' hX' => am_run hX' 400 _ _ _ _ ?_⟩
  conv => whnf
  refine ⟨fun c => absurd c (by decide), fun _ => ?_⟩
  conv => whnf
  refine ⟨by unfold vp_in; decide, ?_⟩
  conv => whnf
  refine ⟨fun c => absurd (by decide) c, fun _ => ?_⟩
  conv => whnf
  refine ⟨fun _ => ?_, fun c => absurd (by decide) c⟩
  conv => whnf
  refine ⟨fun c => absurd (by decide) c, fun _ => ?_⟩
  conv => whnf
  refine am_c1 fm_sz ?_
  conv => whnf
  refine ⟨trivial, _, rfl, ?_⟩
  conv => whnf
  exact ⟨trivial, rfl, rfl⟩
set_option maxRecDepth 100000 in
theorem fm_rd {d : Nat} : am_M (d + 3) false nm_X12_reduceRows [aR 108] (th0 mmS) (am_q0 (th0 mmS)) := by
  refine ⟨rfl, rfl, rfl, fun X hX => am_run hX 400 _ _ _ _ ?_⟩
  conv => whnf
  repeat first
    | (refine ⟨fun _ => ?_, fun c => absurd (by decide) c⟩; conv => whnf)
    | (refine ⟨fun c => absurd c (by decide), fun _ => ?_⟩; conv => whnf)
    | (refine ⟨by unfold vp_in; decide, ?_⟩; conv => whnf)
    | (refine ⟨⟨rfl, rfl⟩, ?_⟩; conv => whnf)
    | (refine am_inl ⟨rfl, rfl, rfl, fun X' hX' => am_run hX' 400 _ _ _ _ ?_⟩; conv => whnf)
    | (refine ⟨trivial, _, rfl, ?_⟩; conv => whnf)
    | (refine ⟨rfl, _, rfl, ?_⟩; conv => whnf)
  try simp only [upd_self, mm_iz]
  exact ⟨trivial, rfl, rfl⟩
set_option maxHeartbeats 10000000 in
set_option maxRecDepth 100000 in
theorem fm_mm {d : Nat} {q : Int32} : am_M (d + 5) false nm_X12_measure [aR 108, aI 0, aI q] mmS (fun r _ => r = .inl (some (aI 0))) := by
  refine ⟨rfl, rfl, rfl, fun X hX => am_run hX 5 _ _ _ _ ?_⟩
  conv => whnf
  refine ⟨fun c => absurd c (by decide), fun _ => ?_⟩
  show X _ _ _ (th0 mmS)
  refine am_run hX 400 _ _ _ _ ?_
  conv => whnf
  refine ⟨fun _ => ?_, fun c => absurd (by decide) c⟩
  conv => whnf
  refine ⟨fun c => absurd c (by decide), fun _ => ?_⟩
  conv => whnf
  refine ⟨by unfold vp_in; decide, ?_⟩
  conv => whnf
  refine ⟨fun c => absurd (by decide) c, fun _ => ?_⟩
  conv => whnf
  refine ⟨fun _ => ?_, fun c => absurd (by decide) c⟩
  conv => whnf
  refine ⟨fun _ => ?_, fun c => absurd (by decide) c⟩
  conv => whnf
  refine am_c0 fm_rd ?_
  conv => whnf
  repeat first
    | (refine ⟨fun _ => ?_, fun c => absurd (by decide) c⟩; conv => whnf)
    | (refine ⟨fun c => absurd c (by decide), fun _ => ?_⟩; conv => whnf)
    | (refine ⟨by unfold vp_in; decide, ?_⟩; conv => whnf)
    | (refine ⟨⟨rfl, rfl⟩, ?_⟩; conv => whnf)
    | (refine am_inl ⟨rfl, rfl, rfl, fun X' hX' => am_run hX' 400 _ _ _ _ ?_⟩; conv => whnf)
    | (refine ⟨trivial, _, rfl, ?_⟩; conv => whnf)
    | (refine ⟨rfl, _, rfl, ?_⟩; conv => whnf)
  exact ⟨trivial, rfl⟩
set_option maxRecDepth 100000 in
theorem fm_rx0 {d : Nat} : am_M (d + 4) false nm_X11_row [aR 0, aI 0, aI 0] mm_0 (am_q1 (aI 0) mmS) := by
  refine ⟨rfl, rfl, rfl, fun X hX => am_run hX 100 _ _ _ _ ?_⟩
  conv => whnf
  refine ⟨fun c => absurd c (by decide), fun _ => ?_⟩
  conv => whnf
  refine ⟨fun _ => ?_, fun c => absurd (by decide) c⟩
  conv => whnf
  refine am_c0 fm_st ?_
  conv => whnf
  refine ⟨fun _ => ?_, fun e => absurd rfl e⟩
  conv => whnf
  refine ⟨by unfold vp_in; decide, ?_⟩
  conv => whnf
  exact ⟨trivial, rfl, rfl⟩
set_option maxRecDepth 100000 in
theorem fm_rm0 {d : Nat} : am_M (d + 4) false nm_X12_row [aR 108, aI 0, aI 0] mmS (fun r _ => r = .inl (some (aI 0))) := by
  refine ⟨rfl, rfl, rfl, fun X hX => am_run hX 5 _ _ _ _ ?_⟩
  conv => whnf
  refine ⟨fun c => absurd c (by decide), fun _ => ?_⟩
  show X _ _ _ (th0 mmS)
  refine am_run hX 100 _ _ _ _ ?_
  conv => whnf
  refine ⟨fun c => absurd c (by decide), fun _ => ?_⟩
  conv => whnf
  refine ⟨fun c => absurd c (by decide), fun _ => ?_⟩
  conv => whnf
  refine ⟨fun _ => ?_, fun c => absurd (by decide) c⟩
  conv => whnf
  refine am_c0 fm_rd ?_
  conv => whnf
  refine ⟨fun c => absurd rfl c, fun _ => ?_⟩
  conv => whnf
  refine ⟨by unfold vp_in; decide, ?_⟩
  conv => whnf
  exact ⟨trivial, rfl⟩
set_option maxRecDepth 100000 in
theorem fm_rx1 {d : Nat} : am_M (d + 4) false nm_X11_row [aR 0, aI 0, aI 1] mm_0 (am_q1 (aI 1) mmS) := by
  refine ⟨rfl, rfl, rfl, fun X hX => am_run hX 100 _ _ _ _ ?_⟩
  conv => whnf
  refine ⟨fun c => absurd c (by decide), fun _ => ?_⟩
  conv => whnf
  refine ⟨fun _ => ?_, fun c => absurd (by decide) c⟩
  conv => whnf
  refine am_c0 fm_st ?_
  conv => whnf
  refine ⟨fun e => absurd e (by decide), fun _ => ?_⟩
  conv => whnf
  refine ⟨fun _ => ?_, fun e => absurd rfl e⟩
  conv => whnf
  refine ⟨by unfold vp_in; decide, ?_⟩
  conv => whnf
  exact ⟨trivial, rfl, rfl⟩
set_option maxRecDepth 100000 in
theorem fm_rm1 {d : Nat} : am_M (d + 4) false nm_X12_row [aR 108, aI 0, aI 1] mmS (fun r _ => r = .inl (some (aI 1))) := by
  refine ⟨rfl, rfl, rfl, fun X hX => am_run hX 5 _ _ _ _ ?_⟩
  conv => whnf
  refine ⟨fun c => absurd c (by decide), fun _ => ?_⟩
  show X _ _ _ (th0 mmS)
  refine am_run hX 100 _ _ _ _ ?_
  conv => whnf
  refine ⟨fun c => absurd c (by decide), fun _ => ?_⟩
  conv => whnf
  refine ⟨fun c => absurd c (by decide), fun _ => ?_⟩
  conv => whnf
  refine ⟨fun _ => ?_, fun c => absurd (by decide) c⟩
  conv => whnf
  refine am_c0 fm_rd ?_
  conv => whnf
  refine ⟨fun _ => ?_, fun c => absurd (by decide) c⟩
  conv => whnf
  refine ⟨fun c => absurd rfl c, fun _ => ?_⟩
  conv => whnf
  refine ⟨by unfold vp_in; decide, ?_⟩
  conv => whnf
  exact ⟨trivial, rfl⟩
set_option maxRecDepth 100000 in
theorem fm_rx2 {d : Nat} : am_M (d + 4) false nm_X11_row [aR 0, aI 0, aI 2] mm_0 (am_q1 (aI 0) mmS) := by
  refine ⟨rfl, rfl, rfl, fun X hX => am_run hX 100 _ _ _ _ ?_⟩
  conv => whnf
  refine ⟨fun c => absurd c (by decide), fun _ => ?_⟩
  conv => whnf
  refine ⟨fun _ => ?_, fun c => absurd (by decide) c⟩
  conv => whnf
  refine am_c0 fm_st ?_
  conv => whnf
  refine ⟨fun e => absurd e (by decide), fun _ => ?_⟩
  conv => whnf
  refine ⟨fun e => absurd e (by decide), fun _ => ?_⟩
  conv => whnf
  refine ⟨fun _ => ?_, fun e => absurd rfl e⟩
  conv => whnf
  refine ⟨by unfold vp_in; decide, ?_⟩
  conv => whnf
  exact ⟨trivial, rfl, rfl⟩
set_option maxRecDepth 100000 in
theorem fm_rm2 {d : Nat} : am_M (d + 4) false nm_X12_row [aR 108, aI 0, aI 2] mmS (fun r _ => r = .inl (some (aI 0))) := by
  refine ⟨rfl, rfl, rfl, fun X hX => am_run hX 5 _ _ _ _ ?_⟩
  conv => whnf
  refine ⟨fun c => absurd c (by decide), fun _ => ?_⟩
  show X _ _ _ (th0 mmS)
  refine am_run hX 100 _ _ _ _ ?_
  conv => whnf
  refine ⟨fun c => absurd c (by decide), fun _ => ?_⟩
  conv => whnf
  refine ⟨fun c => absurd c (by decide), fun _ => ?_⟩
  conv => whnf
  refine ⟨fun _ => ?_, fun c => absurd (by decide) c⟩
  conv => whnf
  refine am_c0 fm_rd ?_
  conv => whnf
  refine ⟨fun _ => ?_, fun c => absurd (by decide) c⟩
  conv => whnf
  refine ⟨fun _ => ?_, fun c => absurd (by decide) c⟩
  conv => whnf
  refine ⟨by unfold vp_in; decide, ?_⟩
  conv => whnf
  exact ⟨trivial, rfl⟩
set_option maxRecDepth 100000 in
theorem fm_rxn {d : Nat} {q : Int32} (h : ¬ q = 0 ∧ ¬ q = 1 ∧ ¬ q = 2) : am_M (d + 4) false nm_X11_row [aR 0, aI 0, aI q] mm_0 (am_q1 (aI (-1)) mmS) := by
  refine ⟨rfl, rfl, rfl, fun X hX => am_run hX 100 _ _ _ _ ?_⟩
  conv => whnf
  refine ⟨fun c => absurd c (by decide), fun _ => ?_⟩
  conv => whnf
  refine ⟨fun _ => ?_, fun c => absurd (by decide) c⟩
  conv => whnf
  refine am_c0 fm_st ?_
  conv => whnf
  refine ⟨fun e => absurd e h.1, fun _ => ?_⟩
  conv => whnf
  refine ⟨fun e => absurd e h.2.1, fun _ => ?_⟩
  conv => whnf
  refine ⟨fun e => absurd e h.2.2, fun _ => ?_⟩
  conv => whnf
  exact ⟨trivial, rfl, rfl⟩
set_option maxRecDepth 100000 in
theorem fm_rmn {d : Nat} {q : Int32} (h : q < 0 ∨ ¬ q ≤ 2) : am_M (d + 4) false nm_X12_row [aR 108, aI 0, aI q] mmS (fun r _ => r = .inl (some (aI (-1)))) := by
  refine ⟨rfl, rfl, rfl, fun X hX => am_run hX 100 _ _ _ _ ?_⟩
  conv => whnf
  refine ⟨fun c => absurd c (by decide), fun _ => ?_⟩
  conv => whnf
  refine ⟨fun c => absurd c (by decide), fun _ => ?_⟩
  conv => whnf
  refine ⟨fun c => ?_, fun c => ?_⟩
  · conv => whnf
    exact ⟨trivial, rfl⟩
  · conv => whnf
    refine ⟨fun c2 => absurd c2 (h.resolve_left c), fun c2 => ?_⟩
    conv => whnf
    exact ⟨trivial, rfl⟩
set_option maxRecDepth 100000 in
theorem fm_xn_measure {d : Nat} {p q : Int32} (h : p < 0 ∨ ¬ p < 1) : am_M (d + 4) false nm_X11_measure [aR 0, aI p, aI q] mm_0 (am_q1 (aI (-1)) mm_0) := by
  refine ⟨rfl, rfl, rfl, fun X hX => am_run hX 100 _ _ _ _ ?_⟩
  conv => whnf
  refine ⟨fun c => ?_, fun c => ?_⟩
  · conv => whnf
    exact ⟨trivial, rfl, rfl⟩
  · conv => whnf
    refine ⟨fun c2 => absurd c2 (h.resolve_left c), fun c2 => ?_⟩
    conv => whnf
    exact ⟨trivial, rfl, rfl⟩
set_option maxRecDepth 100000 in
theorem fm_mn_measure {d : Nat} {p q : Int32} (h : p < 0 ∨ ¬ p < 1) : am_M (d + 4) false nm_X12_measure [aR 108, aI p, aI q] mm_0 (fun r _ => r = .inl (some (aI (-1)))) := by
  refine ⟨rfl, rfl, rfl, fun X hX => am_run hX 100 _ _ _ _ ?_⟩
  conv => whnf
  refine ⟨fun c => ?_, fun c => ?_⟩
  · conv => whnf
    exact ⟨trivial, rfl⟩
  · conv => whnf
    refine ⟨fun c2 => absurd c2 (h.resolve_left c), fun c2 => ?_⟩
    conv => whnf
    exact ⟨trivial, rfl⟩
set_option maxRecDepth 100000 in
theorem fm_xn_row {d : Nat} {p q : Int32} (h : p < 0 ∨ ¬ p < 1) : am_M (d + 4) false nm_X11_row [aR 0, aI p, aI q] mm_0 (am_q1 (aI (-1)) mm_0) := by
  refine ⟨rfl, rfl, rfl, fun X hX => am_run hX 100 _ _ _ _ ?_⟩
  conv => whnf
  refine ⟨fun c => ?_, fun c => ?_⟩
  · conv => whnf
    exact ⟨trivial, rfl, rfl⟩
  · conv => whnf
    refine ⟨fun c2 => absurd c2 (h.resolve_left c), fun c2 => ?_⟩
    conv => whnf
    exact ⟨trivial, rfl, rfl⟩
set_option maxRecDepth 100000 in
theorem fm_mn_row {d : Nat} {p q : Int32} (h : p < 0 ∨ ¬ p < 1) : am_M (d + 4) false nm_X12_row [aR 108, aI p, aI q] mm_0 (fun r _ => r = .inl (some (aI (-1)))) := by
  refine ⟨rfl, rfl, rfl, fun X hX => am_run hX 100 _ _ _ _ ?_⟩
  conv => whnf
  refine ⟨fun c => ?_, fun c => ?_⟩
  · conv => whnf
    exact ⟨trivial, rfl⟩
  · conv => whnf
    refine ⟨fun c2 => ?_, fun c2 => absurd (Int32.not_lt.mp (h.resolve_left c)) c2⟩
    conv => whnf
    exact ⟨trivial, rfl⟩
end FRC
