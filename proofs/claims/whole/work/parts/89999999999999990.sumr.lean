/-! THE PAIR sum: the reference's side -/
section SMR
variable {d : Nat} {M : mm_M} {A B : SU}
def P1 : Nat → Int64 := fun x => if x = 0 then 1 else 0
def Q1 : Nat → Int64 := fun _ => 0
theorem enu_1 : enu P1 Q1 1 (fun _ => 0) := by
  refine ⟨fun i j hij hj => by omega, fun x => ⟨?_, ?_⟩⟩
  · rintro ⟨l, _, rfl⟩
    show 0 < 65536 ∧ nzJ (P1 0) (Q1 0) = true
    decide
  · rintro ⟨_, h⟩
    by_cases e : x = 0
    · exact ⟨0, by decide, e.symm⟩
    · unfold P1 Q1 at h
      rw [if_neg e] at h
      exact absurd h (by decide)
theorem enu_0 {κ : Nat → Nat} : enu Q1 Q1 0 κ := ⟨fun i j _ hj => absurd hj (Nat.not_lt_zero _), fun x => ⟨fun ⟨l, hl, _⟩ => absurd hl (Nat.not_lt_zero _), fun h => absurd h.2 (by show ¬ nzJ 0 0 = true; decide)⟩⟩
theorem ok_1 : okN P1 Q1 0 1 (fun _ => 0) = true := by decide
theorem ok_0 : okN Q1 Q1 0 0 (fun _ => 0) = true := by decide
theorem rsS_same {x : Nat} {S T : SU} (e : sameS S T) (h : rsS M x S) : rsS M x T := by
  obtain ⟨e1, e2, e3⟩ := e
  refine ⟨by rw [← e1]; exact h.1, by rw [← e2]; exact h.2.1, fun i hi => ?_⟩
  rw [← e1] at hi
  rw [← (e3 i hi).1, ← (e3 i hi).2.1, ← (e3 i hi).2.2]
  exact h.2.2 i hi
theorem same_1 : sameS (newS P1 Q1 0 1 (fun _ => 0)) oneU := ⟨rfl, by decide, fun i _ => ⟨rfl, rfl, rfl⟩⟩
theorem same_0 : sameS (newS Q1 Q1 0 0 (fun _ => 0)) nilU := ⟨rfl, by decide, fun i hi => absurd hi (Nat.not_lt_zero _)⟩
set_option maxRecDepth 100000 in
theorem sr_0 (hw : wkM M) : am_M (d + 4) false nm_X12_sum [aR 108, aI (nI 0)] M (ssE (th0 M) P1 Q1 0 1 (fun _ => 0)) := by
  obtain ⟨n0, kk0, hn0, hw⟩ := wkM_th hw
  refine ⟨rfl, rfl, rfl, fun X hX => am_run hX 40 _ _ _ _ ?_⟩
  conv => whnf
  refine ⟨fun _ => ?_, fun c => absurd rfl c⟩
  conv => whnf
  have hcl := ct_clrR (d := d + 2) (M := th0 M) hw
  rw [wF_self hn0] at hcl
  refine am_cq hcl ?_
  rintro r M' ⟨rfl, tc, fc, gc, hz, rfl⟩
  refine ⟨none, rfl, ?_⟩
  conv => whnf
  refine am_cq (ct_workR (d := d + 2) (M := th0 M) (k := 0) (p := 1) (r := 0) (wkO_0 (kk := fun _ => 0) hz) (by decide) (by decide)) ?_
  rintro r M' ⟨rfl, n2, q2, t2, kk2, h2, hw2, rfl⟩
  refine ⟨none, rfl, ?_⟩
  conv => whnf
  refine am_cq (ct_ssumR (d := d) (M := th0 M) (P := P1) (Q := Q1) (κ := fun _ => 0) hw2 (over := 0) (by decide) (fun x hx => ?_) (Or.inl enu_1)) ?_
  · unfold vp_updL P1 Q1
    by_cases e : x = 0
    · rw [if_pos e, if_pos e, if_pos e, (hz 0 (by decide)).2.1, (hz 0 (by decide)).2.2]
      exact ⟨rfl, rfl⟩
    · rw [if_neg e, if_neg e, if_neg e, (hz x hx).2.1, (hz x hx).2.2]
      exact ⟨rfl, rfl⟩
  · intro r M' hE
    have hE' := hE
    obtain ⟨_, _, _, ⟨_, rfl, _⟩ | ⟨_, rfl, _⟩⟩ := hE'
    all_goals (
      refine ⟨_, rfl, ?_⟩
      conv => whnf
      exact ⟨trivial, hE⟩)
set_option maxRecDepth 100000 in
theorem sr_1 (hw : wkM M) : am_M (d + 4) false nm_X12_sum [aR 108, aI (nI 1)] M (ssE (th0 M) Q1 Q1 0 0 (fun _ => 0)) := by
  obtain ⟨n0, kk0, hn0, hw⟩ := wkM_th hw
  refine ⟨rfl, rfl, rfl, fun X hX => am_run hX 40 _ _ _ _ ?_⟩
  conv => whnf
  refine ⟨fun c => absurd c (by decide), fun _ => ?_⟩
  conv => whnf
  refine ⟨fun _ => ?_, fun c => absurd rfl c⟩
  conv => whnf
  have hcl := ct_clrR (d := d + 2) (M := th0 M) hw
  rw [wF_self hn0] at hcl
  refine am_cq hcl ?_
  rintro r M' ⟨rfl, tc, fc, gc, hz, rfl⟩
  refine ⟨none, rfl, ?_⟩
  conv => whnf
  refine am_cq (ct_ssumR (d := d) (M := th0 M) (P := Q1) (Q := Q1) (κ := fun _ => 0) (wkO_0 (kk := fun _ => 0) hz) (over := 0) (by decide) (fun x hx => ⟨(hz x hx).2.1, (hz x hx).2.2⟩) (Or.inl enu_0)) ?_
  intro r M' hE
  have hE' := hE
  obtain ⟨_, _, _, ⟨_, rfl, _⟩ | ⟨_, rfl, _⟩⟩ := hE'
  all_goals (
    refine ⟨_, rfl, ?_⟩
    conv => whnf
    exact ⟨trivial, hE⟩)
set_option maxRecDepth 100000 in
theorem sr_2 : am_M (d + 2) false nm_X12_sum [aR 108, aI (nI 2)] M (am_q1 (aI (M.1 141 1)) (swE (th0 M))) := by
  have h0 : vp_in 0 2 := vp_in_nI (n := 0) (N := 2) (by decide) (by decide)
  refine ⟨rfl, rfl, rfl, fun X hX => am_run hX 40 _ _ _ _ ?_⟩
  conv => whnf
  iterate 2
    refine ⟨fun c => absurd c (by decide), fun _ => ?_⟩
    conv => whnf
  refine ⟨fun _ => ?_, fun c => absurd rfl c⟩
  conv => whnf
  refine am_c0 (ct_swR (d := d) (M := th0 M)) ?_
  conv => whnf
  refine ⟨h0, ?_⟩
  conv => whnf
  exact ⟨trivial, rfl, rfl⟩
set_option maxRecDepth 100000 in
theorem sr_3 {k c : Nat} {sg : Int32} {κ : Nat → Nat} (hk : k = 3 ∧ sg = 1 ∨ k = 4 ∧ sg = -1) (h1 : rsS M 0 A) (h2 : rsS M 1 B) (oA : orS A) (oB : orS B) (hw : wkM M) (he : ¬ farR A B → enX (suP (max A.2.1 B.2.1) sg A B) (suQ (max A.2.1 B.2.1) sg A B) c κ) : am_M (d + 5) false nm_X12_sum [aR 108, aI (nI k)] M (fun r M' => (farR A B ∧ r = .inl (some (aI (-1))) ∧ M' = th0 M) ∨ (¬ farR A B ∧ ssE (th0 M) (suP (max A.2.1 B.2.1) sg A B) (suQ (max A.2.1 B.2.1) sg A B) (max A.2.1 B.2.1) c κ r M')) := by
  have key := ct_addR (d := d) (M := th0 M) (sg := sg) h1 h2 oA oB (wkM_th hw) he
  rcases hk with ⟨rfl, rfl⟩ | ⟨rfl, rfl⟩
  · refine ⟨rfl, rfl, rfl, fun X hX => am_run hX 40 _ _ _ _ ?_⟩
    conv => whnf
    iterate 3
      refine ⟨fun c => absurd c (by decide), fun _ => ?_⟩
      conv => whnf
    refine ⟨fun _ => ?_, fun c => absurd rfl c⟩
    conv => whnf
    refine am_cq key ?_
    intro r M' hE
    have hE' := hE
    obtain ⟨_, rfl, _⟩ | ⟨_, _, _, _, ⟨_, rfl, _⟩ | ⟨_, rfl, _⟩⟩ := hE'
    all_goals (
      refine ⟨_, rfl, ?_⟩
      conv => whnf
      exact ⟨trivial, hE⟩)
  · refine ⟨rfl, rfl, rfl, fun X hX => am_run hX 40 _ _ _ _ ?_⟩
    conv => whnf
    iterate 4
      refine ⟨fun c => absurd c (by decide), fun _ => ?_⟩
      conv => whnf
    refine ⟨fun _ => ?_, fun c => absurd rfl c⟩
    conv => whnf
    refine am_cq key ?_
    intro r M' hE
    have hE' := hE
    obtain ⟨_, rfl, _⟩ | ⟨_, _, _, _, ⟨_, rfl, _⟩ | ⟨_, rfl, _⟩⟩ := hE'
    all_goals (
      refine ⟨_, rfl, ?_⟩
      conv => whnf
      exact ⟨trivial, hE⟩)
set_option maxRecDepth 100000 in
theorem sr_5 {k c : Nat} {o : Int32} {κ : Nat → Nat} {K : Nat → Nat → Nat} {T U : Nat → Nat → Int64} (hk : k = 5 ∧ o = 0 ∨ k = 6 ∧ o = 1) (ho : mwR o A B K T U) (h1 : rsS M 0 A) (h2 : rsS M 1 B) (oA : orS A) (oB : orS B) (hw : wkM M) (he : enX (fun x => dbl K T B.1 x A.1) (fun x => dbl K U B.1 x A.1) c κ) : am_M (d + 5) false nm_X12_sum [aR 108, aI (nI k)] M (ssE (th0 M) (fun x => dbl K T B.1 x A.1) (fun x => dbl K U B.1 x A.1) (A.2.1 + B.2.1) c κ) := by
  have key := ct_mulR (d := d) (M := th0 M) ho h1 h2 oA oB (wkM_th hw) he
  rcases hk with ⟨rfl, rfl⟩ | ⟨rfl, rfl⟩
  · refine ⟨rfl, rfl, rfl, fun X hX => am_run hX 40 _ _ _ _ ?_⟩
    conv => whnf
    iterate 5
      refine ⟨fun c => absurd c (by decide), fun _ => ?_⟩
      conv => whnf
    refine ⟨fun _ => ?_, fun c => absurd rfl c⟩
    conv => whnf
    refine am_cq key ?_
    intro r M' hE
    have hE' := hE
    obtain ⟨_, _, _, ⟨_, rfl, _⟩ | ⟨_, rfl, _⟩⟩ := hE'
    all_goals (
      refine ⟨_, rfl, ?_⟩
      conv => whnf
      exact ⟨trivial, hE⟩)
  · refine ⟨rfl, rfl, rfl, fun X hX => am_run hX 40 _ _ _ _ ?_⟩
    conv => whnf
    iterate 6
      refine ⟨fun c => absurd c (by decide), fun _ => ?_⟩
      conv => whnf
    refine ⟨fun _ => ?_, fun c => absurd rfl c⟩
    conv => whnf
    refine am_cq key ?_
    intro r M' hE
    have hE' := hE
    obtain ⟨_, _, _, ⟨_, rfl, _⟩ | ⟨_, rfl, _⟩⟩ := hE'
    all_goals (
      refine ⟨_, rfl, ?_⟩
      conv => whnf
      exact ⟨trivial, hE⟩)
set_option maxRecDepth 100000 in
theorem sr_d {how : Int32} (h : how < 0 ∨ 7 < how) : am_M (d + 1) false nm_X12_sum [aR 108, aI how] M (am_q1 (aI (-1)) (th0 M)) := by
  refine ⟨rfl, rfl, rfl, fun X hX => am_run hX 30 _ _ _ _ ?_⟩
  conv => whnf
  iterate 8
    refine ⟨fun c => ?_, fun _ => ?_⟩
    · rw [c] at h
      exact absurd h (by decide)
    conv => whnf
  exact ⟨trivial, rfl, rfl⟩
end SMR
