/-! THE PAIR sum -/
section SUM
variable {d : Nat} {M N M' : mm_M} {a b : Nat} {A B : SU}
theorem sm_mk2 (hr : sm_r M a b) (g1 : N.1 84 = M.1 84) (g2 : N.1 88 = M.1 88) (g3 : N.1 92 = M.1 92) (hz : ∀ z, z < 256 → N.2 101 z = 0 ∧ N.2 102 z = 0) (c1 : csS N a 0 A) (c2 : csS N b 1 B) (hR : rsF N M') (r1 : rsS M' 0 A) (r2 : rsS M' 1 B) (o1 : okS A) (o2 : okS B) (hw : wkM M') : smI M' := by
  have hN : sm_r N a b := by
    unfold sm_r at *
    rw [g1, g2, g3]
    exact hr
  exact sm_mk hN (csG_r N) hz c1 c2 hR r1 r2 o1 o2 hw
set_option maxRecDepth 100000 in
theorem sx_g {q q' : am_Q} {how : Int32} (hc : am_M (d + 1) false nm_X9_change [aR 83, aI how] M q) (h : ∀ r M', q r M' → (r = .inl (some (aI 1)) ∧ q' (.inl (some (aI (M'.1 96 0)))) M') ∨ (r = .inl (some (aI 0)) ∧ q' (.inl (some (aI (-1)))) M')) : am_M (d + 2) false nm_X11_sum [aR 0, aI how] M q' := by
  have h0 : vp_in 0 3 := vp_in_nI (n := 0) (N := 3) (by decide) (by decide)
  refine ⟨rfl, rfl, rfl, fun X hX => am_run hX 30 _ _ _ _ ?_⟩
  conv => whnf
  refine am_cq hc ?_
  intro r M' hq
  rcases h r M' hq with ⟨rfl, h⟩ | ⟨rfl, h⟩
  · refine ⟨_, rfl, ?_⟩
    conv => whnf
    refine ⟨fun c => absurd c (by decide), fun _ => ?_⟩
    conv => whnf
    refine ⟨h0, ?_⟩
    conv => whnf
    exact ⟨trivial, h⟩
  · refine ⟨_, rfl, ?_⟩
    conv => whnf
    refine ⟨fun _ => ?_, fun c => absurd rfl c⟩
    conv => whnf
    exact ⟨trivial, h⟩
def oneU : SU := (1, 0, fun _ => 0, fun _ => 1, fun _ => 0)
def nilU : SU := (0, 0, fun _ => 0, fun _ => 0, fun _ => 0)
theorem okS_1 : okS oneU := by
  refine ⟨by decide, by decide, fun i j hij hj => ?_, fun i _ => ⟨by show 0 < 65536; decide, by show smJ (1 : Int32).toInt64 = true; decide, by show smJ (0 : Int32).toInt64 = true; decide, by show nzJ (1 : Int32).toInt64 (0 : Int32).toInt64 = true; decide⟩, fun h => absurd h (by decide), Or.inl rfl⟩
  have hj : j < 1 := hj
  omega
theorem okS_0 : okS nilU := ⟨by decide, by decide, fun i j _ hj => absurd hj (Nat.not_lt_zero _), fun i hi => absurd hi (Nat.not_lt_zero _), fun _ => rfl, Or.inl rfl⟩
/-- a step of the class that gives A anew -/
def cgE (M : mm_M) (a b : Nat) (S : SU) : am_Q := fun r M' => r = .inl (some (aI 1)) ∧ csF M M' ∧ csG M M' ∧ (∀ B, csS M b 1 B → csS M' b 1 B) ∧ csS M' a 0 S
set_option maxRecDepth 100000 in
theorem cg_0 (hr : sm_r M a b) : am_M (d + 2) false nm_X9_change [aR 83, aI (nI 0)] M (cgE M a b oneU) := by
  obtain ⟨hab, ⟨a1, a2, a3⟩, ⟨b1, b2, b3⟩, ⟨c1, c2, c3⟩⟩ := hr
  have h0 : vp_in 0 3 := vp_in_nI (n := 0) (N := 3) (by decide) (by decide)
  have fr : csF M (stMx (mm_i M 96 (upd (M.1 96) 0 0)) 0 a 0 0 1 0) := csF_t (csF_i (k := 96) (by decide)) (csF_t (csF_t (csF_t (csF_t (csF_i (k := 85 + a) (by omega)) (csF_i (k := 89 + a) (by omega))) (csF_i (k := 93 + a) (by omega))) (csF_i (k := 96) (by decide))) (csF_i (k := 97) (by decide)))
  have cs : csS (stMx (mm_i M 96 (upd (M.1 96) 0 0)) 0 a 0 0 1 0) a 0 oneU := by
    rcases hab with ⟨rfl, rfl⟩ | ⟨rfl, rfl⟩
    all_goals (
      refine ⟨rfl, rfl, fun i hi => ?_⟩
      have hi : i < 1 := hi
      have e : i = 0 := by omega
      subst e
      exact ⟨rfl, rfl, rfl⟩)
  have gg : csG M (stMx (mm_i M 96 (upd (M.1 96) 0 0)) 0 a 0 0 1 0) := by
    rcases hab with ⟨rfl, rfl⟩ | ⟨rfl, rfl⟩
    all_goals exact ⟨rfl, rfl, rfl, rfl, rfl⟩
  have kb : ∀ B, csS M b 1 B → csS (stMx (mm_i M 96 (upd (M.1 96) 0 0)) 0 a 0 0 1 0) b 1 B := by
    rcases hab with ⟨rfl, rfl⟩ | ⟨rfl, rfl⟩
    all_goals exact fun B hB => hB
  refine ⟨rfl, rfl, rfl, fun X hX => am_run hX 30 _ _ _ _ ?_⟩
  conv => whnf
  refine ⟨fun _ => ?_, fun c => absurd rfl c⟩
  conv => whnf
  refine ⟨h0, ?_⟩
  conv => whnf
  refine am_c0 (ct_setT (d := d) (M := mm_i M 96 (upd (M.1 96) 0 0)) (x := 0) (ph := a) (s := 0) (k := 0) (p := 1) (q := 0) (by omega) (by decide) a1 b1 c1 rfl) ?_
  conv => whnf
  exact ⟨rfl, rfl, fr, gg, kb, cs⟩
set_option maxRecDepth 100000 in
theorem cg_1 (hb : b = 0 ∨ b = 1) : am_M (d + 1) false nm_X9_change [aR 83, aI (nI 1)] M (cgE M a b nilU) := by
  have h0 : vp_in 0 3 := vp_in_nI (n := 0) (N := 3) (by decide) (by decide)
  refine ⟨rfl, rfl, rfl, fun X hX => am_run hX 30 _ _ _ _ ?_⟩
  conv => whnf
  refine ⟨fun c => absurd c (by decide), fun _ => ?_⟩
  conv => whnf
  refine ⟨fun _ => ?_, fun c => absurd rfl c⟩
  conv => whnf
  refine ⟨h0, ?_⟩
  conv => whnf
  refine ⟨h0, ?_⟩
  conv => whnf
  refine ⟨rfl, rfl, csF_t (csF_i (k := 96) (by decide)) (csF_i (k := 97) (by decide)), ⟨rfl, rfl, rfl, rfl, rfl⟩, fun B hB => ⟨hB.1, hB.2.1, fun i hi => ?_⟩, ⟨rfl, rfl, fun i hi => absurd hi (Nat.not_lt_zero _)⟩⟩
  have k := hB.2.2 i hi
  rcases hb with rfl | rfl
  · exact k
  · exact k
set_option maxRecDepth 100000 in
theorem cg_2 (hr : sm_r M a b) : am_M (d + 2) false nm_X9_change [aR 83, aI (nI 2)] M (am_q1 (aI 1) (exM M a b)) := by
  refine ⟨rfl, rfl, rfl, fun X hX => am_run hX 30 _ _ _ _ ?_⟩
  conv => whnf
  refine ⟨fun c => absurd c (by decide), fun _ => ?_⟩
  conv => whnf
  refine ⟨fun c => absurd c (by decide), fun _ => ?_⟩
  conv => whnf
  refine ⟨fun _ => ?_, fun c => absurd rfl c⟩
  conv => whnf
  refine am_c0 (ct_exC (d := d) hr) ?_
  conv => whnf
  exact ⟨rfl, rfl, rfl⟩
set_option maxRecDepth 100000 in
theorem cg_34 {k : Nat} {sg : Int32} (hk : k = 3 ∧ sg = 1 ∨ k = 4 ∧ sg = -1) (hr : sm_r M a b) (h1 : csS M a 0 A) (h2 : csS M b 1 B) (oA : orS A) (oB : orS B) : am_M (d + 5) false nm_X9_change [aR 83, aI (nI k)] M (adE M a b sg A B) := by
  rcases hk with ⟨rfl, rfl⟩ | ⟨rfl, rfl⟩
  all_goals (
    refine ⟨rfl, rfl, rfl, fun X hX => am_run hX 30 _ _ _ _ ?_⟩
    conv => whnf
    iterate 3
      refine ⟨fun c => absurd c (by decide), fun _ => ?_⟩
      conv => whnf
    try
      refine ⟨fun c => absurd c (by decide), fun _ => ?_⟩
      conv => whnf
    refine ⟨fun _ => ?_, fun c => absurd rfl c⟩
    conv => whnf
    refine am_cq (ct_addE (d := d) (xr := 1) (xp := b) hr (Or.inl ⟨rfl, rfl⟩) h1 h2 oA oB) ?_
    intro r M' hE
    have hE' := hE
    obtain ⟨_, _, _, ⟨_, rfl, _⟩ | ⟨_, _, _, _, ⟨_, rfl, _⟩ | ⟨_, rfl, _⟩⟩⟩ := hE'
    all_goals (
      refine ⟨_, rfl, ?_⟩
      conv => whnf
      exact ⟨rfl, hE⟩))
set_option maxRecDepth 100000 in
theorem cg_5 (hr : sm_r M a b) (h1 : csS M a 0 A) (h2 : csS M b 1 B) (oA : orS A) (oB : orS B) (hz : ∀ z, z < 256 → M.2 101 z = 0 ∧ M.2 102 z = 0) : am_M (d + 5) false nm_X9_change [aR 83, aI (nI 5)] M (mlE M a b A (fun x => dbl (fun i j => A.2.2.1 i ^^^ B.2.2.1 j) (tP A B) B.1 x A.1) (fun x => dbl (fun i j => A.2.2.1 i ^^^ B.2.2.1 j) (tQ A B) B.1 x A.1) (A.2.1 + B.2.1)) := by
  refine ⟨rfl, rfl, rfl, fun X hX => am_run hX 30 _ _ _ _ ?_⟩
  conv => whnf
  refine ⟨fun c => absurd c (by decide), fun _ => ?_⟩
  conv => whnf
  refine ⟨fun c => absurd c (by decide), fun _ => ?_⟩
  conv => whnf
  refine ⟨fun c => absurd c (by decide), fun _ => ?_⟩
  conv => whnf
  refine ⟨fun c => absurd c (by decide), fun _ => ?_⟩
  conv => whnf
  refine ⟨fun c => absurd c (by decide), fun _ => ?_⟩
  conv => whnf
  refine ⟨fun _ => ?_, fun c => absurd rfl c⟩
  conv => whnf
  have hr0 := hr
  obtain ⟨hab, ⟨a1, a2, a3⟩, ⟨b1, b2, b3⟩, ⟨c1, c2, c3⟩⟩ := hr
  refine am_cq (ct_mulC (d := d) (lr := 0) (lp := a) (rr := 1) (rp := b) hr0 (by unfold prR; omega) ⟨⟨a1, b1, c1⟩, ⟨a2, b2, c2⟩⟩ h1 h2 h1 oA oB hz) ?_
  intro r M' hE
  have hE' := hE
  obtain ⟨_, _, _, _, _, _, _, ⟨_, rfl, _⟩ | ⟨_, rfl, _⟩⟩ := hE'
  all_goals (
    refine ⟨_, rfl, ?_⟩
    conv => whnf
    exact ⟨rfl, hE⟩)
set_option maxRecDepth 100000 in
theorem cg_6 (hr : sm_r M a b) (h1 : csS M a 0 A) (h2 : csS M b 1 B) (oA : orS A) (oB : orS B) (hz : ∀ z, z < 256 → M.2 101 z = 0 ∧ M.2 102 z = 0) : am_M (d + 5) false nm_X9_change [aR 83, aI (nI 6)] M (mlE M a b A (fun x => dbl (fun i j => B.2.2.1 i ^^^ A.2.2.1 j) (tP B A) A.1 x B.1) (fun x => dbl (fun i j => B.2.2.1 i ^^^ A.2.2.1 j) (tQ B A) A.1 x B.1) (B.2.1 + A.2.1)) := by
  refine ⟨rfl, rfl, rfl, fun X hX => am_run hX 30 _ _ _ _ ?_⟩
  conv => whnf
  refine ⟨fun c => absurd c (by decide), fun _ => ?_⟩
  conv => whnf
  refine ⟨fun c => absurd c (by decide), fun _ => ?_⟩
  conv => whnf
  refine ⟨fun c => absurd c (by decide), fun _ => ?_⟩
  conv => whnf
  refine ⟨fun c => absurd c (by decide), fun _ => ?_⟩
  conv => whnf
  refine ⟨fun c => absurd c (by decide), fun _ => ?_⟩
  conv => whnf
  refine ⟨fun c => absurd c (by decide), fun _ => ?_⟩
  conv => whnf
  refine ⟨fun _ => ?_, fun c => absurd rfl c⟩
  conv => whnf
  have hr0 := hr
  obtain ⟨hab, ⟨a1, a2, a3⟩, ⟨b1, b2, b3⟩, ⟨c1, c2, c3⟩⟩ := hr
  refine am_cq (ct_mulC (d := d) (lr := 1) (lp := b) (rr := 0) (rp := a) hr0 (by unfold prR; omega) ⟨⟨a2, b2, c2⟩, ⟨a1, b1, c1⟩⟩ h2 h1 h1 oB oA hz) ?_
  intro r M' hE
  have hE' := hE
  obtain ⟨_, _, _, _, _, _, _, ⟨_, rfl, _⟩ | ⟨_, rfl, _⟩⟩ := hE'
  all_goals (
    refine ⟨_, rfl, ?_⟩
    conv => whnf
    exact ⟨rfl, hE⟩)
set_option maxRecDepth 100000 in
theorem cg_d {how : Int32} (h : how < 0 ∨ 7 < how) : am_M (d + 1) false nm_X9_change [aR 83, aI how] M (am_q1 (aI 0) M) := by
  refine ⟨rfl, rfl, rfl, fun X hX => am_run hX 30 _ _ _ _ ?_⟩
  conv => whnf
  iterate 8
    refine ⟨fun c => ?_, fun _ => ?_⟩
    · rw [c] at h
      exact absurd h (by decide)
    conv => whnf
  exact ⟨rfl, rfl, rfl⟩
end SUM
