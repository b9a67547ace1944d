/-! SHORTEST: the reference's steps -/
/-- a step as an OP: h 0, h 1, s 0, s 1, z 1 with the CONTROL 0 -/
def stX (g : Nat) : bk_X := (if g < 2 then 3 else if g < 4 then 4 else 2, if g = 4 then 1 else g % 2, 0, if g = 4 then 1 else 0, 0, 0)
def szS (g : Nat) : Nat := if g < 4 then g + 6 else 18
theorem stX_o {g : Nat} (h : g < 5) : ogd 2 (stX g) := by
  rcases (by omega : g = 0 ∨ g = 1 ∨ g = 2 ∨ g = 3 ∨ g = 4) with rfl | rfl | rfl | rfl | rfl
  all_goals (unfold ogd bk_w; decide)
theorem stX_p {g : Nat} (h : g < 5) : pln (stX g) := by
  rcases (by omega : g = 0 ∨ g = 1 ∨ g = 2 ∨ g = 3 ∨ g = 4) with rfl | rfl | rfl | rfl | rfl
  all_goals (unfold pln; decide)
theorem stX_C : ∀ g, g < 5 → gC (stX g) = szS g := by decide
theorem szS_19 : ∀ g, g < 5 → szS g < 19 := by decide
section SHE
variable {d : Nat} {M : mm_M} {k : K4} {g : Nat}
set_option maxRecDepth 100000 in
theorem ct_kSt (h : g < 5) : am_M (d + 1) false nm_X12_kindOfStep [aI (nI g)] M (am_q1 (aI (nI (stX g).1)) M) := by
  refine ⟨rfl, rfl, rfl, fun X hX => am_run hX 3 _ _ _ _ ?_⟩
  rcases (by omega : g = 0 ∨ g = 1 ∨ g = 2 ∨ g = 3 ∨ g = 4) with rfl | rfl | rfl | rfl | rfl
  · conv => whnf
    refine ⟨fun z => absurd z (by decide), fun _ => ?_⟩
    refine am_run hX 3 _ _ _ _ ?_
    conv => whnf
    exact ⟨trivial, rfl, rfl⟩
  · conv => whnf
    refine ⟨fun z => absurd z (by decide), fun _ => ?_⟩
    refine am_run hX 3 _ _ _ _ ?_
    conv => whnf
    exact ⟨trivial, rfl, rfl⟩
  · conv => whnf
    refine ⟨fun _ => ?_, fun z => absurd (by decide) z⟩
    refine am_run hX 3 _ _ _ _ ?_
    conv => whnf
    refine ⟨fun z => absurd z (by decide), fun _ => ?_⟩
    refine am_run hX 3 _ _ _ _ ?_
    conv => whnf
    exact ⟨trivial, rfl, rfl⟩
  · conv => whnf
    refine ⟨fun _ => ?_, fun z => absurd (by decide) z⟩
    refine am_run hX 3 _ _ _ _ ?_
    conv => whnf
    refine ⟨fun z => absurd z (by decide), fun _ => ?_⟩
    refine am_run hX 3 _ _ _ _ ?_
    conv => whnf
    exact ⟨trivial, rfl, rfl⟩
  · conv => whnf
    refine ⟨fun _ => ?_, fun z => absurd (by decide) z⟩
    refine am_run hX 3 _ _ _ _ ?_
    conv => whnf
    refine ⟨fun _ => ?_, fun z => absurd (by decide) z⟩
    refine am_run hX 2 _ _ _ _ ?_
    conv => whnf
    exact ⟨trivial, rfl, rfl⟩
set_option maxRecDepth 100000 in
theorem ct_wSt (h : g < 5) : am_M (d + 1) false nm_X12_wireOfStep [aI (nI g)] M (am_q1 (aI (nI (stX g).2.1)) M) := by
  refine ⟨rfl, rfl, rfl, fun X hX => am_run hX 3 _ _ _ _ ?_⟩
  by_cases g4 : g = 4
  · subst g4
    conv => whnf
    refine ⟨fun z => absurd rfl z, fun _ => ?_⟩
    refine am_run hX 3 _ _ _ _ ?_
    conv => whnf
    exact ⟨trivial, rfl, rfl⟩
  · conv => whnf
    refine ⟨fun _ => ?_, fun z => absurd ((nI_eq (a := g) (b := 4) (by omega) (by decide)).mp (Decidable.byContradiction z)) g4⟩
    refine am_run hX 4 _ _ _ _ ?_
    conv => whnf
    rw [nI_m1]
    have e : (stX g).2.1 = g % 2 := by
      unfold stX
      show (if g = 4 then 1 else g % 2) = _
      rw [if_neg g4]
    exact ⟨trivial, by rw [e], rfl⟩
set_option maxRecDepth 100000 in
theorem ct_stpT (h : g < 5) (hk : k4 k) : am_M (d + 5) false nm_X12_step [aR 108, aI (nI (kK k)), aI (nI g)] M (fun r N => r = .inl (some (aI (nI (kK (szP (szS g) k))))) ∧ g45 M N) := by
  have key := ct_thr (d := d) (M := M) (stX_o h) (stX_p h) hk
  rw [stX_C g h, show nI (stX g).2.2.1 = 0 from rfl] at key
  refine ⟨rfl, rfl, rfl, fun X hX => am_run hX 4 _ _ _ _ ?_⟩
  conv => whnf
  refine am_c1 (ct_kSt (d := d + 3) h) ?_
  refine am_run hX 2 _ _ _ _ ?_
  conv => whnf
  refine am_c1 (ct_wSt (d := d + 3) h) ?_
  refine am_run hX 4 _ _ _ _ ?_
  conv => whnf
  refine ⟨fun z => ?_, fun z => ?_⟩
  · have g4 : g ≠ 4 := fun e => z (by rw [e]; rfl)
    rw [show nI (stX g).2.2.2.1 = 0 from by
      unfold stX
      show nI (if g = 4 then 1 else 0) = 0
      rw [if_neg g4]
      rfl] at key
    refine am_run hX 2 _ _ _ _ ?_
    conv => whnf
    refine am_cq key fun r1 N1 hq => ?_
    obtain ⟨rfl, f1⟩ := hq
    refine ⟨_, rfl, ?_⟩
    refine am_run hX 1 _ _ _ _ ?_
    conv => whnf
    exact ⟨trivial, rfl, f1⟩
  · have g4 : g = 4 := (nI_eq (a := g) (b := 4) (by omega) (by decide)).mp (Decidable.byContradiction z)
    subst g4
    rw [show nI (stX 4).2.2.2.1 = 1 from rfl] at key
    refine am_run hX 3 _ _ _ _ ?_
    conv => whnf
    refine am_cq key fun r1 N1 hq => ?_
    obtain ⟨rfl, f1⟩ := hq
    refine ⟨_, rfl, ?_⟩
    refine am_run hX 1 _ _ _ _ ?_
    conv => whnf
    exact ⟨trivial, rfl, f1⟩
end SHE
