/-! DIAGRAMS: pivot at the class: the tests, and whole -/
theorem or_4 {x y : Nat} (hx : x < 8) (hy : y < 8) : (x ||| y) % 4 = 0 ↔ x % 4 = 0 ∧ y % 4 = 0 := by
  have : ∀ x, x < 8 → ∀ y, y < 8 → ((x ||| y) % 4 = 0 ↔ x % 4 = 0 ∧ y % 4 = 0) := by decide
  exact this x hx y hy
section PVG
variable {d m inp a b : Nat} {N : mm_M} {W : WB}
/-- what the class tests -/
def pfS (W : WB) (a b : Nat) (j : Nat) : Bool := decide ((W.2.2 a j = 2 ∧ j ≠ b) ∨ (W.2.2 b j = 2 ∧ j ≠ a))
theorem pf_nx {j : Nat} (g : gdW m inp W) (hab : a ≠ b) (n1 : ∀ j, W.2.2 a j ≠ 1 ∧ W.2.2 b j ≠ 1) : pfS W a b j = true ↔ nxP W j a b := by
  obtain ⟨g1, g2, g3, g4, g5, g6, g7, g8, g9, g10, g11⟩ := g
  have k1 := n1 j
  have b1 := g9 a j
  have b2 := g9 b j
  unfold pfS nxP
  rw [decide_eq_true_iff, g7 j a, g7 j b]
  constructor
  · rintro (⟨h1, h2⟩ | ⟨h1, h2⟩)
    · refine ⟨fun z => ?_, h2, Or.inl (by omega)⟩
      rw [z, g8] at h1
      exact absurd h1 (by decide)
    · refine ⟨h2, fun z => ?_, Or.inr (by omega)⟩
      rw [z, g8] at h1
      exact absurd h1 (by decide)
  · rintro ⟨h1, h2, h3 | h3⟩
    · exact Or.inl ⟨by omega, h2⟩
    · exact Or.inr ⟨by omega, h1⟩
theorem pv_iff (g : gdW m inp W) (he : edW inp W 2 a b) : pvOK inp W a b ↔ (W.2.1 a % 4 = 0 ∧ W.2.1 b % 4 = 0) ∧ (∀ j, W.2.2 a j ≠ 1 ∧ W.2.2 b j ≠ 1) ∧ frP inp W (pfS W a b) := by
  have he0 := he
  obtain ⟨ia, ib, hab, e2⟩ := he
  have hne : a ≠ b := Nat.ne_of_lt hab
  have g0 := g
  obtain ⟨g1, g2, g3, g4, g5, g6, g7, g8, g9, g10, g11⟩ := g
  constructor
  · rintro ⟨_, p1, p2, f1, f2, hn⟩
    have n1 : ∀ j, W.2.2 a j ≠ 1 ∧ W.2.2 b j ≠ 1 := fun j => by
      refine ⟨fun z => ?_, fun z => ?_⟩
      · have := (f1 j (by omega)).1
        omega
      · have := (f2 j (by omega)).1
        omega
    refine ⟨⟨p1, p2⟩, n1, fun i j hi hj => ?_, fun i hi => ?_⟩
    · have hi := (pf_nx g0 hne n1).mp hi
      have hj := (pf_nx g0 hne n1).mp hj
      rcases Nat.lt_trichotomy i j with h | h | h
      · rw [g7]
        exact hn j i h hj hi
      · rw [h, g8]
        decide
      · exact hn i j h hi hj
    · rcases of_decide_eq_true hi with ⟨h1, _⟩ | ⟨h1, _⟩
      · exact (f1 i (by omega)).2
      · exact (f2 i (by omega)).2
  · rintro ⟨⟨p1, p2⟩, n1, f1, f2⟩
    refine ⟨he0, p1, p2, fun j hj => ?_, fun j hj => ?_, fun i j hji hi hj => f1 i j ((pf_nx g0 hne n1).mpr hi) ((pf_nx g0 hne n1).mpr hj)⟩
    · have e : W.2.2 a j = 2 := by
        have := (n1 j).1
        have := g9 a j
        omega
      refine ⟨e, ?_⟩
      by_cases ej : j = b
      · rw [ej]
        exact ib.2
      · exact f2 j (decide_eq_true (Or.inl ⟨e, ej⟩))
    · have e : W.2.2 b j = 2 := by
        have := (n1 j).2
        have := g9 b j
        omega
      refine ⟨e, ?_⟩
      by_cases ej : j = a
      · rw [ej]
        exact ia.2
      · exact f2 j (decide_eq_true (Or.inr ⟨e, ej⟩))
set_option maxRecDepth 100000 in
theorem pt_1 {Pp : am_Q} {X : am_X} (hX : am_K d false nm_X10_pivot Pp X) (la : a < 60) (lb : b < 60) (hK : X 64 [some (aR 39), some (aI (nI a)), some (aI (nI b)), some (aJ (N.2 41 a &&& (shb b ^^^ -1))), none, some (aJ (N.2 41 b &&& (shb a ^^^ -1))), none, none, none, none, none, none, none] [] N) : X 33 [some (aR 39), some (aI (nI a)), some (aI (nI b)), none, none, none, none, none, none, none, none, none, none] [] N := by
  have hA : vp_in (nI a) 60 := vp_in_nI la (by decide)
  have hB : vp_in (nI b) 60 := vp_in_nI lb (by decide)
  refine am_run hX 22 _ _ _ _ ?_
  conv => whnf
  refine ⟨hA, ?_⟩
  conv => whnf
  refine ⟨hB, ?_⟩
  conv => whnf
  rw [nI_clamp (n := a) (by omega), nI_clamp (n := b) (by omega)]
  exact hK
set_option maxRecDepth 100000 in
theorem pt_2 {vA vB : Int64} {Pp : am_Q} {X : am_X} (hX : am_K d false nm_X10_pivot Pp X) (h : cwR N m inp W) (g : gdW m inp W) (ia : inW inp W a) (ib : inW inp W b) (hK : ∀ t : Nat, t < 2 → (t = 1 ↔ (W.2.1 a % 4 = 0 ∧ W.2.1 b % 4 = 0) ∧ ∀ j, W.2.2 a j ≠ 1 ∧ W.2.2 b j ≠ 1) → X 105 [some (aR 39), some (aI (nI a)), some (aI (nI b)), some (aJ vA), none, some (aJ vB), none, none, none, none, none, none, none] [aI (nI t)] N) : X 64 [some (aR 39), some (aI (nI a)), some (aI (nI b)), some (aJ vA), none, some (aJ vB), none, none, none, none, none, none, none] [] N := by
  have m60 := g.1
  have la := g.2.2.2.2.1 a ia.1
  have lb := g.2.2.2.2.1 b ib.1
  have pa := g.2.2.2.2.2.2.2.2.2.2 a ia.1
  have pb := g.2.2.2.2.2.2.2.2.2.2 b ib.1
  have hA : vp_in (nI a) 60 := vp_in_nI (by omega) (by decide)
  have hB : vp_in (nI b) 60 := vp_in_nI (by omega) (by decide)
  have no : ¬ ((W.2.1 a % 4 = 0 ∧ W.2.1 b % 4 = 0) ∧ ∀ j, W.2.2 a j ≠ 1 ∧ W.2.2 b j ≠ 1) → X 104 [some (aR 39), some (aI (nI a)), some (aI (nI b)), some (aJ vA), none, some (aJ vB), none, none, none, none, none, none, none] [] N := fun hq => by
    refine am_run hX 1 _ _ _ _ ?_
    conv => whnf
    exact hK 0 (by decide) ⟨fun z => absurd z (by decide), fun z => absurd z hq⟩
  refine am_run hX 12 _ _ _ _ ?_
  conv => whnf
  refine ⟨hA, ?_⟩
  conv => whnf
  refine ⟨hB, ?_⟩
  conv => whnf
  rw [nI_clamp (n := a) (by omega), nI_clamp (n := b) (by omega), h.2.2.2.1 a ia.1, h.2.2.2.1 b ib.1, nI_or, nI_m3]
  by_cases p4 : W.2.1 a % 4 = 0 ∧ W.2.1 b % 4 = 0
  · rw [(or_4 pa pb).mpr p4]
    refine ⟨fun c => absurd rfl c, fun _ => ?_⟩
    refine am_run hX 12 _ _ _ _ ?_
    conv => whnf
    refine ⟨hA, ?_⟩
    conv => whnf
    refine ⟨hB, ?_⟩
    conv => whnf
    rw [nI_clamp (n := a) (by omega), nI_clamp (n := b) (by omega), lg_0]
    refine ⟨fun z => ?_, fun z => ?_⟩
    · obtain ⟨j, hj, hb⟩ := bit_ex z
      rw [Int64.toBitVec_or, BitVec.getLsbD_or, (h.2.2.2.2 a la j hj).1, (h.2.2.2.2 b lb j hj).1, Bool.or_eq_true] at hb
      refine no fun y => ?_
      rcases hb with hb | hb
      · exact (y.2 j).1 (of_decide_eq_true hb)
      · exact (y.2 j).2 (of_decide_eq_true hb)
    · have z := Decidable.byContradiction z
      refine am_run hX 2 _ _ _ _ ?_
      conv => whnf
      refine hK 1 (by decide) ⟨fun _ => ⟨p4, fun j => ⟨fun e => ?_, fun e => ?_⟩⟩, fun _ => rfl⟩
      · have lj := g.2.2.2.2.1 j (g.2.2.2.2.2.2.2.2.2.1 a j (by omega)).2
        have := (h.2.2.2.2 a la j (by omega)).1
        have z2 : (N.2 40 a ||| N.2 40 b).toBitVec.getLsbD j = false := by rw [z]; exact bit_0 j
        rw [Int64.toBitVec_or, BitVec.getLsbD_or, this, decide_eq_true e, Bool.true_or] at z2
        exact absurd z2 (by decide)
      · have lj := g.2.2.2.2.1 j (g.2.2.2.2.2.2.2.2.2.1 b j (by omega)).2
        have := (h.2.2.2.2 b lb j (by omega)).1
        have z2 : (N.2 40 a ||| N.2 40 b).toBitVec.getLsbD j = false := by rw [z]; exact bit_0 j
        rw [Int64.toBitVec_or, BitVec.getLsbD_or, this, decide_eq_true e, Bool.or_true] at z2
        exact absurd z2 (by decide)
  · have ob : (W.2.1 a ||| W.2.1 b) % 4 ≠ 0 := fun z => p4 ((or_4 pa pb).mp z)
    exact ⟨fun _ => no fun y => p4 y.1, fun c => absurd (nI_ne0 (by omega) (by omega)) c⟩
theorem pvS_0 : pvS W a b (Dc (sdW W a b) 0 0) 0 = rm2 W a b := by
  refine Prod.ext rfl (Prod.ext (pvP_0 (ph := W.2.1) (amt := amW W a b)) (tg_0 fun x y => decide_eq_false ?_))
  rintro (⟨h, _⟩ | ⟨h, _⟩ | ⟨_, h, _⟩ | ⟨_, h, _⟩)
  · exact Nat.not_lt_zero _ h
  · exact Nat.not_lt_zero _ h
  · exact Nat.not_lt_zero _ h
  · exact Nat.not_lt_zero _ h
set_option maxRecDepth 100000 in
theorem pt_4 {vA vB : Int64} {f : Int32} {Pp : am_Q} {X : am_X} (hX : am_K (d + 3) false nm_X10_pivot Pp X) (h : cwR N m inp W) (g : gdW m inp W) (ok : pvOK inp W a b) (hA : ∀ j, j < 64 → vA.toBitVec.getLsbD j = decide (sdW W a b j = 1 ∨ sdW W a b j = 3)) (hB : ∀ j, j < 64 → vB.toBitVec.getLsbD j = decide (sdW W a b j = 2 ∨ sdW W a b j = 3)) (hP : ∀ N', cwF N N' → N'.1 39 9 = -1 → cwR N' m inp (pvW W a b m) → Pp (.inl (some (aI 1))) N') : X 125 [some (aR 39), some (aI (nI a)), some (aI (nI b)), some (aJ vA), none, some (aJ vB), none, some (aI f), none, none, none, none, none] [] N := by
  obtain ⟨⟨ia, ib, hab, e2⟩, p1, p2, f1, f2, hn⟩ := ok
  have la := g.2.2.2.2.1 a ia.1
  have lb := g.2.2.2.2.1 b ib.1
  refine am_run hX 12 _ _ _ _ ?_
  conv => whnf
  refine am_cq (ct_rmC2 (d := d + 1) h g la) ?_
  rintro r N1 ⟨rfl, k1, k2, k3, k4⟩
  refine ⟨none, rfl, ?_⟩
  conv => whnf
  refine am_cq (ct_rmC2 (d := d + 1) k3 (gd_rm g ia.2) lb) ?_
  rintro r N2 ⟨rfl, j1, j2, j3, j4⟩
  refine ⟨none, rfl, ?_⟩
  conv => whnf
  refine pv_l (d := d) (N0 := N2) hX g ia ib hn hA hB (fun N3 q1 q2 => hP N3 (cwF_t k1 (cwF_t j1 q1.1)) (by rw [q1.2]; exact j2) q2) m 0 N2 _ _ (by omega) cwK_r (by rw [pvS_0]; exact j3) ?_ ?_
  · rw [j4, k4]
    exact h.2.2.2.1 a ia.1
  · rw [j4, k4]
    exact h.2.2.2.1 b ib.1
set_option maxRecDepth 100000 in
theorem ct_pvC {p q : Int32} (h : cwR N m inp W) (g : gdW m inp W) : am_M (d + 4) false nm_X10_pivot [aR 39, aI p, aI q] N (ruC N m inp (∃ a b, p = nI a ∧ q = nI b ∧ pvOK inp W a b) (pvV inp m W p q)) := by
  have m60 := g.1
  refine ⟨rfl, rfl, rfl, fun X hX => pi_c (d := d + 1) hX h g (fun hno => ?_) (fun a b ea eb he => ?_)⟩
  · refine am_run hX 2 _ _ _ _ ?_
    conv => whnf
    exact ⟨rfl, Or.inl ⟨fun ⟨a, b, e1, e2, y⟩ => hno ⟨a, b, e1, e2, y.1⟩, rfl, rfl⟩⟩
  · subst ea
    subst eb
    have he0 := he
    obtain ⟨ia, ib, hab, e2⟩ := he
    have hne : a ≠ b := Nat.ne_of_lt hab
    have la := g.2.2.2.2.1 a ia.1
    have lb := g.2.2.2.2.1 b ib.1
    have un : ∀ a' b', nI a = nI a' → nI b = nI b' → pvOK inp W a' b' → pvOK inp W a b := fun a' b' e1 e2 y => by
      have l1 := g.2.2.2.2.1 a' y.1.1.1
      have l2 := g.2.2.2.2.1 b' y.1.2.1.1
      rw [(nI_eq (by omega) (by omega)).mp e1, (nI_eq (by omega) (by omega)).mp e2]
      exact y
    have no : ∀ f, ¬ pvOK inp W a b → X 123 [some (aR 39), some (aI (nI a)), some (aI (nI b)), some (aJ (N.2 41 a &&& (shb b ^^^ -1))), none, some (aJ (N.2 41 b &&& (shb a ^^^ -1))), none, some (aI f), none, none, none, none, none] [] N := fun f hq => by
      refine am_run hX 2 _ _ _ _ ?_
      conv => whnf
      exact ⟨rfl, Or.inl ⟨fun ⟨a', b', e1, e2, y⟩ => hq (un a' b' e1 e2 y), rfl, rfl⟩⟩
    have bA : ∀ j, j < 64 → (N.2 41 a &&& (shb b ^^^ -1)).toBitVec.getLsbD j = decide (W.2.2 a j = 2 ∧ j ≠ b) := fun j hj => by
      rw [Int64.toBitVec_and, BitVec.getLsbD_and, (h.2.2.2.2 a la j hj).2, shn_b (by omega) hj, ← decide_not, ← Bool.decide_and]
    have bB : ∀ j, j < 64 → (N.2 41 b &&& (shb a ^^^ -1)).toBitVec.getLsbD j = decide (W.2.2 b j = 2 ∧ j ≠ a) := fun j hj => by
      rw [Int64.toBitVec_and, BitVec.getLsbD_and, (h.2.2.2.2 b lb j hj).2, shn_b (by omega) hj, ← decide_not, ← Bool.decide_and]
    refine pt_1 hX (by omega) (by omega) (pt_2 hX h g ia ib fun t ht hti => ?_)
    obtain rfl | rfl : t = 0 ∨ t = 1 := by omega
    · refine am_run hX 3 _ _ _ _ ?_
      conv => whnf
      refine ⟨fun _ => no _ fun y => ?_, fun c => absurd rfl c⟩
      have := (pv_iff g he0).mp y
      exact absurd (hti.mpr ⟨this.1, this.2.1⟩) (by decide)
    · obtain ⟨y1, y2⟩ := hti.mp rfl
      refine am_run hX 3 _ _ _ _ ?_
      conv => whnf
      refine ⟨fun c => absurd c (by decide), fun _ => ?_⟩
      refine am_run hX 6 _ _ _ _ ?_
      conv => whnf
      refine am_cq (ct_frC (d := d + 1) (S := pfS W a b) h g (fun j hj => by
        rw [Int64.toBitVec_or, BitVec.getLsbD_or, bA j hj, bB j hj, ← Bool.decide_or]
        rfl) (fun j hj => g.2.2.2.2.1 j (nx_T g ((pf_nx g hne y2).mp hj)))) ?_
      rintro r N1 ⟨rfl, ⟨hf, rfl⟩ | ⟨hf, rfl⟩⟩
      · refine ⟨_, rfl, ?_⟩
        conv => whnf
        have ok := (pv_iff g he0).mpr ⟨y1, y2, hf⟩
        refine ⟨fun _ => ?_, fun c => absurd (by decide) c⟩
        have sA : ∀ j, (W.2.2 a j = 2 ∧ j ≠ b) ↔ (sdW W a b j = 1 ∨ sdW W a b j = 3) := fun j => by
          have k1 := y2 j
          have b1 := g.2.2.2.2.2.2.2.2.1 a j
          unfold sdW
          rw [g.2.2.2.2.2.2.1 j a, g.2.2.2.2.2.2.1 j b]
          by_cases ej : j = a ∨ j = b
          · rw [if_pos ej]
            constructor
            · rintro ⟨z1, z2⟩
              rcases ej with ej | ej
              · rw [ej, g.2.2.2.2.2.2.2.1] at z1
                exact absurd z1 (by decide)
              · exact absurd ej z2
            · rintro (z | z)
              · exact absurd z (by decide)
              · exact absurd z (by decide)
          · rw [if_neg ej]
            have ej2 : j ≠ b := fun z => ej (Or.inr z)
            by_cases z1 : W.2.2 a j = 0
            · rw [if_pos z1, z1]
              by_cases z2 : W.2.2 b j = 0
              · rw [if_pos z2]
                exact ⟨fun z => absurd z.1 (by decide), fun z => z.elim (fun y => absurd y (by decide)) (fun y => absurd y (by decide))⟩
              · rw [if_neg z2]
                exact ⟨fun z => absurd z.1 (by decide), fun z => z.elim (fun y => absurd y (by decide)) (fun y => absurd y (by decide))⟩
            · rw [if_neg z1]
              have z3 : W.2.2 a j = 2 := by omega
              by_cases z2 : W.2.2 b j = 0
              · rw [if_pos z2]
                exact ⟨fun _ => Or.inl rfl, fun _ => ⟨z3, ej2⟩⟩
              · rw [if_neg z2]
                exact ⟨fun _ => Or.inr rfl, fun _ => ⟨z3, ej2⟩⟩
        have sB : ∀ j, (W.2.2 b j = 2 ∧ j ≠ a) ↔ (sdW W a b j = 2 ∨ sdW W a b j = 3) := fun j => by
          have k1 := y2 j
          have b1 := g.2.2.2.2.2.2.2.2.1 b j
          unfold sdW
          rw [g.2.2.2.2.2.2.1 j a, g.2.2.2.2.2.2.1 j b]
          by_cases ej : j = a ∨ j = b
          · rw [if_pos ej]
            constructor
            · rintro ⟨z1, z2⟩
              rcases ej with ej | ej
              · exact absurd ej z2
              · rw [ej, g.2.2.2.2.2.2.2.1] at z1
                exact absurd z1 (by decide)
            · rintro (z | z)
              · exact absurd z (by decide)
              · exact absurd z (by decide)
          · rw [if_neg ej]
            have ej2 : j ≠ a := fun z => ej (Or.inl z)
            by_cases z2 : W.2.2 b j = 0
            · rw [if_pos z2, z2]
              by_cases z1 : W.2.2 a j = 0
              · rw [if_pos z1]
                exact ⟨fun z => absurd z.1 (by decide), fun z => z.elim (fun y => absurd y (by decide)) (fun y => absurd y (by decide))⟩
              · rw [if_neg z1]
                exact ⟨fun z => absurd z.1 (by decide), fun z => z.elim (fun y => absurd y (by decide)) (fun y => absurd y (by decide))⟩
            · rw [if_neg z2]
              have z3 : W.2.2 b j = 2 := by omega
              by_cases z1 : W.2.2 a j = 0
              · rw [if_pos z1]
                exact ⟨fun _ => Or.inl rfl, fun _ => ⟨z3, ej2⟩⟩
              · rw [if_neg z1]
                exact ⟨fun _ => Or.inr rfl, fun _ => ⟨z3, ej2⟩⟩
        refine pt_4 (d := d) hX h g ok (fun j hj => by rw [bA j hj, decide_eq_decide]; exact sA j) (fun j hj => by rw [bB j hj, decide_eq_decide]; exact sB j) (fun N' f1 f2 h' => ?_)
        exact Or.inr ⟨⟨a, b, rfl, rfl, ok⟩, rfl, f1, f2, _, ⟨a, b, rfl, rfl, ok, rfl⟩, h'⟩
      · refine ⟨_, rfl, ?_⟩
        conv => whnf
        exact ⟨fun c => absurd rfl c, fun _ => no _ fun y => hf ((pv_iff g he0).mp y).2.2⟩
end PVG
