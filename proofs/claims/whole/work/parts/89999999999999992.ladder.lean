/-! THE PAIR ladder -/
section LAD
variable {d : Nat} {M : mm_M} {a b : Nat} {A B : SU}
/-- what is multiplied with -/
def ldS (j : Nat) (u : Int32) : SU := (2, 1, fun l => if l = 0 then 257 * 2 ^ j - 1 else 258 * 2 ^ j - 1, fun l => if l = 0 then 1 else 0, fun l => if l = 0 then 0 else u)
theorem lad_k {j : Nat} (h : j < 8) : (256 : Int32) <<< (nI j &&& 31) ||| ((1 : Int32) <<< (nI j &&& 31) - 1) = nI (257 * 2 ^ j - 1) ∧ (256 : Int32) <<< (nI j &&& 31) ||| ((1 : Int32) <<< (nI j &&& 31) - 1) ||| (1 : Int32) <<< (nI j &&& 31) = nI (258 * 2 ^ j - 1) ∧ 257 * 2 ^ j - 1 < 258 * 2 ^ j - 1 ∧ 258 * 2 ^ j - 1 < 65536 := by
  have : ∀ j, j < 8 → (256 : Int32) <<< (nI j &&& 31) ||| ((1 : Int32) <<< (nI j &&& 31) - 1) = nI (257 * 2 ^ j - 1) ∧ (256 : Int32) <<< (nI j &&& 31) ||| ((1 : Int32) <<< (nI j &&& 31) - 1) ||| (1 : Int32) <<< (nI j &&& 31) = nI (258 * 2 ^ j - 1) ∧ 257 * 2 ^ j - 1 < 258 * 2 ^ j - 1 ∧ 258 * 2 ^ j - 1 < 65536 := by decide +kernel
  exact this j h
theorem orS_l {j : Nat} {u : Int32} (h : j < 8) : orS (ldS j u) := by
  obtain ⟨_, _, h3, h4⟩ := lad_k h
  refine ⟨by show 2 ≤ 150; decide, by show 1 ≤ 60; decide, fun i l hil hl => ?_, fun i hi => ?_⟩
  · have hl : l < 2 := hl
    show (if i = 0 then 257 * 2 ^ j - 1 else 258 * 2 ^ j - 1) < if l = 0 then 257 * 2 ^ j - 1 else 258 * 2 ^ j - 1
    rw [if_pos (by omega), if_neg (by omega)]
    exact h3
  · show (if i = 0 then 257 * 2 ^ j - 1 else 258 * 2 ^ j - 1) < 65536
    by_cases e : i = 0
    · rw [if_pos e]
      omega
    · rw [if_neg e]
      exact h4
def ldM (M : mm_M) (j : Nat) (u : Int32) : mm_M := mm_i (stMx (stMx (mm_i M 96 (upd (M.1 96) 2 0)) 2 2 0 (nI (257 * 2 ^ j - 1)) 1 0) 2 2 1 (nI (258 * 2 ^ j - 1)) 0 u) 97 (upd ((stMx (stMx (mm_i M 96 (upd (M.1 96) 2 0)) 2 2 0 (nI (257 * 2 ^ j - 1)) 1 0) 2 2 1 (nI (258 * 2 ^ j - 1)) 0 u).1 97) 2 1)
theorem f2M_6 {v : Int32} : f2M M (mm_i M 96 (upd (M.1 96) 2 v)) := by
  refine ⟨fun k _ _ _ d _ => by simp [mm_i, d], rfl, fun j hj => ⟨?_, rfl⟩⟩
  show upd (M.1 96) 2 v j = M.1 96 j
  unfold upd
  rw [if_neg hj]
theorem f2M_7 {v : Int32} : f2M M (mm_i M 97 (upd (M.1 97) 2 v)) := by
  refine ⟨fun k _ _ _ _ e => by simp [mm_i, e], rfl, fun j hj => ⟨rfl, ?_⟩⟩
  show upd (M.1 97) 2 v j = M.1 97 j
  unfold upd
  rw [if_neg hj]
theorem f2M_l {j : Nat} {u : Int32} : f2M M (ldM M j u) := f2M_t (f2M_t (f2M_t f2M_6 f2M_s) f2M_s) f2M_7
theorem csl_l {j : Nat} {u : Int32} : csS (ldM M j u) 2 2 (ldS j u) := by
  refine ⟨rfl, rfl, fun i hi => ?_⟩
  have hi : i < 2 := hi
  obtain rfl | rfl : i = 0 ∨ i = 1 := by omega
  · exact ⟨rfl, rfl, rfl⟩
  · exact ⟨rfl, rfl, rfl⟩
set_option maxRecDepth 100000 in
theorem tl_u {j : Nat} {u : Int32} {q : am_Q} {Pp : am_Q} {X : am_X} {v1 v2 v3 : Int32} (hX : am_K (d + 2) false nm_X9_timesLadder Pp X) (hj : j < 8) (a3 : M.1 84 2 = 2) (b3 : M.1 88 2 = 2) (c3 : M.1 92 2 = 2) (km : am_M (d + 2) false nm_X9_multiply [aR 83, aI (nI 0), aI (nI 2)] (ldM M j u) q) (hq : ∀ r M', q r M' → ∃ w, r = .inl (some (aI w)) ∧ (w = 0 ∨ w = 1) ∧ Pp r M') : X 50 [some (aR 83), some (aI v1), some (aI v2), some (aI v3)] [aI u, aI 0, aI (nI (258 * 2 ^ j - 1)), aI 2, aR 83] (stMx (mm_i M 96 (upd (M.1 96) 2 0)) 2 2 0 (nI (257 * 2 ^ j - 1)) 1 0) := by
  have h2 : vp_in 2 3 := vp_in_nI (n := 2) (N := 3) (by decide) (by decide)
  refine am_run hX 12 _ _ _ _ ?_
  conv => whnf
  refine am_c0 (ct_setT (d := d + 1) (M := stMx (mm_i M 96 (upd (M.1 96) 2 0)) 2 2 0 (nI (257 * 2 ^ j - 1)) 1 0) (x := 2) (ph := 2) (s := 1) (k := nI (258 * 2 ^ j - 1)) (p := 0) (q := u) (by decide) (by decide) a3 b3 c3 rfl) ?_
  conv => whnf
  refine ⟨h2, ?_⟩
  conv => whnf
  refine am_cq km ?_
  intro r M' h
  obtain ⟨w, rfl, hw, hP⟩ := hq r M' h
  refine ⟨_, rfl, ?_⟩
  rcases hw with rfl | rfl
  · conv => whnf
    exact ⟨rfl, hP⟩
  · conv => whnf
    exact ⟨rfl, hP⟩
set_option maxRecDepth 100000 in
theorem ct_tlC {j : Nat} {up u : Int32} {q : am_Q} (hj : j < 8) (hu : up = 0 ∧ u = 1 ∨ up = 1 ∧ u = -1) (a3 : M.1 84 2 = 2) (b3 : M.1 88 2 = 2) (c3 : M.1 92 2 = 2) (km : am_M (d + 2) false nm_X9_multiply [aR 83, aI (nI 0), aI (nI 2)] (ldM M j u) q) (hq : ∀ r M', q r M' → ∃ w, r = .inl (some (aI w)) ∧ (w = 0 ∨ w = 1)) : am_M (d + 3) false nm_X9_timesLadder [aR 83, aI (nI j), aI up] M q := by
  have h2 : vp_in 2 3 := vp_in_nI (n := 2) (N := 3) (by decide) (by decide)
  obtain ⟨e1, e2, _, _⟩ := lad_k hj
  refine ⟨rfl, rfl, rfl, fun X hX => am_run hX 21 _ _ _ _ ?_⟩
  conv => whnf
  refine ⟨h2, ?_⟩
  conv => whnf
  rw [e1]
  refine am_c0 (ct_setT (d := d + 1) (M := mm_i M 96 (upd (M.1 96) 2 0)) (x := 2) (ph := 2) (s := 0) (k := nI (257 * 2 ^ j - 1)) (p := 1) (q := 0) (by decide) (by decide) a3 b3 c3 rfl) ?_
  conv => whnf
  refine am_run hX 14 _ _ _ _ ?_
  conv => whnf
  rw [e2]
  have fin := fun v3 => tl_u (d := d) (M := M) (j := j) (u := u) (v1 := nI j) (v2 := up) (v3 := v3) hX hj a3 b3 c3 km fun r M' h => by
    obtain ⟨w, h1, h2⟩ := hq r M' h
    exact ⟨w, h1, h2, h⟩
  rcases hu with ⟨rfl, rfl⟩ | ⟨rfl, rfl⟩
  · refine ⟨fun _ => ?_, fun c => absurd rfl c⟩
    refine am_run hX 1 _ _ _ _ ?_
    conv => whnf
    exact fin _
  · refine ⟨fun c => absurd c (by decide), fun _ => ?_⟩
    refine am_run hX 2 _ _ _ _ ?_
    conv => whnf
    exact fin _
set_option maxRecDepth 100000 in
theorem lx_g {q q' : am_Q} {j : Nat} {up : Int32} (hj : j < 8) (hc : am_M (d + 1) false nm_X9_timesLadder [aR 83, aI (nI j), aI up] M q) (h : ∀ r M', q r M' → (r = .inl (some (aI 1)) ∧ q' (.inl (some (aI (M'.1 96 0)))) M') ∨ (r = .inl (some (aI 0)) ∧ q' (.inl (some (aI (-1)))) M')) : am_M (d + 2) false nm_X11_ladder [aR 0, aI (nI j), aI up] M q' := by
  have h0 : vp_in 0 3 := vp_in_nI (n := 0) (N := 3) (by decide) (by decide)
  refine ⟨rfl, rfl, rfl, fun X hX => am_run hX 30 _ _ _ _ ?_⟩
  conv => whnf
  refine ⟨fun c => absurd c (nI_pos (by omega)), fun _ => ?_⟩
  conv => whnf
  refine ⟨fun c => absurd c (nI_ge (a := j) (b := 8) hj (by decide)), fun _ => ?_⟩
  conv => whnf
  refine am_cq hc ?_
  intro r M' hq
  rcases h r M' hq with ⟨rfl, h⟩ | ⟨rfl, h⟩
  · refine ⟨_, rfl, ?_⟩
    conv => whnf
    refine ⟨fun c => absurd c (by decide), fun _ => ?_⟩
    conv => whnf
    refine ⟨h0, ?_⟩
    conv => whnf
    exact ⟨trivial, h⟩
  · refine ⟨_, rfl, ?_⟩
    conv => whnf
    refine ⟨fun _ => ?_, fun c => absurd rfl c⟩
    conv => whnf
    exact ⟨trivial, h⟩
set_option maxRecDepth 100000 in
theorem lx_d {j up : Int32} (h : j < 0 ∨ 8 ≤ j) : am_M (d + 1) false nm_X11_ladder [aR 0, aI j, aI up] M (am_q1 (aI (-1)) M) := by
  refine ⟨rfl, rfl, rfl, fun X hX => am_run hX 30 _ _ _ _ ?_⟩
  conv => whnf
  refine ⟨fun _ => ?_, fun c1 => ?_⟩
  · conv => whnf
    exact ⟨trivial, rfl, rfl⟩
  · conv => whnf
    refine ⟨fun _ => ?_, fun c2 => ?_⟩
    · conv => whnf
      exact ⟨trivial, rfl, rfl⟩
    · exact absurd h fun z => z.elim c1 c2
set_option maxRecDepth 100000 in
theorem lm_d {j up : Int32} (h : j < 0 ∨ 8 ≤ j) : am_M (d + 1) false nm_X12_ladder [aR 108, aI j, aI up] M (am_q1 (aI (-1)) (th0 M)) := by
  refine ⟨rfl, rfl, rfl, fun X hX => am_run hX 12 _ _ _ _ ?_⟩
  conv => whnf
  refine ⟨fun _ => ?_, fun c1 => ?_⟩
  · conv => whnf
    exact ⟨trivial, rfl, rfl⟩
  · conv => whnf
    refine ⟨fun c2 => ?_, fun c2 => ?_⟩
    · refine absurd h fun z => z.elim c1 fun y => ?_
      have := Int32.le_trans y c2
      exact absurd this (by decide)
    · conv => whnf
      exact ⟨trivial, rfl, rfl⟩
end LAD
