/-! the pair told -/
section TOL
variable {ac : Nat → ClassId} {lo : Nat} {ad as : Nat → Nat} {b L : Nat} {xs : Nat → Int32} {hp : mm_M → Nat → xm_H} {I J : mm_M → Prop}
/-- told's answer -/
def tl_v (M : mm_M) (i : Nat) (q : Int32) : Int32 := if q = 0 then M.1 143 i >>> ((8 : Int32) &&& 31) else if q = 1 then M.1 143 i &&& 255 else if q = 2 then M.1 144 i else if q = 3 then M.1 145 i else M.1 142 0
set_option maxRecDepth 100000 in
theorem tl_x1 {M : mm_M} {a b s h i : Nat} {q : Int32} (hr : sm_r M a b) (hs : sm_s M a 0 s h 0) (hi : i < s) (q0 : ¬ q < 0) (q4 : q ≤ 4) (d : Nat) (t : Bool) : am_M (d + 1) t nm_X11_told [aR 0, aI (nI i), aI q] M (am_q1 (aI (tl_v M i q)) M) := by
  obtain ⟨s1, h1, e96, e141, e97, e142, ht⟩ := hs
  obtain ⟨t1, t2, t3⟩ := ht i hi
  rw [Nat.zero_add] at t1 t2 t3
  unfold tl_v
  refine ⟨rfl, rfl, rfl, fun X hX => am_run hX 60 _ _ _ _ ?_⟩
  conv => whnf
  refine ⟨fun c => absurd c (nI_pos (by omega)), fun _ => ?_⟩
  conv => whnf
  refine ⟨vp_in_nI (n := 0) (N := 3) (by decide) (by decide), ?_⟩
  conv => whnf
  rw [show M.1 96 (Int32.toNatClampNeg 0) = nI s from e96]
  refine ⟨fun c => absurd c (nI_ge hi (by omega)), fun _ => ?_⟩
  conv => whnf
  refine ⟨fun c => absurd c q0, fun _ => ?_⟩
  conv => whnf
  refine ⟨fun _ => ?_, fun c => absurd q4 c⟩
  conv => whnf
  obtain ⟨hab, ⟨a1, a2, a3⟩, ⟨b1, b2, b3⟩, ⟨c1, c2, c3⟩⟩ := hr
  refine ⟨fun e => ?_, fun e0 => ?_⟩
  · conv => whnf
    rcases hab with ⟨rfl, rfl⟩ | ⟨rfl, rfl⟩
    · rw [show M.1 84 (Int32.toNatClampNeg 0) = nI 0 from a1]
      refine ⟨⟨vp_in_nI (n := 0) (N := 3) (by decide) (by decide), by decide⟩, ?_⟩
      conv => whnf
      refine ⟨vp_in_nI (by show i < 150; omega) (by decide), ?_⟩
      conv => whnf
      refine ⟨trivial, ?_, rfl⟩
      rw [if_pos e, nI_clamp (n := i) (by omega), ← t1]; rfl
    · rw [show M.1 84 (Int32.toNatClampNeg 0) = nI 1 from a1]
      refine ⟨⟨vp_in_nI (n := 0) (N := 3) (by decide) (by decide), by decide⟩, ?_⟩
      conv => whnf
      refine ⟨vp_in_nI (by show i < 150; omega) (by decide), ?_⟩
      conv => whnf
      refine ⟨trivial, ?_, rfl⟩
      rw [if_pos e, nI_clamp (n := i) (by omega), ← t1]; rfl
  ·
    conv => whnf
    refine ⟨fun e => ?_, fun e1 => ?_⟩
    · conv => whnf
      rcases hab with ⟨rfl, rfl⟩ | ⟨rfl, rfl⟩
      · rw [show M.1 84 (Int32.toNatClampNeg 0) = nI 0 from a1]
        refine ⟨⟨vp_in_nI (n := 0) (N := 3) (by decide) (by decide), by decide⟩, ?_⟩
        conv => whnf
        refine ⟨vp_in_nI (by show i < 150; omega) (by decide), ?_⟩
        conv => whnf
        refine ⟨trivial, ?_, rfl⟩
        rw [if_neg e0]; rw [if_pos e, nI_clamp (n := i) (by omega), ← t1]; rfl
      · rw [show M.1 84 (Int32.toNatClampNeg 0) = nI 1 from a1]
        refine ⟨⟨vp_in_nI (n := 0) (N := 3) (by decide) (by decide), by decide⟩, ?_⟩
        conv => whnf
        refine ⟨vp_in_nI (by show i < 150; omega) (by decide), ?_⟩
        conv => whnf
        refine ⟨trivial, ?_, rfl⟩
        rw [if_neg e0]; rw [if_pos e, nI_clamp (n := i) (by omega), ← t1]; rfl
    ·
      conv => whnf
      refine ⟨fun e => ?_, fun e2 => ?_⟩
      · conv => whnf
        rcases hab with ⟨rfl, rfl⟩ | ⟨rfl, rfl⟩
        · rw [show M.1 88 (Int32.toNatClampNeg 0) = nI 0 from b1]
          refine ⟨⟨vp_in_nI (n := 0) (N := 3) (by decide) (by decide), by decide⟩, ?_⟩
          conv => whnf
          refine ⟨vp_in_nI (by show i < 150; omega) (by decide), ?_⟩
          conv => whnf
          refine ⟨trivial, ?_, rfl⟩
          rw [if_neg e0]; rw [if_neg e1]; rw [if_pos e, nI_clamp (n := i) (by omega), ← t2]; rfl
        · rw [show M.1 88 (Int32.toNatClampNeg 0) = nI 1 from b1]
          refine ⟨⟨vp_in_nI (n := 0) (N := 3) (by decide) (by decide), by decide⟩, ?_⟩
          conv => whnf
          refine ⟨vp_in_nI (by show i < 150; omega) (by decide), ?_⟩
          conv => whnf
          refine ⟨trivial, ?_, rfl⟩
          rw [if_neg e0]; rw [if_neg e1]; rw [if_pos e, nI_clamp (n := i) (by omega), ← t2]; rfl
      ·
        conv => whnf
        refine ⟨fun e => ?_, fun e3 => ?_⟩
        · conv => whnf
          rcases hab with ⟨rfl, rfl⟩ | ⟨rfl, rfl⟩
          · rw [show M.1 92 (Int32.toNatClampNeg 0) = nI 0 from c1]
            refine ⟨⟨vp_in_nI (n := 0) (N := 3) (by decide) (by decide), by decide⟩, ?_⟩
            conv => whnf
            refine ⟨vp_in_nI (by show i < 150; omega) (by decide), ?_⟩
            conv => whnf
            refine ⟨trivial, ?_, rfl⟩
            rw [if_neg e0]; rw [if_neg e1]; rw [if_neg e2]; rw [if_pos e, nI_clamp (n := i) (by omega), ← t3]; rfl
          · rw [show M.1 92 (Int32.toNatClampNeg 0) = nI 1 from c1]
            refine ⟨⟨vp_in_nI (n := 0) (N := 3) (by decide) (by decide), by decide⟩, ?_⟩
            conv => whnf
            refine ⟨vp_in_nI (by show i < 150; omega) (by decide), ?_⟩
            conv => whnf
            refine ⟨trivial, ?_, rfl⟩
            rw [if_neg e0]; rw [if_neg e1]; rw [if_neg e2]; rw [if_pos e, nI_clamp (n := i) (by omega), ← t3]; rfl
        ·
          conv => whnf
          refine ⟨vp_in_nI (n := 0) (N := 3) (by decide) (by decide), ?_⟩
          conv => whnf
          refine ⟨trivial, ?_, rfl⟩
          rw [if_neg e0, if_neg e1, if_neg e2, if_neg e3, e142, ← e97]; rfl
set_option maxRecDepth 100000 in
theorem tl_m1 {M : mm_M} {a s h i : Nat} {q : Int32} (hs : sm_s M a 0 s h 0) (hi : i < s) (q0 : ¬ q < 0) (q4 : q ≤ 4) (d : Nat) : am_M (d + 1) false nm_X12_told [aR 108, aI (nI i), aI q] M (am_q1 (aI (tl_v M i q)) (th0 M)) := by
  obtain ⟨s1, h1, e96, e141, e97, e142, ht⟩ := hs
  unfold tl_v
  refine ⟨rfl, rfl, rfl, fun X hX => am_run hX 60 _ _ _ _ ?_⟩
  conv => whnf
  refine ⟨fun c => absurd c (nI_pos (by omega)), fun _ => ?_⟩
  conv => whnf
  refine ⟨vp_in_nI (n := 0) (N := 2) (by decide) (by decide), ?_⟩
  conv => whnf
  rw [show M.1 141 (Int32.toNatClampNeg 0) = nI s from e141]
  refine ⟨fun _ => ?_, fun c => absurd (nI_lt hi (by omega)) c⟩
  conv => whnf
  refine ⟨fun e => ?_, fun e0 => ?_⟩
  · conv => whnf
    refine ⟨vp_in_nI (by show i < 300; omega) (by decide), ?_⟩
    conv => whnf
    refine ⟨trivial, ?_, rfl⟩
    rw [if_pos e, nI_clamp (by omega)]; rfl
  ·
    conv => whnf
    refine ⟨fun e => ?_, fun e1 => ?_⟩
    · conv => whnf
      refine ⟨vp_in_nI (by show i < 300; omega) (by decide), ?_⟩
      conv => whnf
      refine ⟨trivial, ?_, rfl⟩
      rw [if_neg e0]; rw [if_pos e, nI_clamp (by omega)]; rfl
    ·
      conv => whnf
      refine ⟨fun e => ?_, fun e2 => ?_⟩
      · conv => whnf
        refine ⟨vp_in_nI (by show i < 300; omega) (by decide), ?_⟩
        conv => whnf
        refine ⟨trivial, ?_, rfl⟩
        rw [if_neg e0]; rw [if_neg e1]; rw [if_pos e, nI_clamp (by omega)]; rfl
      ·
        conv => whnf
        refine ⟨fun e => ?_, fun e3 => ?_⟩
        · conv => whnf
          refine ⟨vp_in_nI (by show i < 300; omega) (by decide), ?_⟩
          conv => whnf
          refine ⟨trivial, ?_, rfl⟩
          rw [if_neg e0]; rw [if_neg e1]; rw [if_neg e2]; rw [if_pos e, nI_clamp (by omega)]; rfl
        ·
          conv => whnf
          refine ⟨fun e => ?_, fun e4 => ?_⟩
          · conv => whnf
            refine ⟨vp_in_nI (n := 0) (N := 2) (by decide) (by decide), ?_⟩
            conv => whnf
            refine ⟨trivial, ?_, rfl⟩
            rw [if_neg e0, if_neg e1, if_neg e2, if_neg e3]; rfl
          · exfalso
            obtain ⟨j, hj, rfl⟩ := nI_of q0
            have hj4 : j ≤ 4 := by
              apply Decidable.byContradiction
              intro hc
              exact nI_ge (a := 4) (b := j) (by omega) hj q4
            rcases (by omega : j = 0 ∨ j = 1 ∨ j = 2 ∨ j = 3 ∨ j = 4) with rfl | rfl | rfl | rfl | rfl
            · exact e0 rfl
            · exact e1 rfl
            · exact e2 rfl
            · exact e3 rfl
            · exact e4 rfl
set_option maxRecDepth 100000 in
theorem tl_x0 {M : mm_M} {s : Nat} {p q : Int32} (e96 : M.1 96 0 = nI s) (h : (p < 0 ∨ nI s ≤ p) ∨ q < 0 ∨ ¬ q ≤ 4) : am_M 999 true nm_X11_told [aR 0, aI p, aI q] M (fun r M' => r = .inr "java/util/NoSuchElementException" ∧ M' = M) := by
  refine ⟨rfl, rfl, rfl, fun X hX => am_run hX 60 _ _ _ _ ?_⟩
  conv => whnf
  refine ⟨fun c => ?_, fun c => ?_⟩
  · conv => whnf
    exact ⟨⟨by decide, rfl⟩, rfl, rfl⟩
  · conv => whnf
    refine ⟨vp_in_nI (n := 0) (N := 3) (by decide) (by decide), ?_⟩
    conv => whnf
    rw [show M.1 96 (Int32.toNatClampNeg 0) = nI s from e96]
    refine ⟨fun c2 => ?_, fun c2 => ?_⟩
    · conv => whnf
      exact ⟨⟨by decide, rfl⟩, rfl, rfl⟩
    · conv => whnf
      refine ⟨fun c3 => ?_, fun c3 => ?_⟩
      · conv => whnf
        exact ⟨⟨by decide, rfl⟩, rfl, rfl⟩
      · conv => whnf
        refine ⟨fun c4 => ?_, fun c4 => ?_⟩
        · rcases h with (h | h) | h | h
          · exact absurd h c
          · exact absurd h c2
          · exact absurd h c3
          · exact absurd c4 h
        · conv => whnf
          exact ⟨⟨by decide, rfl⟩, rfl, rfl⟩
set_option maxRecDepth 100000 in
theorem tl_m0 {M : mm_M} {s : Nat} {p q : Int32} (e141 : M.1 141 0 = nI s) (h : (p < 0 ∨ nI s ≤ p) ∨ q < 0 ∨ ¬ q ≤ 4) (d : Nat) : am_M (d + 2) false nm_X12_told [aR 108, aI p, aI q] M (am_q1 (aI 0) (th1 M)) := by
  have hra : ∀ M' : mm_M, am_M (d + 1) false nm_X12_raise [aR 108, aI 1] M' (am_q1 (aI 0) (th1 M')) := fun M' => by
    refine ⟨rfl, rfl, rfl, fun X hX => am_run hX 20 _ _ _ _ ?_⟩
    conv => whnf
    exact ⟨trivial, rfl, rfl⟩
  refine ⟨rfl, rfl, rfl, fun X hX => am_run hX 60 _ _ _ _ ?_⟩
  conv => whnf
  refine ⟨fun c => ?_, fun c => ?_⟩
  · conv => whnf
    refine am_c1 (hra _) ?_
    conv => whnf
    exact ⟨trivial, rfl, rfl⟩
  · conv => whnf
    refine ⟨vp_in_nI (n := 0) (N := 2) (by decide) (by decide), ?_⟩
    conv => whnf
    rw [show M.1 141 (Int32.toNatClampNeg 0) = nI s from e141]
    refine ⟨fun c2 => ?_, fun c2 => ?_⟩
    · have hq : q < 0 ∨ ¬ q ≤ 4 := by
        rcases h with (h | h) | h
        · exact absurd h c
        · exact absurd c2 (Int32.not_lt.mpr h)
        · exact h
      have hne : ∀ k : Int32, 0 ≤ k → k ≤ 4 → ¬ q = k := fun k k0 k4 e => by
        rw [e] at hq
        rcases hq with hq | hq
        · exact Int32.not_lt.mpr k0 hq
        · exact hq k4
      conv => whnf
      refine ⟨fun e => absurd e (hne 0 (by decide) (by decide)), fun _ => ?_⟩
      refine ⟨fun e => absurd e (hne 1 (by decide) (by decide)), fun _ => ?_⟩
      refine ⟨fun e => absurd e (hne 2 (by decide) (by decide)), fun _ => ?_⟩
      refine ⟨fun e => absurd e (hne 3 (by decide) (by decide)), fun _ => ?_⟩
      refine ⟨fun e => absurd e (hne 4 (by decide) (by decide)), fun _ => ?_⟩
      conv => whnf
      refine am_c1 (hra _) ?_
      conv => whnf
      refine ⟨trivial, rfl, ?_⟩
      unfold th1
      rw [mm_ii, mm_i1, upd_two]
    · conv => whnf
      refine am_c1 (hra _) ?_
      conv => whnf
      exact ⟨trivial, rfl, rfl⟩
/-- the law's own cell is nothing to the rest -/
theorem pr_told (H : mm_L ac lo hp) (h1 : ∀ M, I M → ∃ a b s h, sm_r M a b ∧ sm_s M a 0 s h 0) (hJ : ∀ M v, I M → J (th0 (lt_o M v))) (hJ1 : ∀ M, I M → J (th1 M)) (p q : Int32) : la_TI ac lo ad as b L xs hp I J nm_L_told nm_X12_told [.int p, .int q] := by
  refine lt_told H p q fun M hI => ?_
  obtain ⟨a, b, s, h, hr, hs⟩ := h1 M hI
  have s1 := hs.1
  by_cases hx : (p < 0 ∨ nI s ≤ p) ∨ q < 0 ∨ ¬ q ≤ 4
  · refine am_wk (tl_x0 hs.2.2.1 hx) fun r M1 e => Or.inr ⟨e.1, ?_⟩
    rw [e.2]
    exact am_wk (tl_m0 hs.2.2.2.1 hx 998) fun r M2 e => ⟨⟨0, e.1⟩, by rw [e.2]; simp [th1, mm_i, upd], by rw [e.2]; exact hJ1 M hI⟩
  · have p0 : ¬ p < 0 := fun c => hx (Or.inl (Or.inl c))
    have ps : ¬ nI s ≤ p := fun c => hx (Or.inl (Or.inr c))
    have q0 : ¬ q < 0 := fun c => hx (Or.inr (Or.inl c))
    have q4 : q ≤ 4 := Decidable.byContradiction fun c => hx (Or.inr (Or.inr c))
    obtain ⟨i, hi, rfl⟩ := nI_of p0
    have his : i < s := by
      apply Decidable.byContradiction
      intro hc
      exact ps (nI_le (by omega) hi)
    refine am_wk (tl_x1 hr hs his q0 q4 998 true) fun r M1 e => Or.inl ⟨_, e.1, ?_⟩
    rw [e.2]
    refine am_wk (tl_m1 (M := lt_o M _) (a := a) (s := s) (h := h) hs his q0 q4 999) fun r M2 e => ⟨e.1, ?_⟩
    rw [e.2]
    exact ⟨by simp [th0, mm_i, upd], by simp [th0, lt_o, mm_i, mm_l, vp_updL], hJ M _ hI⟩
end TOL
