/-! derive, CANCELLED: what two OPS are together -/
def egN (k : Nat) : Nat := if k = 2 then 4 else if k = 4 then 2 else if k = 5 then 1 else if k = 6 then 6 else if k = 7 then 7 else 0
/-- the kind of so many eighths -/
def keN (e : Nat) : Nat := if e = 1 then 5 else if e = 2 then 4 else if e = 4 then 2 else if e = 6 then 6 else 7
/-- the WIRES of an OP -/
def wsN (x : bk_X) : Nat := 2 ^ x.2.1 ||| (if x.1 = 8 then 2 ^ x.2.2.1 else 0) ||| x.2.2.2.1
/-- eighths that are one OP, or none -/
def esK (s : Nat) : Nat := if s = 3 ∨ s = 5 then 8 else s
/-- what two OPS are together: 0 none, 1 .. 7 eighths, 8: they stay -/
def togN (x y : bk_X) : Nat :=
  if x.2.2.2.1 = y.2.2.2.1 then
    if x.1 = 8 then (if y.1 = 8 ∧ wsN x = wsN y then 0 else 8)
    else if y.1 = 8 ∨ x.2.1 ≠ y.2.1 then 8
    else if x.1 ≤ 3 ∧ x.1 = y.1 then 0
    else if egN x.1 = 0 ∨ egN y.1 = 0 then 8
    else esK ((egN x.1 + egN y.1) % 8)
  else 8
def tgI (t : Nat) : Int32 := if t = 8 then -1 else nI t
theorem a1_e : ∀ k, k < 11 → xp_a1.getD k 0 = nI (egN k) := by decide
theorem a0_e : ∀ s, s < 8 → xp_a0.getD s 0 = -1 ∨ True := fun _ _ => Or.inr trivial
theorem a0_s : ∀ s, s < 8 → s ≠ 0 → (xp_a0.getD s 0 = -1 ↔ s = 3 ∨ s = 5) := by decide
theorem a0_k : ∀ s, s < 8 → s ≠ 0 → s ≠ 3 → s ≠ 5 → xp_a0.getD s 0 = nI (keN s) := by decide
theorem eg_7 (k : Nat) : egN k ≤ 7 := by
  unfold egN
  split
  · decide
  · split
    · decide
    · split
      · decide
      · split
        · decide
        · split <;> decide
theorem p2_8 {w : Nat} (h : w < 8) : 2 ^ w < 256 := Nat.pow_lt_pow_right (a := 2) (n := 8) (by decide) h
theorem wsN_l {W : Nat} {x : bk_X} (hW : W ≤ 8) (h : bk_w W x) : wsN x < 256 := by
  have h8 := w256 hW
  obtain ⟨_, h1, h2, h3, _⟩ := h
  unfold wsN
  refine Nat.or_lt_two_pow (n := 8) (Nat.or_lt_two_pow (n := 8) (p2_8 (by omega)) ?_) (by omega)
  split
  · exact p2_8 h2
  · decide
section TGC
variable {d : Nat} {M : mm_M} {W : Nat}
set_option maxRecDepth 100000 in
theorem ct_wsO {x : bk_X} (hW : W ≤ 8) (ow : bk_w W x) : am_M (d + 2) false nm_X0_wiresOf [aI (nI (bk_p x))] M (am_q1 (aI (nI (wsN x))) M) := by
  have hk := ow.1
  have h1 := ow.2.1
  have h2 := ow.2.2.1
  refine ⟨rfl, rfl, rfl, fun X hX => am_run hX 60 _ _ _ _ ?_⟩
  conv => whnf
  refine am_c1 (ct_kind (d := d)) ?_
  rw [bk_k hW ow]
  conv => whnf
  by_cases c8 : x.1 = 8
  · have e : wsN x = 2 ^ x.2.1 ||| 2 ^ x.2.2.1 ||| x.2.2.2.1 := by
      unfold wsN
      rw [if_pos c8]
    rw [c8]
    refine ⟨fun c => absurd rfl c, fun _ => ?_⟩
    conv => whnf
    refine am_c1 (ct_secondOf (d := d)) ?_
    rw [bk_s hW ow]
    conv => whnf
    refine am_c1 (ct_wireOf (d := d)) ?_
    rw [bk_wi hW ow]
    conv => whnf
    refine am_c1 (ct_controlsOf (d := d)) ?_
    rw [bk_cc hW ow]
    conv => whnf
    rw [sh2 _ (by omega), sh2 _ (by omega), nI_or, nI_or, e]
    exact ⟨trivial, rfl, rfl⟩
  · have e : wsN x = 2 ^ x.2.1 ||| 0 ||| x.2.2.2.1 := by
      unfold wsN
      rw [if_neg c8]
    refine ⟨fun _ => ?_, fun c => absurd (fun q => c8 ((nI_eq (a := x.1) (b := 8) (by omega) (by decide)).mp q)) c⟩
    conv => whnf
    refine am_c1 (ct_wireOf (d := d)) ?_
    rw [bk_wi hW ow]
    conv => whnf
    refine am_c1 (ct_controlsOf (d := d)) ?_
    rw [bk_cc hW ow]
    conv => whnf
    rw [sh2 _ (by omega), show (0 : Int32) = nI 0 from rfl, nI_or, nI_or, e]
    exact ⟨trivial, rfl, rfl⟩
set_option maxRecDepth 100000 in
theorem tc_8 {x y : bk_X} {P : am_Q} {X : am_X} {l3 : Option am_V} (hX : am_K (d + 2) false nm_X0_together P X) (hW : W ≤ 8) (ox : bk_w W x) (oy : bk_w W y) (hc : x.2.2.2.1 = y.2.2.2.1) (h8 : x.1 = 8) (hP : P (.inl (some (aI (tgI (togN x y))))) M) : X 24 [some (aI (nI (bk_p x))), some (aI (nI (bk_p y))), some (aI (nI x.1)), l3] [] M := by
  have ky := oy.1
  have lx := wsN_l hW ox
  have ly := wsN_l hW oy
  have e : togN x y = if y.1 = 8 ∧ wsN x = wsN y then 0 else 8 := by
    unfold togN
    rw [if_pos hc, if_pos h8]
  rw [e] at hP
  refine am_run hX 30 _ _ _ _ ?_
  conv => whnf
  refine am_c1 (ct_kind (d := d + 1)) ?_
  rw [bk_k hW oy]
  conv => whnf
  by_cases y8 : y.1 = 8
  · rw [y8]
    refine ⟨fun c => absurd rfl c, fun _ => ?_⟩
    conv => whnf
    refine am_c1 (ct_wsO (d := d) hW ox) ?_
    conv => whnf
    refine am_c1 (ct_wsO (d := d) hW oy) ?_
    conv => whnf
    rw [nI_eq (by omega) (by omega)]
    refine ⟨fun c => ?_, fun c => ?_⟩
    · conv => whnf
      rw [if_neg (fun q => c q.2)] at hP
      exact ⟨trivial, hP⟩
    · conv => whnf
      rw [if_pos ⟨y8, Decidable.byContradiction c⟩] at hP
      exact ⟨trivial, hP⟩
  · refine ⟨fun _ => ?_, fun c => absurd (fun q => y8 ((nI_eq (a := y.1) (b := 8) (by omega) (by decide)).mp q)) c⟩
    conv => whnf
    rw [if_neg (fun q => y8 q.1)] at hP
    exact ⟨trivial, hP⟩
set_option maxRecDepth 100000 in
theorem tc_e {x y : bk_X} {P : am_Q} {X : am_X} {l3 : Option am_V} (hX : am_K (d + 2) false nm_X0_together P X) (hW : W ≤ 8) (ox : bk_w W x) (oy : bk_w W y) (hP : P (.inl (some (aI (tgI (if egN x.1 = 0 ∨ egN y.1 = 0 then 8 else esK ((egN x.1 + egN y.1) % 8)))))) M) : X 87 [some (aI (nI (bk_p x))), some (aI (nI (bk_p y))), some (aI (nI x.1)), l3] [] M := by
  have kx := ox.1
  have ky := oy.1
  have ex := eg_7 x.1
  have ey := eg_7 y.1
  have ax : (fun j => xp_a1.getD j 0) (nI x.1).toNatClampNeg = nI (egN x.1) := by
    rw [nI_clamp (by omega)]
    exact a1_e _ (by omega)
  have ay : (fun j => xp_a1.getD j 0) (nI y.1).toNatClampNeg = nI (egN y.1) := by
    rw [nI_clamp (by omega)]
    exact a1_e _ (by omega)
  refine am_run hX 60 _ _ _ _ ?_
  conv => whnf
  refine ⟨vp_in_nI (n := x.1) (N := 11) (by omega) (by decide), ?_⟩
  conv => whnf
  rw [ax, show (0 : Int32) = nI 0 from rfl, nI_eq (by omega) (by decide)]
  refine ⟨fun c => ?_, fun cx => ?_⟩
  · conv => whnf
    rw [if_pos (Or.inl c)] at hP
    exact ⟨trivial, hP⟩
  conv => whnf
  refine am_c1 (ct_kind (d := d + 1)) ?_
  rw [bk_k hW oy]
  conv => whnf
  refine ⟨vp_in_nI (n := y.1) (N := 11) (by omega) (by decide), ?_⟩
  conv => whnf
  rw [ay, show (0 : Int32) = nI 0 from rfl, nI_eq (by omega) (by decide)]
  refine ⟨fun cy => ?_, fun c => ?_⟩
  · rw [if_neg (fun q => q.elim cx cy)] at hP
    conv => whnf
    refine ⟨vp_in_nI (n := x.1) (N := 11) (by omega) (by decide), ?_⟩
    conv => whnf
    refine am_c1 (ct_kind (d := d + 1)) ?_
    rw [bk_k hW oy]
    conv => whnf
    refine ⟨vp_in_nI (n := y.1) (N := 11) (by omega) (by decide), ?_⟩
    conv => whnf
    rw [ax, ay, nI_add, nI_m7]
    generalize hs : (egN x.1 + egN y.1) % 8 = s at hP
    have s8 : s < 8 := by omega
    rw [show (0 : Int32) = nI 0 from rfl, nI_eq (by omega) (by decide)]
    refine ⟨fun c0 => ?_, fun c0 => ?_⟩
    · conv => whnf
      have e : tgI (esK s) = nI s := by rw [c0]; rfl
      rw [e] at hP
      exact ⟨trivial, hP⟩
    · conv => whnf
      refine ⟨vp_in_nI (n := s) (N := 8) (by omega) (by decide), ?_⟩
      conv => whnf
      rw [show (fun j => xp_a0.getD j 0) (nI s).toNatClampNeg = xp_a0.getD s 0 from by rw [nI_clamp (by omega)], a0_s s s8 c0]
      refine ⟨fun q => ?_, fun q => ?_⟩
      · conv => whnf
        have e : tgI (esK s) = -1 := by
          unfold esK
          rw [if_pos q]
          rfl
        rw [e] at hP
        exact ⟨trivial, hP⟩
      · conv => whnf
        have e : tgI (esK s) = nI s := by
          unfold esK tgI
          rw [if_neg q, if_neg (by omega)]
        rw [e] at hP
        exact ⟨trivial, hP⟩
  · conv => whnf
    rw [if_pos (Or.inr (Decidable.byContradiction c))] at hP
    exact ⟨trivial, hP⟩
set_option maxRecDepth 100000 in
theorem ct_togC {x y : bk_X} (hW : W ≤ 8) (ox : bk_w W x) (oy : bk_w W y) : am_M (d + 3) false nm_X0_together [aI (nI (bk_p x)), aI (nI (bk_p y))] M (am_q1 (aI (tgI (togN x y))) M) := by
  have kx := ox.1
  have ky := oy.1
  have h8 := w256 hW
  have wx := ox.2.1
  have wy := oy.2.1
  have lx := ox.2.2.2.1
  have ly := oy.2.2.2.1
  refine ⟨rfl, rfl, rfl, fun X hX => am_run hX 8 _ _ _ _ ?_⟩
  conv => whnf
  refine am_c1 (ct_kind (d := d + 1)) ?_
  rw [bk_k hW ox]
  conv => whnf
  refine am_c1 (ct_controlsOf (d := d + 1)) ?_
  rw [bk_cc hW ox]
  conv => whnf
  refine am_c1 (ct_controlsOf (d := d + 1)) ?_
  rw [bk_cc hW oy]
  conv => whnf
  rw [nI_eq (by omega) (by omega)]
  refine ⟨fun hc => ?_, fun hc => ?_⟩
  · refine am_run hX 3 _ _ _ _ ?_
    conv => whnf
    rw [show (8 : Int32) = nI 8 from rfl, nI_eq (by omega) (by decide)]
    refine ⟨fun x8 => ?_, fun x8 => ?_⟩
    · refine am_run hX 4 _ _ _ _ ?_
      conv => whnf
      refine am_c1 (ct_kind (d := d + 1)) ?_
      rw [bk_k hW oy]
      conv => whnf
      rw [show (8 : Int32) = nI 8 from rfl, nI_eq (by omega) (by decide)]
      refine ⟨fun y8 => ?_, fun y8 => ?_⟩
      · have e : togN x y = 8 := by
          unfold togN
          rw [if_pos hc, if_neg x8, if_pos (Or.inl y8)]
        rw [e] at hX
        refine am_run hX 2 _ _ _ _ ?_
        conv => whnf
        exact ⟨trivial, rfl, rfl⟩
      · refine am_run hX 5 _ _ _ _ ?_
        conv => whnf
        refine am_c1 (ct_wireOf (d := d + 1)) ?_
        rw [bk_wi hW ox]
        conv => whnf
        refine am_c1 (ct_wireOf (d := d + 1)) ?_
        rw [bk_wi hW oy]
        conv => whnf
        rw [nI_eq (by omega) (by omega)]
        refine ⟨fun hw => ?_, fun hw => ?_⟩
        · have e0 : togN x y = if x.1 ≤ 3 ∧ x.1 = y.1 then 0 else if egN x.1 = 0 ∨ egN y.1 = 0 then 8 else esK ((egN x.1 + egN y.1) % 8) := by
            unfold togN
            rw [if_pos hc, if_neg x8, if_neg (fun q => q.elim y8 (fun z => z hw))]
          rw [e0] at hX
          have hend : (¬ (x.1 ≤ 3 ∧ x.1 = y.1)) → X 87 [some (aI (nI (bk_p x))), some (aI (nI (bk_p y))), some (aI (nI x.1)), none] [] M := by
            intro hn
            rw [if_neg hn] at hX
            exact tc_e (d := d) hX hW ox oy ⟨rfl, rfl⟩
          refine am_run hX 3 _ _ _ _ ?_
          conv => whnf
          refine ⟨fun c3 => ?_, fun c3 => ?_⟩
          · exact hend (fun q => absurd c3 (nI_nlt (a := 3) (b := x.1) (by omega) (by omega)))
          · have h3 : x.1 ≤ 3 := by
              apply Classical.byContradiction
              intro q
              exact c3 (nI_lt (a := 3) (b := x.1) (by omega) (by omega))
            refine am_run hX 4 _ _ _ _ ?_
            conv => whnf
            refine am_c1 (ct_kind (d := d + 1)) ?_
            rw [bk_k hW oy]
            conv => whnf
            rw [nI_eq (by omega) (by omega)]
            refine ⟨fun q => hend (fun z => q z.2), fun q => ?_⟩
            rw [if_pos ⟨h3, Decidable.byContradiction q⟩] at hX
            refine am_run hX 2 _ _ _ _ ?_
            conv => whnf
            exact ⟨trivial, rfl, rfl⟩
        · have e : togN x y = 8 := by
            unfold togN
            rw [if_pos hc, if_neg x8, if_pos (Or.inr hw)]
          rw [e] at hX
          refine am_run hX 2 _ _ _ _ ?_
          conv => whnf
          exact ⟨trivial, rfl, rfl⟩
    · exact tc_8 (d := d) hX hW ox oy hc (Decidable.byContradiction x8) ⟨rfl, rfl⟩
  · have e : togN x y = 8 := if_neg hc
    rw [e] at hX
    refine am_run hX 2 _ _ _ _ ?_
    conv => whnf
    exact ⟨trivial, rfl, rfl⟩
end TGC
