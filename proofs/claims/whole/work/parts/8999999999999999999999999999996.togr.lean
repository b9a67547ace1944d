/-! derive, CANCELLED: what two OPS are together, at the reference -/
/-- an OP at the reference -/
def rfO (M : mm_M) (a : Nat) (x : bk_X) : Prop := M.1 112 a = nI x.1 ∧ M.1 113 a = nI x.2.1 ∧ M.1 114 a = nI x.2.2.1 ∧ M.1 115 a = nI x.2.2.2.1
def trI (t : Nat) : Int32 := if t = 8 then -1 else if t = 0 then 0 else nI (1 + keN t)
theorem ws_t {W : Nat} {x : bk_X} (h : ogd W x) (h8 : x.1 = 8) (i : Nat) : (wsN x).testBit i = true ↔ i = x.2.1 ∨ i = x.2.2.1 ∨ x.2.2.2.1.testBit i = true := by
  unfold wsN
  rw [if_pos h8, Nat.testBit_or, Nat.testBit_or, Nat.testBit_two_pow, Nat.testBit_two_pow, Bool.or_eq_true, Bool.or_eq_true, decide_eq_true_eq, decide_eq_true_eq]
  constructor
  · rintro ((a | a) | a)
    · exact Or.inl a.symm
    · exact Or.inr (Or.inl a.symm)
    · exact Or.inr (Or.inr a)
  · rintro (a | a | a)
    · exact Or.inl (Or.inl a.symm)
    · exact Or.inl (Or.inr a.symm)
    · exact Or.inr a
/-- two exchanges of the same WIRES -/
theorem sw_set {W : Nat} {x y : bk_X} (hx : ogd W x) (hy : ogd W y) (x8 : x.1 = 8) (y8 : y.1 = 8) (hc : x.2.2.2.1 = y.2.2.2.1) (hs : wsN x = wsN y) : (x.2.1 = y.2.1 ∧ x.2.2.1 = y.2.2.1) ∨ (x.2.1 = y.2.2.1 ∧ x.2.2.1 = y.2.1) := by
  obtain ⟨_, x1, x2⟩ := hx
  obtain ⟨_, y1, y2⟩ := hy
  obtain ⟨_, x3, x4⟩ := x2 x8
  have a := (ws_t ⟨by assumption, y1, y2⟩ y8 x.2.1).mp (by rw [← hs]; exact (ws_t ⟨by assumption, x1, x2⟩ x8 x.2.1).mpr (Or.inl rfl))
  have b := (ws_t ⟨by assumption, y1, y2⟩ y8 x.2.2.1).mp (by rw [← hs]; exact (ws_t ⟨by assumption, x1, x2⟩ x8 x.2.2.1).mpr (Or.inr (Or.inl rfl)))
  rw [← hc, x1] at a
  rw [← hc, x4] at b
  rcases a with a | a | a
  · rcases b with b | b | b
    · exact absurd (a.trans b.symm) x3
    · exact Or.inl ⟨a, b⟩
    · cases b
  · rcases b with b | b | b
    · exact Or.inr ⟨a, b⟩
    · exact absurd (a.trans b.symm) x3
    · cases b
  · cases a
section TGR
variable {d : Nat} {M : mm_M} {W : Nat}
set_option maxRecDepth 100000 in
theorem ct_egR {k : Nat} (hk : k ≤ 10) : am_M (d + 1) false nm_X12_eighthsOf [aI (nI k)] M (am_q1 (aI (nI (egN k))) M) := by
  have e : ∀ j, j < 11 → (nI k = nI j ↔ k = j) := fun j hj => nI_eq (by omega) (by omega)
  refine ⟨rfl, rfl, rfl, fun X hX => am_run hX 30 _ _ _ _ ?_⟩
  conv => whnf
  rw [show (2 : Int32) = nI 2 from rfl, e 2 (by decide)]
  refine ⟨fun c2 => ?_, fun c => ?_⟩
  · conv => whnf
    rw [show (4 : Int32) = nI 4 from rfl, e 4 (by decide)]
    refine ⟨fun c4 => ?_, fun c => ?_⟩
    · conv => whnf
      rw [show (5 : Int32) = nI 5 from rfl, e 5 (by decide)]
      refine ⟨fun c5 => ?_, fun c => ?_⟩
      · conv => whnf
        rw [show (6 : Int32) = nI 6 from rfl, e 6 (by decide)]
        refine ⟨fun c6 => ?_, fun c => ?_⟩
        · conv => whnf
          rw [show (7 : Int32) = nI 7 from rfl, e 7 (by decide)]
          refine ⟨fun c7 => ?_, fun c => ?_⟩
          · conv => whnf
            refine ⟨trivial, ?_, rfl⟩
            unfold egN
            rw [if_neg c2, if_neg c4, if_neg c5, if_neg c6, if_neg c7]
            rfl
          · conv => whnf
            refine ⟨trivial, ?_, rfl⟩
            rw [Decidable.byContradiction c]
            rfl
        · conv => whnf
          refine ⟨trivial, ?_, rfl⟩
          rw [Decidable.byContradiction c]
          rfl
      · conv => whnf
        refine ⟨trivial, ?_, rfl⟩
        rw [Decidable.byContradiction c]
        rfl
    · conv => whnf
      refine ⟨trivial, ?_, rfl⟩
      rw [Decidable.byContradiction c]
      rfl
  · conv => whnf
    refine ⟨trivial, ?_, rfl⟩
    rw [Decidable.byContradiction c]
    rfl
set_option maxRecDepth 100000 in
theorem ct_wsA {a : Nat} {x : bk_X} (ha : a < 6300) (hW : W ≤ 8) (ow : bk_w W x) (h : rfO M a x) : am_M (d + 1) false nm_X12_wiresAt [aR 108, aI (nI a)] M (am_q1 (aI (nI (wsN x))) M) := by
  obtain ⟨h2, h3, h4, h5⟩ := h
  have hk := ow.1
  have hw := ow.2.1
  have hs := ow.2.2.1
  have hI : vp_in (nI a) 6300 := vp_in_nI ha (by decide)
  refine ⟨rfl, rfl, rfl, fun X hX => am_run hX 40 _ _ _ _ ?_⟩
  conv => whnf
  refine ⟨hI, ?_⟩
  conv => whnf
  refine ⟨hI, ?_⟩
  conv => whnf
  rw [nI_clamp (n := a) (by omega), h2, h3, sh2 _ (by omega)]
  by_cases c8 : x.1 = 8
  · have e : wsN x = 2 ^ x.2.1 ||| 2 ^ x.2.2.1 ||| x.2.2.2.1 := by
      unfold wsN
      rw [if_pos c8]
    rw [c8]
    refine ⟨fun c => absurd rfl c, fun _ => ?_⟩
    conv => whnf
    refine ⟨hI, ?_⟩
    conv => whnf
    refine ⟨hI, ?_⟩
    conv => whnf
    rw [nI_clamp (n := a) (by omega), h4, h5, sh2 _ (by omega), nI_or, nI_or, e]
    exact ⟨trivial, rfl, rfl⟩
  · have e : wsN x = 2 ^ x.2.1 ||| 0 ||| x.2.2.2.1 := by
      unfold wsN
      rw [if_neg c8]
    refine ⟨fun _ => ?_, fun c => absurd (fun q => c8 ((nI_eq (a := x.1) (b := 8) (by omega) (by decide)).mp q)) c⟩
    conv => whnf
    refine ⟨hI, ?_⟩
    conv => whnf
    rw [nI_clamp (n := a) (by omega), h5, show (0 : Int32) = nI 0 from rfl, nI_or, nI_or, e]
    exact ⟨trivial, rfl, rfl⟩
set_option maxRecDepth 100000 in
theorem tr_8 {a b : Nat} {x y : bk_X} {P : am_Q} {X : am_X} {l4 l5 : Option am_V} (hX : am_K (d + 1) false nm_X12_together P X) (ha : a < 6300) (hb : b < 6300) (hW : W ≤ 8) (gx : ogd W x) (gy : ogd W y) (hx : rfO M a x) (hy : rfO M b y) (x8 : x.1 = 8) (y8 : y.1 = 8) (hP : P (.inl (some (aI (trI (togN x y))))) M) : X 58 [some (aR 108), some (aI (nI a)), some (aI (nI b)), some (aI (if x.2.1 = y.2.1 ∧ x.2.2.2.1 = y.2.2.2.1 then 1 else 0)), l4, l5] [] M := by
  have ox := gx.1
  have oy := gy.1
  have h8 := w256 hW
  have wx := ox.2.1
  have wy := oy.2.1
  have sx := ox.2.2.1
  have sy := oy.2.2.1
  have cx := ox.2.2.2.1
  have cy := oy.2.2.2.1
  have lx := wsN_l hW ox
  have ly := wsN_l hW oy
  obtain ⟨x2, x3, x4, x5⟩ := hx
  obtain ⟨y2, y3, y4, y5⟩ := hy
  have hIa : vp_in (nI a) 6300 := vp_in_nI ha (by decide)
  have hIb : vp_in (nI b) 6300 := vp_in_nI hb (by decide)
  have e : togN x y = if x.2.2.2.1 = y.2.2.2.1 then (if y.1 = 8 ∧ wsN x = wsN y then 0 else 8) else 8 := by
    unfold togN
    rw [if_pos x8]
  rw [e] at hP
  have hno : ¬ (x.2.2.2.1 = y.2.2.2.1 ∧ wsN x = wsN y) → X 139 [some (aR 108), some (aI (nI a)), some (aI (nI b)), some (aI (if x.2.1 = y.2.1 ∧ x.2.2.2.1 = y.2.2.2.1 then 1 else 0)), l4, l5] [] M := by
    intro hn
    have e2 : (if x.2.2.2.1 = y.2.2.2.1 then (if y.1 = 8 ∧ wsN x = wsN y then 0 else 8) else 8) = 8 := by
      by_cases q : x.2.2.2.1 = y.2.2.2.1
      · rw [if_pos q, if_neg (fun z => hn ⟨q, z.2⟩)]
      · rw [if_neg q]
    rw [e2] at hP
    refine am_run hX 2 _ _ _ _ ?_
    conv => whnf
    exact ⟨trivial, hP⟩
  refine am_run hX 9 _ _ _ _ ?_
  conv => whnf
  refine ⟨hIa, ?_⟩
  conv => whnf
  refine ⟨hIb, ?_⟩
  conv => whnf
  rw [nI_clamp (n := a) (by omega), nI_clamp (n := b) (by omega), x5, y5, nI_eq (by omega) (by omega)]
  refine ⟨fun q => hno (fun z => q z.1), fun q => ?_⟩
  have hc := Decidable.byContradiction q
  refine am_run hX 7 _ _ _ _ ?_
  conv => whnf
  refine am_c1 (ct_wsA (d := d) ha hW ox ⟨x2, x3, x4, x5⟩) ?_
  conv => whnf
  refine am_c1 (ct_wsA (d := d) hb hW oy ⟨y2, y3, y4, y5⟩) ?_
  conv => whnf
  rw [nI_eq (by omega) (by omega)]
  refine ⟨fun q => hno (fun z => q z.2), fun q => ?_⟩
  have hs := Decidable.byContradiction q
  rw [if_pos hc, if_pos ⟨y8, hs⟩] at hP
  have hye : X 135 [some (aR 108), some (aI (nI a)), some (aI (nI b)), some (aI (if x.2.1 = y.2.1 ∧ x.2.2.2.1 = y.2.2.2.1 then 1 else 0)), l4, l5] [] M := by
    refine am_run hX 3 _ _ _ _ ?_
    conv => whnf
    exact ⟨trivial, hP⟩
  rcases sw_set gx gy x8 y8 hc hs with ⟨e1, e2⟩ | ⟨e1, e2⟩
  · rw [if_pos ⟨e1, hc⟩] at hye ⊢
    refine am_run hX 2 _ _ _ _ ?_
    conv => whnf
    refine ⟨fun q => absurd q (by decide), fun _ => ?_⟩
    refine am_run hX 9 _ _ _ _ ?_
    conv => whnf
    refine ⟨hIa, ?_⟩
    conv => whnf
    refine ⟨hIb, ?_⟩
    conv => whnf
    rw [nI_clamp (n := a) (by omega), nI_clamp (n := b) (by omega), x4, y4, nI_eq (by omega) (by omega)]
    exact ⟨fun _ => hye, fun q => absurd e2 q⟩
  · have hsw : X 105 [some (aR 108), some (aI (nI a)), some (aI (nI b)), some (aI (if x.2.1 = y.2.1 ∧ x.2.2.2.1 = y.2.2.2.1 then 1 else 0)), l4, l5] [] M := by
      refine am_run hX 9 _ _ _ _ ?_
      conv => whnf
      refine ⟨hIa, ?_⟩
      conv => whnf
      refine ⟨hIb, ?_⟩
      conv => whnf
      rw [nI_clamp (n := a) (by omega), nI_clamp (n := b) (by omega), x3, y4, nI_eq (by omega) (by omega)]
      refine ⟨fun q => absurd e1 q, fun _ => ?_⟩
      refine am_run hX 9 _ _ _ _ ?_
      conv => whnf
      refine ⟨hIa, ?_⟩
      conv => whnf
      refine ⟨hIb, ?_⟩
      conv => whnf
      rw [nI_clamp (n := a) (by omega), nI_clamp (n := b) (by omega), x4, y3, nI_eq (by omega) (by omega)]
      refine ⟨fun q => absurd e2 q, fun _ => hye⟩
    by_cases hh : x.2.1 = y.2.1 ∧ x.2.2.2.1 = y.2.2.2.1
    · rw [if_pos hh] at hsw hye ⊢
      refine am_run hX 2 _ _ _ _ ?_
      conv => whnf
      refine ⟨fun q => absurd q (by decide), fun _ => ?_⟩
      refine am_run hX 9 _ _ _ _ ?_
      conv => whnf
      refine ⟨hIa, ?_⟩
      conv => whnf
      refine ⟨hIb, ?_⟩
      conv => whnf
      exact ⟨fun _ => hye, fun _ => hsw⟩
    · rw [if_neg hh] at hsw ⊢
      refine am_run hX 2 _ _ _ _ ?_
      conv => whnf
      exact ⟨fun _ => hsw, fun q => absurd rfl q⟩
set_option maxRecDepth 100000 in
theorem trn_n {a b : Nat} {x y : bk_X} {P : am_Q} {X : am_X} {l4 l5 : Option am_V} (hX : am_K (d + 1) false nm_X12_together P X) (ha : a < 6300) (hb : b < 6300) (hW : W ≤ 8) (ox : bk_w W x) (oy : bk_w W y) (hx : rfO M a x) (hy : rfO M b y) (hxy : ¬ (x.1 = 8 ∧ y.1 = 8)) (hP : P (.inl (some (aI (trI (togN x y))))) M) : X 141 [some (aR 108), some (aI (nI a)), some (aI (nI b)), some (aI (if x.2.1 = y.2.1 ∧ x.2.2.2.1 = y.2.2.2.1 then 1 else 0)), l4, l5] [] M := by
  have kx := ox.1
  have ky := oy.1
  have ex := eg_7 x.1
  have ey := eg_7 y.1
  obtain ⟨x2, x3, x4, x5⟩ := hx
  obtain ⟨y2, y3, y4, y5⟩ := hy
  have hIa : vp_in (nI a) 6300 := vp_in_nI ha (by decide)
  have hIb : vp_in (nI b) 6300 := vp_in_nI hb (by decide)
  by_cases hh : x.2.1 = y.2.1 ∧ x.2.2.2.1 = y.2.2.2.1
  · obtain ⟨hw, hc⟩ := hh
    have e : togN x y = if x.1 ≤ 3 ∧ x.1 = y.1 then 0 else if egN x.1 = 0 ∨ egN y.1 = 0 then 8 else esK ((egN x.1 + egN y.1) % 8) := by
      unfold togN
      rw [if_pos hc]
      by_cases x8 : x.1 = 8
      · have y8 : ¬ y.1 = 8 := fun q => hxy ⟨x8, q⟩
        rw [if_pos x8, if_neg (fun q => y8 q.1), if_neg (by omega), if_pos]
        left
        rw [x8]
        rfl
      · rw [if_neg x8]
        by_cases y8 : y.1 = 8
        · rw [if_pos (Or.inl y8), if_neg (by omega), if_pos]
          right
          rw [y8]
          rfl
        · rw [if_neg (fun q => q.elim y8 (fun z => z hw))]
    rw [e] at hP
    rw [if_pos ⟨hw, hc⟩]
    have h174 : ¬ (x.1 ≤ 3 ∧ x.1 = y.1) → X 174 [some (aR 108), some (aI (nI a)), some (aI (nI b)), some (aI 1), l4, l5] [] M := by
      intro hn
      rw [if_neg hn] at hP
      refine am_run hX 14 _ _ _ _ ?_
      conv => whnf
      refine ⟨hIa, ?_⟩
      conv => whnf
      rw [nI_clamp (n := a) (by omega), x2]
      refine am_c1 (ct_egR (d := d) kx) ?_
      conv => whnf
      refine ⟨hIb, ?_⟩
      conv => whnf
      rw [nI_clamp (n := b) (by omega), y2]
      refine am_c1 (ct_egR (d := d) ky) ?_
      conv => whnf
      rw [show (0 : Int32) = nI 0 from rfl, nI_eq (by omega) (by decide)]
      refine ⟨fun c => ?_, fun cx => ?_⟩
      · rw [if_pos (Or.inl c)] at hP
        refine am_run hX 2 _ _ _ _ ?_
        conv => whnf
        exact ⟨trivial, hP⟩
      refine am_run hX 2 _ _ _ _ ?_
      conv => whnf
      rw [show (0 : Int32) = nI 0 from rfl, nI_eq (by omega) (by decide)]
      refine ⟨fun cy => ?_, fun c => ?_⟩
      · rw [if_neg (fun q => q.elim cx cy)] at hP
        refine am_run hX 8 _ _ _ _ ?_
        conv => whnf
        rw [nI_add, nI_m7]
        have s8 : (egN x.1 + egN y.1) % 8 < 8 := Nat.mod_lt _ (by decide)
        generalize (egN x.1 + egN y.1) % 8 = s at hP s8
        have f : ∀ (n : Nat) (v : Int32), n < 8 → trI (esK n) = v → nI s = nI n → P (.inl (some (aI v))) M := fun n v n8 hv hn => by
          rw [(nI_eq (by omega) (by omega)).mp hn, hv] at hP
          exact hP
        refine ⟨fun c => ?_, fun d0 => ?_⟩
        · conv => whnf
          exact ⟨trivial, f 0 0 (by decide) (by decide) c⟩
        refine ⟨fun c => ?_, fun d1 => ?_⟩
        · conv => whnf
          exact ⟨trivial, f 1 6 (by decide) (by decide) c⟩
        refine ⟨fun c => ?_, fun d2 => ?_⟩
        · conv => whnf
          exact ⟨trivial, f 2 5 (by decide) (by decide) c⟩
        refine ⟨fun c => ?_, fun d3 => ?_⟩
        · conv => whnf
          exact ⟨trivial, f 3 (-1) (by decide) (by decide) c⟩
        refine ⟨fun c => ?_, fun d4 => ?_⟩
        · conv => whnf
          exact ⟨trivial, f 4 3 (by decide) (by decide) c⟩
        refine ⟨fun c => ?_, fun d5 => ?_⟩
        · conv => whnf
          exact ⟨trivial, f 5 (-1) (by decide) (by decide) c⟩
        refine ⟨fun c => ?_, fun d6 => ?_⟩
        · conv => whnf
          exact ⟨trivial, f 6 7 (by decide) (by decide) c⟩
        refine ⟨fun c => ?_, fun d7 => ?_⟩
        · conv => whnf
          exact ⟨trivial, f 7 8 (by decide) (by decide) c⟩
        rcases (by omega : s = 0 ∨ s = 1 ∨ s = 2 ∨ s = 3 ∨ s = 4 ∨ s = 5 ∨ s = 6 ∨ s = 7) with rfl | rfl | rfl | rfl | rfl | rfl | rfl | rfl
        · exact absurd rfl d0
        · exact absurd rfl d1
        · exact absurd rfl d2
        · exact absurd rfl d3
        · exact absurd rfl d4
        · exact absurd rfl d5
        · exact absurd rfl d6
        · exact absurd rfl d7
      · rw [if_pos (Or.inr (Decidable.byContradiction c))] at hP
        refine am_run hX 2 _ _ _ _ ?_
        conv => whnf
        exact ⟨trivial, hP⟩
    refine am_run hX 2 _ _ _ _ ?_
    conv => whnf
    refine ⟨fun _ => ?_, fun q => absurd (by decide) q⟩
    refine am_run hX 9 _ _ _ _ ?_
    conv => whnf
    refine ⟨hIa, ?_⟩
    conv => whnf
    refine ⟨hIb, ?_⟩
    conv => whnf
    rw [nI_clamp (n := a) (by omega), nI_clamp (n := b) (by omega), x2, y2, nI_eq (by omega) (by omega)]
    refine ⟨fun q => h174 (fun z => q z.2), fun q => ?_⟩
    refine am_run hX 6 _ _ _ _ ?_
    conv => whnf
    refine ⟨hIa, ?_⟩
    conv => whnf
    rw [nI_clamp (n := a) (by omega), x2]
    refine ⟨fun c3 => ?_, fun c3 => ?_⟩
    · exact h174 (fun z => absurd c3 (nI_nlt (a := 3) (b := x.1) (by omega) (by omega)))
    · have h3 : x.1 ≤ 3 := by
        apply Classical.byContradiction
        intro y
        exact c3 (nI_lt (a := 3) (b := x.1) (by omega) (by omega))
      rw [if_pos ⟨h3, Decidable.byContradiction q⟩] at hP
      refine am_run hX 2 _ _ _ _ ?_
      conv => whnf
      exact ⟨trivial, hP⟩
  · have e : togN x y = 8 := by
      unfold togN
      by_cases hc : x.2.2.2.1 = y.2.2.2.1
      · rw [if_pos hc]
        have hw : ¬ x.2.1 = y.2.1 := fun q => hh ⟨q, hc⟩
        by_cases x8 : x.1 = 8
        · rw [if_pos x8, if_neg (fun q => hxy ⟨x8, q.1⟩)]
        · rw [if_neg x8, if_pos (Or.inr hw)]
      · rw [if_neg hc]
    rw [e] at hP
    rw [if_neg hh]
    refine am_run hX 4 _ _ _ _ ?_
    conv => whnf
    refine ⟨fun q => absurd rfl q, fun _ => ?_⟩
    conv => whnf
    exact ⟨trivial, hP⟩
set_option maxRecDepth 100000 in
theorem ct_togR {a b : Nat} {x y : bk_X} (ha : a < 6300) (hb : b < 6300) (hW : W ≤ 8) (gx : ogd W x) (gy : ogd W y) (hx : rfO M a x) (hy : rfO M b y) : am_M (d + 2) false nm_X12_together [aR 108, aI (nI a), aI (nI b)] M (am_q1 (aI (trI (togN x y))) M) := by
  have ox := gx.1
  have oy := gy.1
  have h8 := w256 hW
  have kx := ox.1
  have ky := oy.1
  have wx := ox.2.1
  have wy := oy.2.1
  have cx := ox.2.2.2.1
  have cy := oy.2.2.2.1
  have hx0 := hx
  have hy0 := hy
  obtain ⟨x2, x3, x4, x5⟩ := hx
  obtain ⟨y2, y3, y4, y5⟩ := hy
  have hIa : vp_in (nI a) 6300 := vp_in_nI ha (by decide)
  have hIb : vp_in (nI b) 6300 := vp_in_nI hb (by decide)
  refine ⟨rfl, rfl, rfl, fun X hX => ?_⟩
  -- behind the first tests
  have h36 : ∀ v, v = (if x.2.1 = y.2.1 ∧ x.2.2.2.1 = y.2.2.2.1 then (1 : Int32) else 0) → X 35 [some (aR 108), some (aI (nI a)), some (aI (nI b)), none, none, none] [aI v] M := by
    intro v hv
    subst hv
    refine am_run hX 7 _ _ _ _ ?_
    conv => whnf
    refine ⟨hIa, ?_⟩
    conv => whnf
    rw [nI_clamp (n := a) (by omega), x2, show (8 : Int32) = nI 8 from rfl, nI_eq (by omega) (by decide)]
    refine ⟨fun q => trn_n (d := d) hX ha hb hW ox oy hx0 hy0 (fun z => q z.1) ⟨rfl, rfl⟩, fun q => ?_⟩
    have x8 := Decidable.byContradiction q
    refine am_run hX 6 _ _ _ _ ?_
    conv => whnf
    refine ⟨hIb, ?_⟩
    conv => whnf
    rw [nI_clamp (n := b) (by omega), y2, show (8 : Int32) = nI 8 from rfl, nI_eq (by omega) (by decide)]
    refine ⟨fun q => trn_n (d := d) hX ha hb hW ox oy hx0 hy0 (fun z => q z.2) ⟨rfl, rfl⟩, fun q => ?_⟩
    exact tr_8 (d := d) hX ha hb hW gx gy hx0 hy0 x8 (Decidable.byContradiction q) ⟨rfl, rfl⟩
  refine am_run hX 9 _ _ _ _ ?_
  conv => whnf
  refine ⟨hIa, ?_⟩
  conv => whnf
  refine ⟨hIb, ?_⟩
  conv => whnf
  rw [nI_clamp (n := a) (by omega), nI_clamp (n := b) (by omega), x3, y3, nI_eq (by omega) (by omega)]
  refine ⟨fun q => ?_, fun q => ?_⟩
  · refine am_run hX 1 _ _ _ _ ?_
    conv => whnf
    exact h36 0 (by rw [if_neg (fun z => q z.1)])
  · have hw := Decidable.byContradiction q
    refine am_run hX 9 _ _ _ _ ?_
    conv => whnf
    refine ⟨hIa, ?_⟩
    conv => whnf
    refine ⟨hIb, ?_⟩
    conv => whnf
    rw [nI_clamp (n := a) (by omega), nI_clamp (n := b) (by omega), x5, y5, nI_eq (by omega) (by omega)]
    refine ⟨fun q => ?_, fun q => ?_⟩
    · refine am_run hX 1 _ _ _ _ ?_
      conv => whnf
      exact h36 0 (by rw [if_neg (fun z => q z.2)])
    · refine am_run hX 2 _ _ _ _ ?_
      conv => whnf
      exact h36 1 (by rw [if_pos ⟨hw, Decidable.byContradiction q⟩])
end TGR
