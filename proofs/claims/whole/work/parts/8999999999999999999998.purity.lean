/-! purity -/
section PUG
variable {d w k : Nat} {M : mm_M} {xs : Nat → R4}
def thv (M : mm_M) (v : Int32) : mm_M := mm_i M 108 (upd (M.1 108) 0 v)
set_option maxRecDepth 100000 in
theorem ct_rais {v : Int32} : am_M (d + 1) false nm_X12_raise [aR 108, aI v] M (am_q1 (aI 0) (thv M v)) := by
  refine ⟨rfl, rfl, rfl, fun X hX => am_run hX 20 _ _ _ _ ?_⟩
  conv => whnf
  exact ⟨trivial, rfl, rfl⟩
theorem l50 {p : Nat} (hp : p < 2 ^ 31) : lg_cmp (nI p).toInt64 50 ≤ 0 ↔ p ≤ 50 := by
  rw [lg_le, show (50 : Int64) = (nI 50).toInt64 from by decide, Int64.lt_iff_toInt_lt, Int32.toInt_toInt64, Int32.toInt_toInt64, ← Int32.lt_iff_toInt_lt]
  constructor
  · intro h
    apply Decidable.byContradiction
    intro c
    exact h (nI_lt (by omega) hp)
  · intro h
    exact nI_nlt h (by decide)
/-- no power is too great -/
def dpO (xs : Nat → R4) (w k : Nat) : Prop := ∀ i j, i < 2 ^ w → j < 2 ^ w → (red k (xs (i + 2 ^ w * j))).2 ≤ 50
theorem dpO_m : dpO xs w k ↔ mxP (fun c => (red k (xs c)).2) (2 ^ (2 * w)) ≤ 50 := by
  have p := Nat.pow_pos (n := w) (show 0 < 2 by decide)
  rw [mxP_b]
  constructor
  · intro h c hc
    rw [n22] at hc
    have := h (c % 2 ^ w) (c / 2 ^ w) (Nat.mod_lt _ p) (Nat.div_lt_of_lt_mul hc)
    rw [Nat.mod_add_div] at this
    exact this
  · intro h i j hi hj
    refine h (i + 2 ^ w * j) ?_
    rw [n22]
    have : 2 ^ w * j + 2 ^ w ≤ 2 ^ w * 2 ^ w := by
      rw [← Nat.mul_succ]
      exact Nat.mul_le_mul_left _ hj
    omega
set_option maxRecDepth 100000 in
theorem td_j {i : Nat} {Pp : am_Q} {X : am_X} (hX : am_K (d + 1) false nm_X12_isTooDeep Pp X) (h : de_d M w k xs) (hi : i < 2 ^ w) (hno : ¬ dpO xs w k → Pp (.inl (some (aI 1))) M) (hK : (∀ j, j < 2 ^ w → (red k (xs (i + 2 ^ w * j))).2 ≤ 50) → X 51 [some (aR 108), some (aI (nI i)), some (aI (nI (2 ^ w)))] [] M) : ∀ m j, j + m = 2 ^ w → (∀ j', j' < j → (red k (xs (i + 2 ^ w * j'))).2 ≤ 50) → X 14 [some (aR 108), some (aI (nI i)), some (aI (nI j))] [] M := by
  have w3 := h.2.1
  have k120 := h.2.2.1
  have w8 : 2 ^ w ≤ 8 := (Nat.pow_le_pow_right (n := 2) (by decide) w3 : 2 ^ w ≤ 2 ^ 3)
  have e5 := h.2.2.2.2.1
  intro m
  induction m with
  | zero =>
    intro j hj ha
    have hj : j = 2 ^ w := by omega
    subst hj
    refine am_run hX 6 _ _ _ _ ?_
    conv => whnf
    rw [e5, sh2 w (by omega)]
    exact ⟨fun _ => hK ha, fun c => absurd (nI_le (by omega) (by omega)) c⟩
  | succ m ih =>
    intro j hj ha
    have l := (red_v k (xs (i + 2 ^ w * j))).1
    have r5 := (h.2.2.2.2.2.2.2.2.2.2.1 i j hi (by omega)).2.2.2.2
    refine am_run hX 6 _ _ _ _ ?_
    conv => whnf
    rw [e5, sh2 w (by omega)]
    refine ⟨fun c => absurd c (nI_ge (by omega) (by omega)), fun _ => ?_⟩
    refine am_run hX 5 _ _ _ _ ?_
    conv => whnf
    refine am_c1 (ct_cell (d := d) i j) ?_
    conv => whnf
    refine am_run hX 3 _ _ _ _ ?_
    conv => whnf
    rw [show (4 : Int32) = nI 4 from rfl, nI_add]
    refine ⟨vp_in_nI (by show 5 * (8 * i + j) + 4 < 320; omega) (by decide), ?_⟩
    conv => whnf
    rw [nI_clamp (n := 5 * (8 * i + j) + 4) (by omega), r5]
    refine am_run hX 3 _ _ _ _ ?_
    conv => whnf
    rw [l50 (by omega)]
    refine ⟨fun c => ?_, fun c => ?_⟩
    · refine am_run hX 2 _ _ _ _ ?_
      conv => whnf
      rw [nI_1]
      refine ih (j + 1) (by omega) fun j' hj' => ?_
      rcases (by omega : j' < j ∨ j' = j) with e | e
      · exact ha j' e
      · rw [e]
        exact c
    · refine am_run hX 2 _ _ _ _ ?_
      conv => whnf
      exact ⟨rfl, hno fun z => c (z i j hi (by omega))⟩
set_option maxRecDepth 100000 in
theorem td_i {Pp : am_Q} {X : am_X} (hX : am_K (d + 1) false nm_X12_isTooDeep Pp X) (h : de_d M w k xs) (hno : ¬ dpO xs w k → Pp (.inl (some (aI 1))) M) (hyes : dpO xs w k → Pp (.inl (some (aI 0))) M) : ∀ m i l2, i + m = 2 ^ w → (∀ i', i' < i → ∀ j, j < 2 ^ w → (red k (xs (i' + 2 ^ w * j))).2 ≤ 50) → X 2 [some (aR 108), some (aI (nI i)), l2] [] M := by
  have w3 := h.2.1
  have w8 : 2 ^ w ≤ 8 := (Nat.pow_le_pow_right (n := 2) (by decide) w3 : 2 ^ w ≤ 2 ^ 3)
  have e5 := h.2.2.2.2.1
  intro m
  induction m with
  | zero =>
    intro i l2 hi ha
    have hi : i = 2 ^ w := by omega
    subst hi
    refine am_run hX 6 _ _ _ _ ?_
    conv => whnf
    rw [e5, sh2 w (by omega)]
    refine ⟨fun _ => ?_, fun c => absurd (nI_le (by omega) (by omega)) c⟩
    refine am_run hX 2 _ _ _ _ ?_
    conv => whnf
    exact ⟨rfl, hyes fun i j hi hj => ha i hi j hj⟩
  | succ m ih =>
    intro i l2 hi ha
    refine am_run hX 6 _ _ _ _ ?_
    conv => whnf
    rw [e5, sh2 w (by omega)]
    refine ⟨fun c => absurd c (nI_ge (by omega) (by omega)), fun _ => ?_⟩
    refine am_run hX 2 _ _ _ _ ?_
    conv => whnf
    refine td_j (d := d) hX h (by omega) hno (fun hr => ?_) (2 ^ w) 0 (by omega) (fun j hj => absurd hj (Nat.not_lt_zero _))
    refine am_run hX 2 _ _ _ _ ?_
    conv => whnf
    rw [nI_1]
    refine ih (i + 1) _ (by omega) fun i' hi' => ?_
    rcases (by omega : i' < i ∨ i' = i) with e | e
    · exact ha i' e
    · rw [e]
      exact hr
set_option maxRecDepth 100000 in
theorem ct_deep (h : de_d M w k xs) : am_M (d + 2) false nm_X12_isTooDeep [aR 108] M (fun r N => N = M ∧ (dpO xs w k ∧ r = .inl (some (aI 0)) ∨ ¬ dpO xs w k ∧ r = .inl (some (aI 1)))) := by
  refine ⟨rfl, rfl, rfl, fun X hX => am_run hX 2 _ _ _ _ ?_⟩
  conv => whnf
  exact td_i (d := d) hX h (fun z => ⟨rfl, Or.inr ⟨z, rfl⟩⟩) (fun z => ⟨rfl, Or.inl ⟨z, rfl⟩⟩) (2 ^ w) 0 _ (by omega) (fun i hi => absurd hi (Nat.not_lt_zero _))
set_option maxRecDepth 100000 in
theorem puR_1 {q : Int32} (h : de_d M w k xs) (q0 : ¬ q < 0) (q2 : q ≤ 2) (ok : dpO xs w k) (k60 : k ≤ 60) : am_M (d + 5) false nm_X12_purity [aR 108, aI q] M (fun r N => r = .inl (some (aJ (rq (rh k (sR (wtT xs 0 0) (2 ^ (2 * w))).1 (sR (wtT xs 0 0) (2 ^ (2 * w))).2.1) q))) ∧ ∃ q' o f s, N = th0 (w4 M q' o f s)) := by
  have w3 := h.2.1
  have e5 := h.2.2.2.2.1
  have hr := vr_rh (vr_red (2 * k) (sR (wtT xs 0 0) (2 ^ (2 * w)))) (wt_cj xs 0 0 (2 ^ (2 * w)))
  have hl := (vr_red (2 * k) (sR (wtT xs 0 0) (2 ^ (2 * w)))).1
  have hbb := vr_bd (vr_red (2 * k) (sR (wtT xs 0 0) (2 ^ (2 * w)))) (by rw [← pu_S]; exact (pu_B h.2.2.2.2.2.2.2.2.2.2.2 k60).2 _ (Nat.le_refl _))
  have z : red (2 * k) (sR (puT xs w) (2 ^ w * 0)) = ((0, 0, 0, 0), 0) := red_0 _
  refine ⟨rfl, rfl, rfl, fun X hX => am_run hX 4 _ _ _ _ ?_⟩
  conv => whnf
  rw [e5]
  refine ⟨fun c => absurd c (nI_nm (by omega)), fun _ => ?_⟩
  refine am_run hX 2 _ _ _ _ ?_
  conv => whnf
  refine ⟨fun c => absurd c q0, fun _ => ?_⟩
  refine am_run hX 3 _ _ _ _ ?_
  conv => whnf
  refine ⟨fun _ => ?_, fun c => absurd q2 c⟩
  refine am_run hX 2 _ _ _ _ ?_
  conv => whnf
  refine am_cq (ct_deep (d := d + 2) h) ?_
  rintro r N ⟨rfl, ⟨_, rfl⟩ | ⟨no, _⟩⟩
  rotate_left
  · exact absurd ok no
  refine ⟨_, rfl, ?_⟩
  conv => whnf
  refine am_run hX 1 _ _ _ _ ?_
  conv => whnf
  refine ⟨fun _ => ?_, fun c => absurd rfl c⟩
  refine am_run hX 2 _ _ _ _ ?_
  conv => whnf
  refine am_c0 (ct_clr (d := d + 3)) ?_
  rw [w4_s]
  conv => whnf
  refine am_run hX 2 _ _ _ _ ?_
  conv => whnf
  have key := pu_i (d := d + 1) (M := N) (q := q) hX h k60 ?_ (2 ^ w) 0 (by omega) (N.2 152) (N.2 119) (N.2 118) none
  · rw [z] at key
    exact key
  · intro q' o f l3
    rw [pu_S]
    refine am_run hX 5 _ _ _ _ ?_
    conv => whnf
    refine am_c0 (ct_ld153 (d := d + 3) (a := 0) (by omega) (at_ov _ _ _)) ?_
    conv => whnf
    refine am_run hX 5 _ _ _ _ ?_
    conv => whnf
    refine am_c1 (ct_tellr1 (d := d + 2) q0 q2 (by omega) hbb) ?_
    conv => whnf
    refine am_run hX 1 _ _ _ _ ?_
    conv => whnf
    rw [w4_f, hr]
    exact ⟨trivial, rfl, _, _, _, _, rfl⟩
set_option maxRecDepth 100000 in
theorem puR_2 {q : Int32} (h : de_d M w k xs) (q0 : ¬ q < 0) (q2 : q ≤ 2) (no : ¬ dpO xs w k) : am_M (d + 5) false nm_X12_purity [aR 108, aI q] M (fun r N => (∃ v, r = .inl (some (aJ v))) ∧ N = thv M 2) := by
  have w3 := h.2.1
  have e5 := h.2.2.2.2.1
  refine ⟨rfl, rfl, rfl, fun X hX => am_run hX 4 _ _ _ _ ?_⟩
  conv => whnf
  rw [e5]
  refine ⟨fun c => absurd c (nI_nm (by omega)), fun _ => ?_⟩
  refine am_run hX 2 _ _ _ _ ?_
  conv => whnf
  refine ⟨fun c => absurd c q0, fun _ => ?_⟩
  refine am_run hX 3 _ _ _ _ ?_
  conv => whnf
  refine ⟨fun _ => ?_, fun c => absurd q2 c⟩
  refine am_run hX 2 _ _ _ _ ?_
  conv => whnf
  refine am_cq (ct_deep (d := d + 2) h) ?_
  rintro r N ⟨rfl, ⟨ok, _⟩ | ⟨_, rfl⟩⟩
  · exact absurd ok no
  refine ⟨_, rfl, ?_⟩
  conv => whnf
  refine am_run hX 1 _ _ _ _ ?_
  conv => whnf
  refine ⟨fun c => absurd c (by decide), fun _ => ?_⟩
  refine am_run hX 3 _ _ _ _ ?_
  conv => whnf
  refine am_c1 (ct_rais (d := d + 3)) ?_
  conv => whnf
  refine am_run hX 2 _ _ _ _ ?_
  conv => whnf
  exact ⟨trivial, ⟨_, rfl⟩, rfl⟩
/-- what purity refuses -/
def pu_no (M : mm_M) (q : Int32) : Prop := (M.1 104 1 = 0 ∧ M.1 108 88 = -1) ∨ ∃ w k xs, de_d M w k xs ∧ (q < 0 ∨ ¬ q ≤ 2)
set_option maxRecDepth 100000 in
theorem puR_0 {q : Int32} (h : pu_no M q) : am_M (d + 2) false nm_X12_purity [aR 108, aI q] M (fun r N => (∃ v, r = .inl (some (aJ v))) ∧ N = thv M 1) := by
  refine ⟨rfl, rfl, rfl, fun X hX => am_run hX 4 _ _ _ _ ?_⟩
  conv => whnf
  have no : X 17 [some (aR 108), some (aI q), none, none] [] M := by
    refine am_run hX 3 _ _ _ _ ?_
    conv => whnf
    refine am_c1 (ct_rais (d := d)) ?_
    conv => whnf
    refine am_run hX 2 _ _ _ _ ?_
    conv => whnf
    exact ⟨trivial, ⟨_, rfl⟩, rfl⟩
  refine ⟨fun _ => no, fun c => ?_⟩
  refine am_run hX 2 _ _ _ _ ?_
  conv => whnf
  refine ⟨fun _ => no, fun c0 => ?_⟩
  refine am_run hX 3 _ _ _ _ ?_
  conv => whnf
  refine ⟨fun c2 => ?_, fun _ => no⟩
  rcases h with h | ⟨_, _, _, _, h | h⟩
  · exact absurd h.2 c
  · exact absurd h c0
  · exact absurd c2 h
set_option maxRecDepth 100000 in
theorem puX_0 {q : Int32} (h : pu_no M q) : am_M 999 true nm_X11_purity [aR 0, aI q] M (fun r M' => r = .inr "java/util/NoSuchElementException" ∧ M' = M) := by
  refine ⟨rfl, rfl, rfl, fun X hX => am_run hX 60 _ _ _ _ ?_⟩
  conv => whnf
  refine ⟨fun c => ?_, fun c => ?_⟩
  · conv => whnf
    exact ⟨⟨by decide, rfl⟩, rfl, rfl⟩
  · conv => whnf
    refine ⟨fun c0 => ?_, fun c0 => ?_⟩
    · conv => whnf
      exact ⟨⟨by decide, rfl⟩, rfl, rfl⟩
    · conv => whnf
      refine ⟨fun c2 => ?_, fun c2 => ?_⟩
      · rcases h with h | ⟨_, _, _, _, h | h⟩
        · exact absurd h.1 c
        · exact absurd h c0
        · exact absurd c2 h
      · conv => whnf
        exact ⟨⟨by decide, rfl⟩, rfl, rfl⟩
set_option maxRecDepth 100000 in
theorem puX_2 {q : Int32} (h : de_d M w k xs) (q0 : ¬ q < 0) (q2 : q ≤ 2) (no : ¬ dpO xs w k) : am_M 999 true nm_X11_purity [aR 0, aI q] M (fun r M' => r = .inr "java/lang/ArithmeticException" ∧ M' = M) := by
  have w1 := h.1
  have w3 := h.2.1
  have k120 := h.2.2.1
  have e4 := h.2.2.2.1
  have mb : mxP (fun c => (red k (xs c)).2) (2 ^ (2 * w)) ≤ k := (mxP_b _).mpr fun j _ => (red_v k (xs j)).1
  have m50 : ¬ mxP (fun c => (red k (xs c)).2) (2 ^ (2 * w)) ≤ 50 := fun z => no (dpO_m.mpr z)
  refine ⟨rfl, rfl, rfl, fun X hX => am_run hX 60 _ _ _ _ ?_⟩
  conv => whnf
  rw [e4]
  refine ⟨fun c => absurd ((nI_eq (b := 0) (by omega) (by decide)).mp c) (by omega), fun _ => ?_⟩
  conv => whnf
  refine ⟨fun c => absurd c q0, fun _ => ?_⟩
  conv => whnf
  refine ⟨fun _ => ?_, fun c => absurd q2 c⟩
  conv => whnf
  refine am_c1 (ct_gpow (d := 995) h) ?_
  conv => whnf
  refine ⟨fun c => absurd c (nI_ge (a := 50) (by omega) (by omega)), fun _ => ?_⟩
  conv => whnf
  exact ⟨⟨by decide, rfl⟩, rfl, rfl⟩
set_option maxRecDepth 100000 in
theorem puX_1 {q : Int32} (h : de_d M w k xs) (q0 : ¬ q < 0) (q2 : q ≤ 2) (ok : dpO xs w k) (hb : bd (sR (wtT (lowA (2 ^ (2 * w)) k xs).2 0 0) (2 ^ (2 * w)))) : am_M 999 true nm_X11_purity [aR 0, aI q] M (am_q1 (aJ (rq (rh (lowA (2 ^ (2 * w)) k xs).1 (sR (wtT (lowA (2 ^ (2 * w)) k xs).2 0 0) (2 ^ (2 * w))).1 (sR (wtT (lowA (2 ^ (2 * w)) k xs).2 0 0) (2 ^ (2 * w))).2.1) q)) (mm_l (lwM M (2 ^ (2 * w)) (lowA (2 ^ (2 * w)) k xs)) 106 (s4 (M.2 106) (sR (wtT (lowA (2 ^ (2 * w)) k xs).2 0 0) (2 ^ (2 * w)))))) := by
  have w1 := h.1
  have w3 := h.2.1
  have k120 := h.2.2.1
  have e4 := h.2.2.2.1
  have m50 := dpO_m.mp ok
  refine ⟨rfl, rfl, rfl, fun X hX => am_run hX 60 _ _ _ _ ?_⟩
  conv => whnf
  rw [e4]
  refine ⟨fun c => absurd ((nI_eq (b := 0) (by omega) (by decide)).mp c) (by omega), fun _ => ?_⟩
  conv => whnf
  refine ⟨fun c => absurd c q0, fun _ => ?_⟩
  conv => whnf
  refine ⟨fun _ => ?_, fun c => absurd q2 c⟩
  conv => whnf
  refine am_c1 (ct_gpow (d := 995) h) ?_
  conv => whnf
  refine ⟨fun _ => ?_, fun c => absurd (nI_le (b := 50) m50 (by decide)) c⟩
  conv => whnf
  refine am_c1 (ct_pupt (d := 994) h m50 hb) ?_
  conv => whnf
  exact ⟨trivial, rfl, rfl⟩
end PUG
section PUH
variable {ac : Nat → ClassId} {lo : Nat} {ad as : Nat → Nat} {b L : Nat} {xs : Nat → Int32} {hp : mm_M → Nat → xm_H} {I J : mm_M → Prop}
/-- what purity may leave of the class -/
def puM (M N : mm_M) (v : Int64) : Prop := ∃ w k x g, de_d M w k x ∧ N = lt_o (mm_l (lwM M (2 ^ (2 * w)) (lowA (2 ^ (2 * w)) k x)) 106 g) v
theorem pr_purity (H : mm_L ac lo hp) (h1 : ∀ M, I M → de_x M) (hJ : ∀ M N v q o f s, I M → puM M N v → de_x (th0 (w4 N q o f s)) → J (th0 (w4 N q o f s))) (hJ1 : ∀ M v, I M → (v = 1 ∨ v = 2) → J (thv M v)) (p0 : Int32) : la_TJ ac lo ad as b L xs hp I J nm_L_purity nm_X12_purity [.int p0] := by
  refine lt_purity H p0 fun M hI => ?_
  by_cases hno : pu_no M p0
  · refine am_wk (puX_0 hno) fun r M1 e => Or.inr (Or.inl ⟨e.1, ?_⟩)
    rw [e.2]
    refine am_wk (puR_0 (d := 998) hno) fun r M2 e => ⟨e.1, ?_, ?_⟩
    · rw [e.2]
      rfl
    · rw [e.2]
      exact hJ1 M 1 hI (Or.inl rfl)
  · rcases h1 M hI with h | ⟨w, k, x, h⟩
    · exact absurd (Or.inl h) hno
    · have q0 : ¬ p0 < 0 := fun c => hno (Or.inr ⟨w, k, x, h, Or.inl c⟩)
      have q2 : p0 ≤ 2 := Decidable.byContradiction fun c => hno (Or.inr ⟨w, k, x, h, Or.inr c⟩)
      by_cases ok : dpO x w k
      · have l50 := (low_d h).2.2.2 (dpO_m.mp ok)
        have hd := fun g v => (show de_d (lt_o (mm_l (lwM M (2 ^ (2 * w)) (lowA (2 ^ (2 * w)) k x)) 106 g) v) w (lowA (2 ^ (2 * w)) k x).1 (lowA (2 ^ (2 * w)) k x).2 from lwM_d h g)
        have hB := (pu_B (hd (fun _ => 0) 0).2.2.2.2.2.2.2.2.2.2.2 (by omega)).2 _ (Nat.le_refl _)
        rw [pu_S] at hB
        refine am_wk (puX_1 h q0 q2 ok hB) fun r M1 e => Or.inl ⟨_, e.1, ?_⟩
        rw [e.2]
        have ok' : dpO (lowA (2 ^ (2 * w)) k x).2 w (lowA (2 ^ (2 * w)) k x).1 := fun i j hi hj => by
          have := (red_v (lowA (2 ^ (2 * w)) k x).1 ((lowA (2 ^ (2 * w)) k x).2 (i + 2 ^ w * j))).1
          omega
        have D := hd (s4 (M.2 106) (sR (wtT (lowA (2 ^ (2 * w)) k x).2 0 0) (2 ^ (2 * w)))) (rq (rh (lowA (2 ^ (2 * w)) k x).1 (sR (wtT (lowA (2 ^ (2 * w)) k x).2 0 0) (2 ^ (2 * w))).1 (sR (wtT (lowA (2 ^ (2 * w)) k x).2 0 0) (2 ^ (2 * w))).2.1) p0)
        refine am_wk (puR_1 (d := 995) D q0 q2 ok' (by omega)) ?_
        rintro r M2 ⟨rfl, q', o, f, s, rfl⟩
        exact ⟨rfl, rfl, by simp [th0, w4, lt_o, mm_i, mm_l, vp_updL], hJ M _ _ q' o f s hI ⟨w, k, x, _, h, rfl⟩ (Or.inr ⟨w, _, _, D⟩)⟩
      · refine am_wk (puX_2 h q0 q2 ok) fun r M1 e => Or.inr (Or.inr ⟨e.1, ?_⟩)
        rw [e.2]
        refine am_wk (puR_2 (d := 995) h q0 q2 ok) fun r M2 e => ⟨e.1, ?_, ?_⟩
        · rw [e.2]
          rfl
        · rw [e.2]
          exact hJ1 M 2 hI (Or.inr rfl)
end PUH
