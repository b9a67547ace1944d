/-! SUMS without TERMS: the second program's work, settleSum of one, sum 0, term; the pairs -/
section SMK
variable {d : Nat} {M : mm_M}
theorem lg_z (v : Int64) : lg_cmp v 0 = 0 ↔ v = 0 := lg_0 v 0
set_option maxRecDepth 100000 in
theorem sr_wk {c : Nat} {p q : Int64} (hc : c < 65536) (hm : M.1 108 64 = nI 0) (h1 : M.1 148 c = 0) (h2 : M.2 146 c = 0) (h3 : M.2 147 c = 0) : am_M (d + 1) false nm_X12_work [aR 108, aI (nI c), aJ p, aJ q] M (fun r M' => r = .inl none ∧ M'.1 108 64 = nI 1 ∧ M'.1 149 0 = nI c ∧ M'.2 146 c = p ∧ M'.2 147 c = q ∧ M'.1 142 = M.1 142) := by
  refine ⟨rfl, rfl, rfl, fun X hX => am_run hX 60 _ _ _ _ ?_⟩
  conv => whnf
  refine ⟨vp_in_nI (by show c < 65536; omega) (by decide), ?_⟩
  conv => whnf
  rw [nI_clamp (n := c) (by omega)]
  rw [h1]
  refine ⟨fun c => absurd rfl c, fun _ => ?_⟩
  conv => whnf
  refine ⟨vp_in_nI (by show c < 65536; omega) (by decide), ?_⟩
  conv => whnf
  rw [nI_clamp (n := c) (by omega)]
  rw [show (mm_i M 148 (upd (M.1 148) c (vp_nar (if 2 = 2 then FieldType.boolean else FieldType.byte) 1))).1 108 64 = nI 0 from hm]
  refine ⟨vp_in_nI (n := 0) (N := 22501) (by decide) (by decide), ?_⟩
  conv => whnf
  refine ⟨vp_in_nI (by show c < 65536; omega) (by decide), ?_⟩
  conv => whnf
  refine ⟨vp_in_nI (by show c < 65536; omega) (by decide), ?_⟩
  conv => whnf
  refine ⟨vp_in_nI (by show c < 65536; omega) (by decide), ?_⟩
  conv => whnf
  refine ⟨vp_in_nI (by show c < 65536; omega) (by decide), ?_⟩
  conv => whnf
  rw [nI_clamp (n := c) (by omega)]
  refine ⟨trivial, rfl, ?_, rfl, ?_, ?_, rfl⟩
  · exact (congrArg (fun v => v + 1) hm : M.1 108 64 + 1 = nI 0 + 1)
  · show (if c = c then M.2 146 c + p else M.2 146 c) = p
    rw [if_pos rfl, h2, Int64.zero_add]
  · show (if c = c then M.2 147 c + q else M.2 147 c) = q
    rw [if_pos rfl, h3, Int64.zero_add]
set_option maxRecDepth 100000 in
theorem sr_ok {c : Nat} (hc : c < 65536) (hm : M.1 108 64 = nI 1) (e : M.1 149 0 = nI c) (f1 : fitN (M.2 146 c) = 1) (f2 : fitN (M.2 147 c) = 1) : am_M (d + 2) false nm_X12_isWorkSmall [aR 108] M (am_q1 (aI (nI 1)) M) := by
  refine ⟨rfl, rfl, rfl, fun X hX => am_run hX 60 _ _ _ _ ?_⟩
  conv => whnf
  rw [hm]
  refine ⟨fun c => absurd c (by decide), fun _ => ?_⟩
  conv => whnf
  refine ⟨vp_in_nI (n := 0) (N := 22501) (by decide) (by decide), ?_⟩
  conv => whnf
  rw [show M.1 149 (Int32.toNatClampNeg 0) = nI c from e]
  refine ⟨vp_in_nI (by show c < 65536; omega) (by decide), ?_⟩
  conv => whnf
  rw [nI_clamp (n := c) (by omega)]
  refine am_c1 ct_fitm ?_
  try simp only [List.drop_succ_cons, List.drop_zero, List.append_eq, List.nil_append, List.append_nil]
  conv => whnf
  rw [f1]
  refine ⟨fun c => absurd c (by decide), fun _ => ?_⟩
  conv => whnf
  refine ⟨vp_in_nI (n := 0) (N := 22501) (by decide) (by decide), ?_⟩
  conv => whnf
  rw [show M.1 149 (Int32.toNatClampNeg 0) = nI c from e]
  refine ⟨vp_in_nI (by show c < 65536; omega) (by decide), ?_⟩
  conv => whnf
  rw [nI_clamp (n := c) (by omega)]
  try simp only [List.drop_succ_cons, List.drop_zero, List.append_eq, List.nil_append, List.append_nil]
  refine am_c1 ct_fitm ?_
  try simp only [List.drop_succ_cons, List.drop_zero, List.append_eq, List.nil_append, List.append_nil]
  conv => whnf
  rw [f2]
  refine ⟨fun _ => ?_, fun c => absurd (by decide) c⟩
  conv => whnf
  rw [hm]
  refine ⟨fun _ => ?_, fun c => absurd (by decide) c⟩
  conv => whnf
  exact ⟨rfl, rfl, rfl⟩
set_option maxRecDepth 100000 in
theorem sr_pl {c : Nat} (hc : c < 65536) (h : M.1 141 0 = nI 0) : am_M (d + 1) false nm_X12_place [aR 108, aI (nI c)] M (fun r M' => r = .inl none ∧ M'.1 108 = M.1 108) := by
  refine ⟨rfl, rfl, rfl, fun X hX => am_run hX 60 _ _ _ _ ?_⟩
  conv => whnf
  refine ⟨vp_in_nI (n := 0) (N := 2) (by decide) (by decide), ?_⟩
  conv => whnf
  rw [show M.1 141 (Int32.toNatClampNeg 0) = nI 0 from h]
  refine ⟨fun _ => ?_, fun c => absurd (by decide) c⟩
  conv => whnf
  refine ⟨vp_in_nI (n := 0) (N := 300) (by decide) (by decide), ?_⟩
  conv => whnf
  refine ⟨vp_in_nI (by show c < 65536; omega) (by decide), ?_⟩
  conv => whnf
  refine ⟨vp_in_nI (n := 0) (N := 300) (by decide) (by decide), ?_⟩
  conv => whnf
  refine ⟨vp_in_nI (by show c < 65536; omega) (by decide), ?_⟩
  conv => whnf
  refine ⟨vp_in_nI (n := 0) (N := 300) (by decide) (by decide), ?_⟩
  conv => whnf
  refine ⟨vp_in_nI (n := 0) (N := 2) (by decide) (by decide), ?_⟩
  conv => whnf
  refine ⟨vp_in_nI (n := 0) (N := 2) (by decide) (by decide), ?_⟩
  conv => whnf
  exact ⟨trivial, rfl, rfl⟩
set_option maxRecDepth 100000 in
theorem sr_set1 {c : Nat} (hc : c < 65536) (hm : M.1 108 64 = nI 1) (e : M.1 149 0 = nI c) (f1 : fitN (M.2 146 c) = 1) (f2 : fitN (M.2 147 c) = 1) (nz : ¬ (M.2 146 c = 0 ∧ M.2 147 c = 0)) : am_M (d + 3) false nm_X12_settleSum [aR 108, aI (nI 0)] M (fun r _ => r = .inl (some (aI (nI 1)))) := by
  refine ⟨rfl, rfl, rfl, fun X hX => am_run hX 8 _ _ _ _ ?_⟩
  have f171 : ∀ M' : mm_M, M'.1 108 = M.1 108 → M'.1 149 = M.1 149 → M'.1 141 0 = nI 0 → X 171 [some (aR 108), some (aI (nI 0)), some (aI (0 + 1)), some (aI (nI 0)), some (aI 0)] [] M' := by
    intro M' h1 h2 h3
    refine am_run hX 30 _ _ _ _ ?_
    conv => whnf
    refine ⟨vp_in_nI (n := 0) (N := 22501) (by decide) (by decide), ?_⟩
    conv => whnf
    rw [show M'.1 149 (Int32.toNatClampNeg 0) = nI c from by rw [h2]; exact e]
    refine am_cq (sr_pl hc h3) (fun r M2 z => ?_)
    obtain ⟨rfl, z⟩ := z
    refine ⟨_, rfl, ?_⟩
    conv => whnf
    rw [show M2.1 108 64 = nI 1 from by rw [z, h1]; exact hm]
    refine ⟨fun _ => ?_, fun c => absurd (by decide) c⟩
    conv => whnf
    exact ⟨trivial, rfl⟩
  have f45 : ∀ l4 : Option am_V, X 45 [some (aR 108), some (aI (nI 0)), some (aI 0), some (aI 0), l4] [aI 0] M := by
    intro l4
    refine am_run hX 10 _ _ _ _ ?_
    conv => whnf
    rw [hm]
    refine ⟨fun _ => ?_, fun c => absurd (by decide) c⟩
    refine am_run hX 2 _ _ _ _ ?_
    conv => whnf
    refine ⟨fun _ => ?_, fun c => absurd (by decide) c⟩
    refine am_run hX 4 _ _ _ _ ?_
    conv => whnf
    refine ⟨fun _ => ?_, fun c => absurd (by decide) c⟩
    refine am_run hX 3 _ _ _ _ ?_
    conv => whnf
    refine ⟨fun c => absurd c (by decide), fun _ => ?_⟩
    refine am_run hX 3 _ _ _ _ ?_
    conv => whnf
    refine ⟨fun c => absurd c (by decide), fun _ => ?_⟩
    refine am_run hX 3 _ _ _ _ ?_
    conv => whnf
    refine am_c1 (sr_ok hc hm e f1 f2) ?_
    conv => whnf
    refine ⟨fun _ => ?_, fun c => absurd (by decide) c⟩
    refine am_run hX 16 _ _ _ _ ?_
    conv => whnf
    refine ⟨vp_in_nI (n := 0) (N := 2) (by decide) (by decide), ?_⟩
    conv => whnf
    refine ⟨vp_in_nI (n := 0) (N := 2) (by decide) (by decide), ?_⟩
    conv => whnf
    generalize hM1 : mm_i (mm_i M 141 (upd (M.1 141) (Int32.toNatClampNeg 0) 0)) 142 (upd ((mm_i M 141 (upd (M.1 141) (Int32.toNatClampNeg 0) 0)).1 142) (Int32.toNatClampNeg 0) (nI 0)) = M1
    have k108 : M1.1 108 = M.1 108 := by rw [← hM1]; rfl
    have k149 : M1.1 149 = M.1 149 := by rw [← hM1]; rfl
    have k141 : M1.1 141 0 = nI 0 := by rw [← hM1]; rfl
    have k2 : M1.2 = M.2 := by rw [← hM1]; rfl
    rw [show M1.1 108 64 = nI 1 from by rw [k108]; exact hm]
    refine ⟨fun c => absurd c (by decide), fun _ => ?_⟩
    refine am_run hX 10 _ _ _ _ ?_
    conv => whnf
    refine ⟨vp_in_nI (n := 0) (N := 22501) (by decide) (by decide), ?_⟩
    conv => whnf
    rw [show M1.1 149 (Int32.toNatClampNeg 0) = nI c from by rw [k149]; exact e]
    refine ⟨vp_in_nI (by show c < 65536; omega) (by decide), ?_⟩
    conv => whnf
    rw [nI_clamp (n := c) (by omega), k2]
    refine ⟨fun _ => f171 M1 k108 k149 k141, fun y => ?_⟩
    refine am_run hX 10 _ _ _ _ ?_
    conv => whnf
    refine ⟨vp_in_nI (n := 0) (N := 22501) (by decide) (by decide), ?_⟩
    conv => whnf
    rw [show M1.1 149 (Int32.toNatClampNeg 0) = nI c from by rw [k149]; exact e]
    refine ⟨vp_in_nI (by show c < 65536; omega) (by decide), ?_⟩
    conv => whnf
    rw [nI_clamp (n := c) (by omega), k2]
    refine ⟨fun y2 => absurd ⟨(lg_z _).mp (Decidable.byContradiction y), (lg_z _).mp y2⟩ nz, fun _ => f171 M1 k108 k149 k141⟩
  conv => whnf
  rw [hm]
  refine ⟨fun c => absurd c (by decide), fun _ => ?_⟩
  refine am_run hX 11 _ _ _ _ ?_
  conv => whnf
  refine ⟨vp_in_nI (n := 0) (N := 22501) (by decide) (by decide), ?_⟩
  conv => whnf
  rw [show M.1 149 (Int32.toNatClampNeg 0) = nI c from e]
  refine ⟨vp_in_nI (by show c < 65536; omega) (by decide), ?_⟩
  conv => whnf
  rw [nI_clamp (n := c) (by omega)]
  refine ⟨fun _ => f45 _, fun y => ?_⟩
  refine am_run hX 10 _ _ _ _ ?_
  conv => whnf
  refine ⟨vp_in_nI (n := 0) (N := 22501) (by decide) (by decide), ?_⟩
  conv => whnf
  rw [show M.1 149 (Int32.toNatClampNeg 0) = nI c from e]
  refine ⟨vp_in_nI (by show c < 65536; omega) (by decide), ?_⟩
  conv => whnf
  rw [nI_clamp (n := c) (by omega)]
  refine ⟨fun y2 => absurd ⟨(lg_z _).mp (Decidable.byContradiction y), (lg_z _).mp y2⟩ nz, fun _ => f45 _⟩
set_option maxRecDepth 100000 in
theorem sr_s0 (h : tmz M) : am_M (d + 6) false nm_X12_sum [aR 108, aI 0] M (fun r _ => r = .inl (some (aI (nI 1)))) := by
  obtain ⟨h0, h1, g0, g1, hm, k1, k2, k3⟩ := h
  refine ⟨rfl, rfl, rfl, fun X hX => am_run hX 60 _ _ _ _ ?_⟩
  conv => whnf
  refine ⟨fun _ => ?_, fun e => absurd rfl e⟩
  conv => whnf
  refine am_c0 (sr_cl (M := th0 M) hm) ?_
  conv => whnf
  refine am_cq (sr_wk (M := mm_i (th0 M) 108 (upd ((th0 M).1 108) 64 0)) (c := 0) (p := 1) (q := 0) (by decide) rfl (k1 0) (k2 0) (k3 0)) (fun r M' z => ?_)
  obtain ⟨rfl, z1, z2, z3, z4, z5⟩ := z
  refine ⟨_, rfl, ?_⟩
  conv => whnf
  refine am_cq (sr_set1 (c := 0) (by decide) z1 z2 (by rw [z3, fit_e]; decide) (by rw [z4, fit_e]; decide) (fun y => by rw [z3] at y; exact absurd y.1 (by decide))) (fun r M2 y => ?_)
  subst y
  refine ⟨_, rfl, ?_⟩
  conv => whnf
  exact ⟨trivial, rfl⟩
set_option maxRecDepth 100000 in
theorem sr_tm0 {x z p q : Int32} (h : ¬ tmk x z p q) : am_M (d + 6) false nm_X12_term [aR 108, aI x, aI z, aI p, aI q] M (fun r _ => r = .inl (some (aI (-1)))) := by
  refine ⟨rfl, rfl, rfl, fun X hX => am_run hX 60 _ _ _ _ ?_⟩
  conv => whnf
  refine ⟨fun _ => ?_, fun c1 => ?_⟩
  · conv => whnf
    exact ⟨trivial, rfl⟩
  conv => whnf
  refine ⟨fun _ => ?_, fun c2 => ?_⟩
  · conv => whnf
    exact ⟨trivial, rfl⟩
  conv => whnf
  refine ⟨fun _ => ?_, fun c3 => ?_⟩
  · conv => whnf
    exact ⟨trivial, rfl⟩
  conv => whnf
  refine ⟨fun _ => ?_, fun c4 => ?_⟩
  · conv => whnf
    exact ⟨trivial, rfl⟩
  conv => whnf
  refine am_c1 ct_fitm ?_
  conv => whnf
  rcases fit_2 p.toInt64 with f | f
  · rw [f]
    refine ⟨fun c => absurd c (by decide), fun _ => ?_⟩
    try simp only [List.drop_succ_cons, List.drop_zero, List.append_eq, List.nil_append, List.append_nil]
    conv => whnf
    refine am_c1 ct_fitm ?_
    try simp only [List.drop_succ_cons, List.drop_zero, List.append_eq, List.nil_append, List.append_nil]
    conv => whnf
    rcases fit_2 q.toInt64 with g | g
    · exact absurd ⟨c1, c2, c3, c4, f, g⟩ h
    · rw [g]
      refine ⟨fun c => absurd rfl c, fun _ => ?_⟩
      conv => whnf
      exact ⟨trivial, rfl⟩
  · rw [f]
    refine ⟨fun _ => ?_, fun c => absurd rfl c⟩
    conv => whnf
    exact ⟨trivial, rfl⟩
theorem j_z {p : Int32} (h : p.toInt64 = 0) : p = 0 := by
  have b := congrArg Int64.toInt h
  rw [Int32.toInt_toInt64] at b
  exact Int32.toInt_inj.mp b
set_option maxRecDepth 100000 in
theorem sr_br (h0 : M.1 141 0 = nI 0) : am_M (d + 1) false nm_X12_bring [aR 108, aI 0, aI 1, aI (nI 0)] M (am_q0 M) := by
  refine ⟨rfl, rfl, rfl, fun X hX => am_run hX 40 _ _ _ _ ?_⟩
  conv => whnf
  refine ⟨vp_in_nI (n := 0) (N := 2) (by decide) (by decide), ?_⟩
  conv => whnf
  refine ⟨vp_in_nI (n := 0) (N := 2) (by decide) (by decide), ?_⟩
  conv => whnf
  rw [show M.1 141 (Int32.toNatClampNeg 0) = nI 0 from h0]
  refine ⟨fun _ => ?_, fun c => absurd (by decide) c⟩
  conv => whnf
  exact ⟨trivial, rfl, rfl⟩
set_option maxRecDepth 100000 in
theorem sr_tm1 {x z p q : Int32} (h : tmz M) (k : tmk x z p q) : am_M (d + 6) false nm_X12_term [aR 108, aI x, aI z, aI p, aI q] M (fun r _ => r = .inl (some (aI (if p = 0 ∧ q = 0 then nI 0 else nI 1)))) := by
  obtain ⟨h0, h1, g0, g1, hm, m1, m2, m3⟩ := h
  obtain ⟨k1, k2, k3, k4, k5, k6⟩ := k
  obtain ⟨xn, hx, rfl⟩ := nI_of k1
  obtain ⟨zn, hz, rfl⟩ := nI_of k3
  have x8 : xn ≤ 255 := Nat.le_of_not_lt fun c => k2 (nI_lt (a := 255) c hx)
  have z8 : zn ≤ 255 := Nat.le_of_not_lt fun c => k4 (nI_lt (a := 255) c hz)
  refine ⟨rfl, rfl, rfl, fun X hX => am_run hX 5 _ _ _ _ ?_⟩
  have go : ∀ (pq : ¬ (p = 0 ∧ q = 0)), X 62 [some (aR 108), some (aI (nI xn)), some (aI (nI zn)), some (aI p), some (aI q)] [] (th0 M) := by
    intro pq
    refine am_run hX 80 _ _ _ _ ?_
    conv => whnf
    refine ⟨vp_in_nI (n := 0) (N := 2) (by decide) (by decide), ?_⟩
    conv => whnf
    rw [show (th0 M).1 142 (Int32.toNatClampNeg 0) = nI 0 from g0]
    refine ⟨fun _ => ?_, fun c => absurd (by decide) c⟩
    conv => whnf
    refine am_c0 (sr_cl (M := th0 M) hm) ?_
    conv => whnf
    refine ⟨vp_in_nI (n := 0) (N := 2) (by decide) (by decide), ?_⟩
    conv => whnf
    rw [show (mm_i (th0 M) 108 (upd ((th0 M).1 108) 64 0)).1 142 (Int32.toNatClampNeg 0) = nI 0 from g0]
    refine am_c0 (sr_br h0) ?_
    conv => whnf
    refine ⟨vp_in_nI (n := 0) (N := 2) (by decide) (by decide), ?_⟩
    conv => whnf
    refine ⟨vp_in_nI (n := 0) (N := 2) (by decide) (by decide), ?_⟩
    conv => whnf
    rw [show (256 : Int32) * nI xn + nI zn = nI (256 * xn + zn) from by rw [show (256 : Int32) = nI 256 from rfl, nI_mul, nI_add], show (mm_i (th0 M) 108 (upd ((th0 M).1 108) 64 0)).1 142 (Int32.toNatClampNeg 0) = nI 0 from g0, j_sh0, j_sh0]
    refine am_cq (sr_wk (M := mm_i (th0 M) 108 (upd ((th0 M).1 108) 64 0)) (c := 256 * xn + zn) (p := p.toInt64) (q := q.toInt64) (by omega) rfl (m1 _) (m2 _) (m3 _)) (fun r M' y => ?_)
    obtain ⟨rfl, y1, y2, y3, y4, y5⟩ := y
    refine ⟨_, rfl, ?_⟩
    try simp only [List.drop_succ_cons, List.drop_zero, List.append_eq, List.nil_append, List.append_nil]
    conv => whnf
    refine ⟨vp_in_nI (n := 0) (N := 2) (by decide) (by decide), ?_⟩
    conv => whnf
    rw [show M'.1 142 (Int32.toNatClampNeg 0) = nI 0 from by rw [y5]; exact g0]
    refine am_cq (sr_set1 (c := 256 * xn + zn) (by omega) y1 y2 (by rw [y3]; exact k5) (by rw [y4]; exact k6) (fun w => by rw [y3, y4] at w; exact pq ⟨j_z w.1, j_z w.2⟩)) (fun r M2 w => ?_)
    subst w
    refine ⟨_, rfl, ?_⟩
    conv => whnf
    rw [if_neg pq]
    exact ⟨trivial, rfl⟩
  conv => whnf
  refine ⟨fun c => absurd c k1, fun _ => ?_⟩
  refine am_run hX 18 _ _ _ _ ?_
  conv => whnf
  refine ⟨fun c => absurd c k2, fun _ => ?_⟩
  conv => whnf
  refine ⟨fun c => absurd c k3, fun _ => ?_⟩
  conv => whnf
  refine ⟨fun c => absurd c k4, fun _ => ?_⟩
  conv => whnf
  refine am_c1 ct_fitm ?_
  conv => whnf
  rw [k5]
  refine ⟨fun c => absurd c (by decide), fun _ => ?_⟩
  try simp only [List.drop_succ_cons, List.drop_zero, List.append_eq, List.nil_append, List.append_nil]
  conv => whnf
  refine am_c1 ct_fitm ?_
  try simp only [List.drop_succ_cons, List.drop_zero, List.append_eq, List.nil_append, List.append_nil]
  conv => whnf
  rw [k6]
  refine ⟨fun _ => ?_, fun c => absurd (by decide) c⟩
  try simp only [List.drop_succ_cons, List.drop_zero, List.append_eq, List.nil_append, List.append_nil]
  conv => whnf
  refine ⟨fun c => ?_, fun c => ?_⟩
  · exact go (fun w => c w.1)
  · refine am_run hX 2 _ _ _ _ ?_
    conv => whnf
    refine ⟨fun c2 => go (fun w => c2 w.2), fun c2 => ?_⟩
    have pz : p = 0 ∧ q = 0 := ⟨Decidable.byContradiction c, Decidable.byContradiction c2⟩
    refine am_run hX 10 _ _ _ _ ?_
    conv => whnf
    refine ⟨vp_in_nI (n := 0) (N := 2) (by decide) (by decide), ?_⟩
    conv => whnf
    rw [show (mm_i M 108 (upd (M.1 108) 0 0)).1 141 (Int32.toNatClampNeg 0) = nI 0 from h0, if_pos pz]
    exact ⟨trivial, rfl⟩
end SMK
section SMP
variable {ac : Nat → ClassId} {lo : Nat} {ad as : Nat → Nat} {b L : Nat} {xs : Nat → Int32} {hp : mm_M → Nat → xm_H} {I J : mm_M → Prop}
theorem tmz_x {M M' : mm_M} (h : tmz M) (k : fxM M M') : tmz M' := by
  unfold tmz
  rw [k.1 141 (by decide), k.1 142 (by decide), k.1 108 (by decide), k.1 148 (by decide), k.2 146 (by decide), k.2 147 (by decide)]
  exact h
theorem pz_sum (H : mm_L ac lo hp) (h1 : ∀ M, I M → smz M ∧ tmz M) (hJ : ∀ M, J M) (p : Int32) : la_I ac lo ad as b L xs hp I J nm_X11_sum nm_X12_sum [.int p] := by
  refine am_la_I (us := [aI p]) H fun M hI => ?_
  obtain ⟨hs, ht⟩ := h1 M hI
  by_cases c : ¬ p = 0 ∧ ¬ p = 1 ∧ ¬ p = 2 ∧ ¬ p = 3 ∧ ¬ p = 4 ∧ ¬ p = 5 ∧ ¬ p = 6 ∧ ¬ p = 7
  · exact am_wk (sf_sn (d := 994) c) fun r M1 e => ⟨-1, e.1, am_wk (sr_sn (d := 994) c) fun r M2 e2 => ⟨e2, hJ M2⟩⟩
  · by_cases p0 : p = 0
    · subst p0
      exact am_wk (sf_s0 (d := 994) hs) fun r M1 e => ⟨_, e.1, am_wk (sr_s0 (d := 994) (tmz_x ht e.2)) fun r M2 e2 => ⟨e2, hJ M2⟩⟩
    · by_cases p1 : p = 1
      · subst p1
        exact am_wk (sf_s1 (d := 994) hs) fun r M1 e => ⟨_, e.1, am_wk (sr_s1 (d := 994) (tmz_x ht e.2)) fun r M2 e2 => ⟨e2, hJ M2⟩⟩
      · by_cases p2 : p = 2
        · subst p2
          exact am_wk (sf_s2 (d := 994) hs) fun r M1 e => ⟨_, e.1, am_wk (sr_s2 (d := 994) (tmz_x ht e.2)) fun r M2 e2 => ⟨e2, hJ M2⟩⟩
        · by_cases p3 : p = 3
          · subst p3
            exact am_wk (sf_s3 (d := 994) hs) fun r M1 e => ⟨_, e.1, am_wk (sr_s3 (d := 994) (tmz_x ht e.2)) fun r M2 e2 => ⟨e2, hJ M2⟩⟩
          · by_cases p4 : p = 4
            · subst p4
              exact am_wk (sf_s4 (d := 994) hs) fun r M1 e => ⟨_, e.1, am_wk (sr_s4 (d := 994) (tmz_x ht e.2)) fun r M2 e2 => ⟨e2, hJ M2⟩⟩
            · by_cases p5 : p = 5
              · subst p5
                exact am_wk (sf_s5 (d := 994) hs) fun r M1 e => ⟨_, e.1, am_wk (sr_s5 (d := 994) (tmz_x ht e.2)) fun r M2 e2 => ⟨e2, hJ M2⟩⟩
              · by_cases p6 : p = 6
                · subst p6
                  exact am_wk (sf_s6 (d := 994) hs) fun r M1 e => ⟨_, e.1, am_wk (sr_s6 (d := 994) (tmz_x ht e.2)) fun r M2 e2 => ⟨e2, hJ M2⟩⟩
                · by_cases p7 : p = 7
                  · subst p7
                    exact am_wk (sf_s7 (d := 994) hs) fun r M1 e => ⟨_, e.1, am_wk (sr_s7 (d := 994) (tmz_x ht e.2)) fun r M2 e2 => ⟨e2, hJ M2⟩⟩
                  · exact absurd ⟨p0, p1, p2, p3, p4, p5, p6, p7⟩ c
theorem pz_term (H : mm_L ac lo hp) (h1 : ∀ M, I M → smz M ∧ tmz M) (hJ : ∀ M, J M) (x z p q : Int32) : la_I ac lo ad as b L xs hp I J nm_X11_term nm_X12_term [.int x, .int z, .int p, .int q] := by
  refine am_la_I (us := [aI x, aI z, aI p, aI q]) H fun M hI => ?_
  obtain ⟨hs, ht⟩ := h1 M hI
  by_cases c : tmk x z p q
  · exact am_wk (sf_tm1 (d := 994) hs c) fun r M1 e => ⟨_, e.1, am_wk (sr_tm1 (d := 994) (tmz_x ht e.2) c) fun r M2 e2 => ⟨e2, hJ M2⟩⟩
  · exact am_wk (sf_tm0 (d := 994) c) fun r M1 e => ⟨_, e.1, am_wk (sr_tm0 (d := 994) c) fun r M2 e2 => ⟨e2, hJ M2⟩⟩
theorem pz_ladder (H : mm_L ac lo hp) (h1 : ∀ M, I M → smz M ∧ tmz M) (hJ : ∀ M, J M) (p u : Int32) : la_I ac lo ad as b L xs hp I J nm_X11_ladder nm_X12_ladder [.int p, .int u] := by
  refine am_la_I (us := [aI p, aI u]) H fun M hI => ?_
  obtain ⟨hs, ht⟩ := h1 M hI
  by_cases c : p < 0
  · exact am_wk (sf_ld0 (d := 994) (.inl c)) fun r M1 e => ⟨_, e.1, am_wk (sr_ld0 (d := 994) (.inl c)) fun r M2 e2 => ⟨e2, hJ M2⟩⟩
  · obtain ⟨n, hn, rfl⟩ := nI_of c
    by_cases c8 : n < 8
    · exact am_wk (sf_ld1 (d := 994) hs c (nI_ge (b := 8) c8 (by decide))) fun r M1 e => ⟨_, e.1, am_wk (sr_ld1 (d := 994) (tmz_x ht e.2) c (nI_le (b := 7) (by omega) (by decide))) fun r M2 e2 => ⟨e2, hJ M2⟩⟩
    · exact am_wk (sf_ld0 (d := 994) (.inr (nI_le (a := 8) (by omega) hn))) fun r M1 e => ⟨_, e.1, am_wk (sr_ld0 (d := 994) (.inr (nI_ge (a := 7) (by omega) hn))) fun r M2 e2 => ⟨e2, hJ M2⟩⟩
end SMP
