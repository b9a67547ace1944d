/-! SUMS without TERMS: the first program's term -/
theorem j_sh (x : Int64) : x <<< ((nI 0 - nI 0).toInt64 &&& 63) = x := by
  rw [show (nI 0 - nI 0).toInt64 &&& 63 = 0 from by decide]
  exact Int64.shiftLeft_zero
theorem j_sh0 (x : Int64) : x <<< ((nI 0).toInt64 &&& 63) = x := by
  rw [show (nI 0).toInt64 &&& 63 = 0 from by decide]
  exact Int64.shiftLeft_zero
theorem j_nz {p q : Int32} (h : ¬ (p = 0 ∧ q = 0)) : ¬ lg_cmp (p.toInt64 ||| q.toInt64) 0 = 0 := by
  rw [lg_0]
  intro e
  have e2 := congrArg Int64.toBitVec e
  rw [Int64.toBitVec_or] at e2
  have e3 : p.toInt64.toBitVec ||| q.toInt64.toBitVec = 0#64 := e2
  rw [BitVec.or_eq_zero_iff] at e3
  have k : ∀ v : Int32, v.toInt64.toBitVec = 0#64 → v = 0 := fun v hv => by
    have a : v.toInt64 = 0 := Int64.toBitVec_inj.mp hv
    have b := congrArg Int64.toInt a
    rw [Int32.toInt_toInt64] at b
    exact Int32.toInt_inj.mp b
  exact h ⟨k p e3.1, k q e3.2⟩
section SMI
variable {d : Nat} {M : mm_M}
set_option maxRecDepth 100000 in
theorem sf_far2t (h : M.1 96 2 = nI 1) (h2 : M.1 97 2 = nI 0) : am_M (d + 1) false nm_X9_isTooFar [aR 83, aI 2, aI (nI 0)] M (am_q1 (aI (nI 0)) M) := by
  refine ⟨rfl, rfl, rfl, fun X hX => am_run hX 30 _ _ _ _ ?_⟩
  conv => whnf
  refine ⟨vp_in_nI (n := 2) (N := 3) (by decide) (by decide), ?_⟩
  conv => whnf
  rw [show M.1 96 (Int32.toNatClampNeg 2) = nI 1 from h]
  refine ⟨fun c => absurd c (by decide), fun _ => ?_⟩
  conv => whnf
  refine ⟨vp_in_nI (n := 2) (N := 3) (by decide) (by decide), ?_⟩
  conv => whnf
  rw [show M.1 97 (Int32.toNatClampNeg 2) = nI 0 from h2]
  refine ⟨fun _ => ?_, fun c => absurd (by decide) c⟩
  conv => whnf
  exact ⟨rfl, rfl, rfl⟩
set_option maxRecDepth 100000 in
theorem sf_find {k : Int32} {p q : Int64} (h : M.1 83 11 = nI 0) (hn : ¬ lg_cmp (p ||| q) 0 = 0) : am_M (d + 1) false nm_X9_find [aR 83, aI k, aJ p, aJ q] M (fun r M' => r = .inl none ∧ fxM M M' ∧ M'.1 83 11 = nI 1 ∧ M'.2 99 0 = p ∧ M'.2 100 0 = q ∧ ∀ c, 84 ≤ c → c ≤ 97 → M'.1 c = M.1 c) := by
  refine ⟨rfl, rfl, rfl, fun X hX => am_run hX 60 _ _ _ _ ?_⟩
  conv => whnf
  refine ⟨fun _ => ?_, fun c => absurd (Decidable.byContradiction c) hn⟩
  conv => whnf
  rw [h]
  refine ⟨fun c => absurd c (by decide), fun _ => ?_⟩
  conv => whnf
  rw [h]
  refine ⟨vp_in_nI (n := 0) (N := 150) (by decide) (by decide), ?_⟩
  conv => whnf
  rw [show (mm_i M 98 (upd (M.1 98) (nI 0).toNatClampNeg k)).1 83 11 = nI 0 from h]
  refine ⟨vp_in_nI (n := 0) (N := 150) (by decide) (by decide), ?_⟩
  conv => whnf
  rw [show (mm_l (mm_i M 98 (upd (M.1 98) (nI 0).toNatClampNeg k)) 99 (vp_updL ((mm_i M 98 (upd (M.1 98) (nI 0).toNatClampNeg k)).2 99) (nI 0).toNatClampNeg p)).1 83 11 = nI 0 from h]
  refine ⟨vp_in_nI (n := 0) (N := 150) (by decide) (by decide), ?_⟩
  conv => whnf
  refine ⟨trivial, rfl, ?_, ?_, rfl, rfl, fun c h1 h2 => ?_⟩
  · repeat first | exact fx_r M | refine fx_i ?_ (by decide) | refine fx_l ?_ (by decide)
  · exact (congrArg (fun v => v + 1) h : M.1 83 11 + 1 = nI 0 + 1)
  · rw [mm_ne _ _ _ _ (by omega)]
    exact mm_ne M 98 c _ (by omega)
set_option maxRecDepth 100000 in
/-- one TERM is added to none -/
theorem sf_addT {k : Nat} {p q : Int32} (hk : k < 65536) (h0 : M.1 96 0 = nI 0) (hs : M.1 96 2 = nI 1) (g0 : M.1 97 0 = nI 0) (g2 : M.1 97 2 = nI 0) (e1 : M.1 87 0 = nI k) (e2 : M.1 91 0 = p) (e3 : M.1 95 0 = q) (a0 : M.1 84 0 = nI 0) (b0 : M.1 88 0 = nI 0) (c0 : M.1 92 0 = nI 0) (a2 : M.1 84 2 = nI 2) (b2 : M.1 88 2 = nI 2) (c2 : M.1 92 2 = nI 2) (pq : ¬ (p = 0 ∧ q = 0)) (f1 : fitN p.toInt64 = 1) (f2 : fitN q.toInt64 = 1) : am_M (d + 4) false nm_X9_add [aR 83, aI 2, aI 1] M (fun r M' => r = .inl (some (aI (nI 1))) ∧ fxM M M' ∧ M'.1 96 0 = nI 1) := by
  refine ⟨rfl, rfl, rfl, fun X hX => am_run hX 60 _ _ _ _ ?_⟩
  conv => whnf
  refine ⟨vp_in_nI (n := 0) (N := 3) (by decide) (by decide), ?_⟩
  conv => whnf
  refine ⟨vp_in_nI (n := 2) (N := 3) (by decide) (by decide), ?_⟩
  conv => whnf
  rw [show M.1 97 (Int32.toNatClampNeg 0) = nI 0 from g0, show M.1 97 (Int32.toNatClampNeg 2) = nI 0 from g2, show (if nI 0 < nI 0 then nI 0 else nI 0) = nI 0 from by decide]
  refine am_c1 (sf_far0 h0) ?_
  conv => whnf
  refine ⟨fun c => absurd rfl c, fun _ => ?_⟩
  conv => whnf
  refine am_c1 (sf_far2t hs g2) ?_
  conv => whnf
  refine ⟨fun _ => ?_, fun c => absurd rfl c⟩
  conv => whnf
  refine am_inl ⟨rfl, rfl, rfl, fun X' hX' => am_run hX' 300 _ _ _ _ ?_⟩
  conv => whnf
  refine ⟨vp_in_nI (n := 0) (N := 3) (by decide) (by decide), ?_⟩
  conv => whnf
  have r0 : ∀ i, (mm_i M 83 (upd (M.1 83) 11 0)).1 96 i = M.1 96 i := fun _ => rfl
  rw [show (mm_i M 83 (upd (M.1 83) 11 0)).1 96 (Int32.toNatClampNeg 0) = nI 0 from h0]
  refine ⟨fun c => absurd c (by decide), fun _ => ?_⟩
  conv => whnf
  refine ⟨vp_in_nI (n := 2) (N := 3) (by decide) (by decide), ?_⟩
  conv => whnf
  rw [show (mm_i M 83 (upd (M.1 83) 11 0)).1 96 (Int32.toNatClampNeg 2) = nI 1 from hs]
  refine ⟨fun c => absurd c (by decide), fun _ => ?_⟩
  conv => whnf
  refine ⟨vp_in_nI (n := 0) (N := 3) (by decide) (by decide), ?_⟩
  conv => whnf
  rw [show (mm_i M 83 (upd (M.1 83) 11 0)).1 96 (Int32.toNatClampNeg 0) = nI 0 from h0]
  refine ⟨fun _ => ?_, fun c => absurd (by decide) c⟩
  conv => whnf
  refine ⟨vp_in_nI (n := 2) (N := 3) (by decide) (by decide), ?_⟩
  conv => whnf
  rw [show (mm_i M 83 (upd (M.1 83) 11 0)).1 96 (Int32.toNatClampNeg 2) = nI 1 from hs]
  refine ⟨fun c => absurd c (by decide), fun _ => ?_⟩
  conv => whnf
  rw [show (mm_i M 83 (upd (M.1 83) 11 0)).1 84 (Int32.toNatClampNeg 2) = nI 2 from a2]
  refine ⟨⟨vp_in_nI (n := 2) (N := 3) (by decide) (by decide), by decide⟩, ?_⟩
  conv => whnf
  refine ⟨vp_in_nI (n := 0) (N := 150) (by decide) (by decide), ?_⟩
  conv => whnf
  rw [show (mm_i M 83 (upd (M.1 83) 11 0)).1 (84 + 1 + (nI 2).toNatClampNeg) (Int32.toNatClampNeg 0) = nI k from e1]
  refine ⟨fun _ => ?_, fun c => absurd (show nI k < nI 65536 from nI_lt hk (by decide)) c⟩
  conv => whnf
  refine ⟨fun c => absurd c (show ¬ nI 65536 < nI k from nI_nlt (by omega) (by decide)), fun _ => ?_⟩
  conv => whnf
  rw [show (mm_i M 83 (upd (M.1 83) 11 0)).1 88 (Int32.toNatClampNeg 2) = nI 2 from b2]
  refine ⟨⟨vp_in_nI (n := 2) (N := 3) (by decide) (by decide), by decide⟩, ?_⟩
  conv => whnf
  refine ⟨vp_in_nI (n := 0) (N := 150) (by decide) (by decide), ?_⟩
  conv => whnf
  refine ⟨vp_in_nI (n := 2) (N := 3) (by decide) (by decide), ?_⟩
  conv => whnf
  rw [show (mm_i M 83 (upd (M.1 83) 11 0)).1 92 (Int32.toNatClampNeg 2) = nI 2 from c2]
  refine ⟨⟨vp_in_nI (n := 2) (N := 3) (by decide) (by decide), by decide⟩, ?_⟩
  conv => whnf
  refine ⟨vp_in_nI (n := 0) (N := 150) (by decide) (by decide), ?_⟩
  conv => whnf
  refine ⟨vp_in_nI (n := 2) (N := 3) (by decide) (by decide), ?_⟩
  conv => whnf
  rw [show (mm_i M 83 (upd (M.1 83) 11 0)).1 97 (Int32.toNatClampNeg 2) = nI 0 from g2, show (mm_i M 83 (upd (M.1 83) 11 0)).1 (88 + 1 + (nI 2).toNatClampNeg) (Int32.toNatClampNeg 0) = p from e2, show (mm_i M 83 (upd (M.1 83) 11 0)).1 (92 + 1 + (nI 2).toNatClampNeg) (Int32.toNatClampNeg 0) = q from e3, j_sh, j_sh, show (0 : Int64) + Int32.toInt64 1 * p.toInt64 = p.toInt64 from by rw [show Int32.toInt64 1 = 1 from by decide, Int64.one_mul, Int64.zero_add], show (0 : Int64) + Int32.toInt64 1 * q.toInt64 = q.toInt64 from by rw [show Int32.toInt64 1 = 1 from by decide, Int64.one_mul, Int64.zero_add]]
  refine am_cq (sf_find (M := mm_i M 83 (upd (M.1 83) 11 0)) rfl (j_nz pq)) (fun r M' z => ?_)
  obtain ⟨rfl, z1, z2, z3, z4, z5⟩ := z
  refine ⟨_, rfl, ?_⟩
  conv => whnf
  refine ⟨vp_in_nI (n := 0) (N := 3) (by decide) (by decide), ?_⟩
  conv => whnf
  rw [show M'.1 96 (Int32.toNatClampNeg 0) = nI 0 from by rw [z5 96 (by decide) (by decide)]; exact h0]
  refine ⟨fun c => absurd c (by decide), fun _ => ?_⟩
  conv => whnf
  refine ⟨vp_in_nI (n := 2) (N := 3) (by decide) (by decide), ?_⟩
  conv => whnf
  rw [show M'.1 96 (Int32.toNatClampNeg 2) = nI 1 from by rw [z5 96 (by decide) (by decide)]; exact hs]
  refine ⟨fun _ => ?_, fun c => absurd (by decide) c⟩
  conv => whnf
  refine ⟨trivial, _, rfl, ?_⟩
  conv => whnf
  refine am_cq (sf_set1 z2 (by rw [z3]; exact f1) (by rw [z4]; exact f2) (by rw [z5 84 (by decide) (by decide)]; exact a0) (by rw [z5 88 (by decide) (by decide)]; exact b0) (by rw [z5 92 (by decide) (by decide)]; exact c0)) (fun r M2 y => ?_)
  obtain ⟨rfl, y1, y2⟩ := y
  refine ⟨_, rfl, ?_⟩
  conv => whnf
  exact ⟨rfl, rfl, fx_t (fx_t (fx_i (fx_r M) (by decide)) z1) y1, y2⟩
/-- what term refuses -/
def tmk (x z p q : Int32) : Prop := ¬ x < 0 ∧ ¬ 255 < x ∧ ¬ z < 0 ∧ ¬ 255 < z ∧ fitN p.toInt64 = 1 ∧ fitN q.toInt64 = 1
theorem fit_2 (v : Int64) : fitN v = 1 ∨ fitN v = 0 := by
  rw [fit_e]
  split
  · exact .inr rfl
  · split
    · exact .inr rfl
    · exact .inl rfl
set_option maxRecDepth 100000 in
theorem sf_tm0 {x z p q : Int32} (h : ¬ tmk x z p q) : am_M (d + 6) false nm_X11_term [aR 0, aI x, aI z, aI p, aI q] M (fun r M' => r = .inl (some (aI (-1))) ∧ fxM M M') := by
  refine ⟨rfl, rfl, rfl, fun X hX => am_run hX 60 _ _ _ _ ?_⟩
  conv => whnf
  refine ⟨fun _ => ?_, fun c1 => ?_⟩
  · conv => whnf
    exact ⟨trivial, rfl, fx_r M⟩
  conv => whnf
  refine ⟨fun _ => ?_, fun c2 => ?_⟩
  · conv => whnf
    exact ⟨trivial, rfl, fx_r M⟩
  conv => whnf
  refine ⟨fun _ => ?_, fun c3 => ?_⟩
  · conv => whnf
    exact ⟨trivial, rfl, fx_r M⟩
  conv => whnf
  refine ⟨fun _ => ?_, fun c4 => ?_⟩
  · conv => whnf
    exact ⟨trivial, rfl, fx_r M⟩
  conv => whnf
  refine am_c1 ct_fit ?_
  conv => whnf
  rcases fit_2 p.toInt64 with f | f
  · rw [f]
    refine ⟨fun c => absurd c (by decide), fun _ => ?_⟩
    simp only [List.drop_succ_cons, List.drop_zero, List.append_eq, List.nil_append, List.append_nil]
    conv => whnf
    refine am_c1 ct_fit ?_
    simp only [List.drop_succ_cons, List.drop_zero, List.append_eq, List.nil_append, List.append_nil]
    conv => whnf
    rcases fit_2 q.toInt64 with g | g
    · exact absurd ⟨c1, c2, c3, c4, f, g⟩ h
    · rw [g]
      refine ⟨fun c => absurd rfl c, fun _ => ?_⟩
      conv => whnf
      exact ⟨trivial, rfl, fx_r M⟩
  · rw [f]
    refine ⟨fun _ => ?_, fun c => absurd rfl c⟩
    conv => whnf
    exact ⟨trivial, rfl, fx_r M⟩
set_option maxRecDepth 100000 in
theorem sf_tm1 {x z p q : Int32} (h : smz M) (k : tmk x z p q) : am_M (d + 6) false nm_X11_term [aR 0, aI x, aI z, aI p, aI q] M (fun r M' => r = .inl (some (aI (if p = 0 ∧ q = 0 then nI 0 else nI 1))) ∧ fxM M M') := by
  obtain ⟨h0, h1, h2, h3, ⟨a0, a1, a2⟩, ⟨b0, b1, b2⟩, ⟨c0, c1, c2⟩⟩ := h
  obtain ⟨k1, k2, k3, k4, k5, k6⟩ := k
  obtain ⟨xn, hx, rfl⟩ := nI_of k1
  obtain ⟨zn, hz, rfl⟩ := nI_of k3
  have x8 : xn ≤ 255 := Nat.le_of_not_lt fun c => k2 (nI_lt (a := 255) c hx)
  have z8 : zn ≤ 255 := Nat.le_of_not_lt fun c => k4 (nI_lt (a := 255) c hz)
  have go : ∀ {P : am_Q} {X : am_X} (hX : am_K (d + 4) false nm_X9_addTerm P X) (pq : ¬ (p = 0 ∧ q = 0)) (hP : ∀ M', fxM M M' → M'.1 96 0 = nI 1 → P (.inl (some (aI (nI 1)))) M'), X 23 [some (aR 83), some (aI (nI xn)), some (aI (nI zn)), some (aI p), some (aI q)] [] (mm_i (mm_i M 96 (upd (M.1 96) (Int32.toNatClampNeg 2) 0)) 97 (upd (M.1 97) (Int32.toNatClampNeg 2) 0)) := by
    intro P X hX pq hP
    refine am_run hX 40 _ _ _ _ ?_
    conv => whnf
    rw [show (256 : Int32) * nI xn + nI zn = nI (256 * xn + zn) from by rw [show (256 : Int32) = nI 256 from rfl, nI_mul, nI_add]]
    refine am_c0 (sf_st2 (s := 0) (M := mm_i (mm_i M 96 (upd (M.1 96) (Int32.toNatClampNeg 2) 0)) 97 (upd (M.1 97) (Int32.toNatClampNeg 2) 0)) rfl (by decide) a2 b2 c2) ?_
    conv => whnf
    refine am_cq (sf_addT (k := 256 * xn + zn) (p := p) (q := q) (by omega) h0 rfl h2 rfl rfl rfl rfl a0 b0 c0 a2 b2 c2 pq k5 k6) (fun r M' y => ?_)
    obtain ⟨rfl, y1, y2⟩ := y
    refine ⟨_, rfl, ?_⟩
    conv => whnf
    exact ⟨rfl, hP M' (fx_t (fx_t (fx_i (fx_i (fx_r M) (by decide)) (by decide)) stx_2) y1) y2⟩
  refine ⟨rfl, rfl, rfl, fun X hX => am_run hX 60 _ _ _ _ ?_⟩
  conv => whnf
  refine ⟨fun c => absurd c k1, fun _ => ?_⟩
  conv => whnf
  refine ⟨fun c => absurd c k2, fun _ => ?_⟩
  conv => whnf
  refine ⟨fun c => absurd c k3, fun _ => ?_⟩
  conv => whnf
  refine ⟨fun c => absurd c k4, fun _ => ?_⟩
  conv => whnf
  refine am_c1 ct_fit ?_
  conv => whnf
  rw [k5]
  refine ⟨fun c => absurd c (by decide), fun _ => ?_⟩
  simp only [List.drop_succ_cons, List.drop_zero, List.append_eq, List.nil_append, List.append_nil]
  conv => whnf
  refine am_c1 ct_fit ?_
  simp only [List.drop_succ_cons, List.drop_zero, List.append_eq, List.nil_append, List.append_nil]
  conv => whnf
  rw [k6]
  refine ⟨fun _ => ?_, fun c => absurd (by decide) c⟩
  simp only [List.drop_succ_cons, List.drop_zero, List.append_eq, List.nil_append, List.append_nil]
  conv => whnf
  refine am_inl ⟨rfl, rfl, rfl, fun X' hX' => am_run hX' 12 _ _ _ _ ?_⟩
  conv => whnf
  refine ⟨vp_in_nI (n := 2) (N := 3) (by decide) (by decide), ?_⟩
  conv => whnf
  refine ⟨vp_in_nI (n := 2) (N := 3) (by decide) (by decide), ?_⟩
  conv => whnf
  refine ⟨fun c => ?_, fun c => ?_⟩
  · conv => whnf
    have pq : ¬ (p = 0 ∧ q = 0) := fun z => c z.1
    refine go hX' pq (fun M' y1 y2 => ⟨_, rfl, ?_⟩)
    rw [if_neg pq]
    conv => whnf
    refine ⟨fun c => absurd c (by decide), fun _ => ?_⟩
    conv => whnf
    refine ⟨vp_in_nI (n := 0) (N := 3) (by decide) (by decide), ?_⟩
    conv => whnf
    rw [show M'.1 96 (Int32.toNatClampNeg 0) = nI 1 from y2]
    exact ⟨trivial, rfl, y1⟩
  · refine am_run hX' 2 _ _ _ _ ?_
    conv => whnf
    refine ⟨fun c2 => ?_, fun c2 => ?_⟩
    · have pz : p = 0 ∧ q = 0 := ⟨Decidable.byContradiction c, c2⟩
      refine am_run hX' 10 _ _ _ _ ?_
      conv => whnf
      refine am_cq (sf_add2 (M := mm_i (mm_i M 96 (upd (M.1 96) (Int32.toNatClampNeg 2) 0)) 97 (upd (M.1 97) (Int32.toNatClampNeg 2) 0)) h0 rfl) (fun r M' y => ?_)
      obtain ⟨rfl, y1, y2⟩ := y
      refine ⟨_, rfl, ?_⟩
      conv => whnf
      refine ⟨rfl, _, rfl, ?_⟩
      conv => whnf
      refine ⟨fun c => absurd c (by decide), fun _ => ?_⟩
      conv => whnf
      refine ⟨vp_in_nI (n := 0) (N := 3) (by decide) (by decide), ?_⟩
      conv => whnf
      rw [show M'.1 96 (Int32.toNatClampNeg 0) = nI 0 from y2]
      exact ⟨trivial, by rw [if_pos pz], fx_t (fx_i (fx_i (fx_r M) (by decide)) (by decide)) y1⟩
    · have pq : ¬ (p = 0 ∧ q = 0) := fun z => c2 z.2
      refine go hX' pq (fun M' y1 y2 => ⟨_, rfl, ?_⟩)
      rw [if_neg pq]
      conv => whnf
      refine ⟨fun c => absurd c (by decide), fun _ => ?_⟩
      conv => whnf
      refine ⟨vp_in_nI (n := 0) (N := 3) (by decide) (by decide), ?_⟩
      conv => whnf
      rw [show M'.1 96 (Int32.toNatClampNeg 0) = nI 1 from y2]
      exact ⟨trivial, rfl, y1⟩
end SMI
