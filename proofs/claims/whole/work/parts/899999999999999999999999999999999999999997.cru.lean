/-! circuit: the reference reads chars, notes, makes nodes -/
/-- but some fields of the reference, some cells, all stays -/
def rjF (S K : List Nat) (M N : mm_M) : Prop := (∀ k, k ≠ 108 → K.contains k = false → N.1 k = M.1 k) ∧ (∀ y, S.contains y = false → N.1 108 y = M.1 108 y) ∧ N.2 = M.2
theorem rjF_r (S K : List Nat) (M : mm_M) : rjF S K M M := ⟨fun _ _ _ => rfl, fun _ _ => rfl, rfl⟩
theorem rjF_t {S K : List Nat} {M N L : mm_M} (h : rjF S K M N) (g : rjF S K N L) : rjF S K M L := ⟨fun k a b => (g.1 k a b).trans (h.1 k a b), fun y a => (g.2.1 y a).trans (h.2.1 y a), g.2.2.trans h.2.2⟩
theorem ctn_w {S R : List Nat} (hs : ∀ y ∈ S, R.contains y = true) {y : Nat} (hy : R.contains y = false) : S.contains y = false := by
  cases q : S.contains y with
  | false => rfl
  | true =>
    have := hs y (List.contains_iff_mem.mp q)
    rw [hy] at this
    exact absurd this (by decide)
theorem rjF_w {S R K J : List Nat} {M N : mm_M} (hs : ∀ y ∈ S, R.contains y = true) (hk : ∀ y ∈ K, J.contains y = true) (h : rjF S K M N) : rjF R J M N := ⟨fun k a b => h.1 k a (ctn_w hk b), fun y a => h.2.1 y (ctn_w hs a), h.2.2⟩
theorem rjF_u {S K : List Nat} (M : mm_M) {y : Nat} (v : Int32) (hy : S.contains y = true) : rjF S K M (mm_i M 108 (upd (M.1 108) y v)) := ⟨fun k a _ => mm_ne _ _ _ _ a, fun z hz => by
  rw [mm_i1, up_ne (fun e => by rw [e, hy] at hz; exact absurd hz (by decide))], rfl⟩
theorem rjF_c {S K : List Nat} (M : mm_M) {k : Nat} (f : Nat → Int32) (h : k ≠ 108) (hk : K.contains k = true) : rjF S K M (mm_i M k f) := ⟨fun j _ b => mm_ne _ _ _ _ (fun e => by rw [e, hk] at b; exact absurd b (by decide)), fun y _ => by rw [mm_ne _ _ _ _ (fun e => h e.symm)], rfl⟩
theorem rj_at (M : mm_M) (y : Nat) (v : Int32) : (mm_i M 108 (upd (M.1 108) y v)).1 108 y = v := by
  rw [mm_i1]
  exact up_at
theorem rj_ac (M : mm_M) (k y : Nat) (v : Int32) : (mm_i M k (upd (M.1 k) y v)).1 k y = v := by
  rw [mm_i1]
  exact up_at
theorem rj_an (M : mm_M) (k y : Nat) (v : Int32) {j : Nat} (h : j ≠ y) : (mm_i M k (upd (M.1 k) y v)).1 k j = M.1 k j := by
  rw [mm_i1]
  exact up_ne h
/-- the TEXT, as the reference has it -/
def rjX (M : mm_M) (T : Nat → Nat) (t : Nat) : Prop := t ≤ 400 ∧ M.1 108 2 = nI t ∧ ∀ j, j < t → M.1 109 j = nI (T j) ∧ 32 ≤ T j ∧ T j < 127
theorem rjX_f {S K : List Nat} {M N : mm_M} {T : Nat → Nat} {t : Nat} (hS : S.contains 2 = false) (hK : K.contains 109 = false) (h : rjF S K M N) (g : rjX M T t) : rjX N T t := ⟨g.1, by rw [h.2.1 2 hS]; exact g.2.1, fun j hj => by rw [h.1 109 (by decide) hK]; exact g.2.2 j hj⟩
/-- where it reads -/
def rjA (M : mm_M) (T : Nat → Nat) (t i : Nat) : Prop := i ≤ t ∧ ∃ j, j ≤ t ∧ M.1 108 3 = nI j ∧ nxQ T t j = nxQ T t i
theorem rjA_f {S K : List Nat} {M N : mm_M} {T : Nat → Nat} {t i : Nat} (hS : S.contains 3 = false) (h : rjF S K M N) (g : rjA M T t i) : rjA N T t i := by
  obtain ⟨a, j, b, c, e⟩ := g
  exact ⟨a, j, b, by rw [h.2.1 3 hS]; exact c, e⟩
theorem rjA_e {M : mm_M} {T : Nat → Nat} {t i : Nat} (hi : i ≤ t) (h : M.1 108 3 = nI i) : rjA M T t i := ⟨hi, i, hi, h, rfl⟩
theorem rj_nn {T : Nat → Nat} {t i : Nat} (hi : i ≤ t) : nxQ T t (nxQ T t i) = nxQ T t i := nxQ_s (nxQ_1 hi).2.2.1
theorem rjA_p {M : mm_M} {T : Nat → Nat} {t i : Nat} (hi : i ≤ t) (h : M.1 108 3 = nI (crP T t i)) : rjA M T t i := ⟨hi, crP T t i, (crp_1 hi).2, h, rj_nn hi⟩
theorem sa_F {S K : List Nat} (M : mm_M) (p : Nat) (hS : S.contains 3 = true) : rjF S K M (saM M p) := rjF_u M _ hS
theorem sa_3 (M : mm_M) (p : Nat) : (saM M p).1 108 3 = nI p := rj_at _ _ _
theorem sa_X {M : mm_M} {T : Nat → Nat} {t : Nat} (p : Nat) (h : rjX M T t) : rjX (saM M p) T t := rjX_f (S := [3]) (K := []) rfl rfl (sa_F M p rfl) h
theorem rf_sa (M : mm_M) (p q : Nat) : rfM (saM M p) q = rfM M q := by
  unfold rfM saM
  rw [mm_i1, mm_ii, upd_two]
theorem rf_F {S K : List Nat} (M : mm_M) (p : Nat) (h3 : S.contains 3 = true) (h4 : S.contains 4 = true) (h5 : S.contains 5 = true) : rjF S K M (rfM M p) := by
  refine ⟨fun k a _ => mm_ne _ _ _ _ a, fun y hy => ?_, rfl⟩
  unfold rfM
  rw [mm_i1, up_ne (fun e => by rw [e, h5] at hy; exact absurd hy (by decide)), up_ne (fun e => by rw [e, h4] at hy; exact absurd hy (by decide)), up_ne (fun e => by rw [e, h3] at hy; exact absurd hy (by decide))]
theorem rf_45 (M : mm_M) (p : Nat) : (rfM M p).1 108 4 = 1 ∧ (rfM M p).1 108 5 = nI p := by
  unfold rfM
  rw [mm_i1]
  exact ⟨rfl, rfl⟩
/-- what is noted: 8 times the place and the kind -/
def rjN (M : mm_M) (f : Nat) : Prop := f < 2 ^ 20 ∧ M.1 108 17 = nI (f % 8) ∧ (f ≠ 0 → f % 8 ≠ 0 ∧ M.1 108 18 = nI (f / 8))
theorem rjN_f {S K : List Nat} {M N : mm_M} {f : Nat} (h7 : S.contains 17 = false) (h8 : S.contains 18 = false) (h : rjF S K M N) (g : rjN M f) : rjN N f := ⟨g.1, by rw [h.2.1 17 h7]; exact g.2.1, fun q => ⟨(g.2.2 q).1, by rw [h.2.1 18 h8]; exact (g.2.2 q).2⟩⟩
section CRV
variable {d : Nat} {M : mm_M} {T : Nat → Nat} {t i : Nat}
theorem ct_se (hR : rjX M T t) (hA : rjA M T t i) : am_M (d + 1) false nm_X12_see [aR 108] M (am_q1 (aI (nI (crC T t i))) (saM M (crP T t i))) := by
  obtain ⟨hi, j, hj, e3, en⟩ := hA
  have h := ct_sees (d := d) (K := M) hR.1 hj e3 hR.2.1 (fun q hq => ⟨(hR.2.2 q hq).1, (hR.2.2 q hq).2.2⟩)
  rw [en] at h
  exact h
theorem ct_se0 (hR : rjX M T t) (hi : i ≤ t) (h3 : M.1 108 3 = nI (crP T t i)) : am_M (d + 1) false nm_X12_see [aR 108] M (am_q1 (aI (nI (crC T t i))) M) := by
  have h := ct_se (d := d) hR (rjA_p hi h3)
  rw [saM_z h3] at h
  exact h
theorem ct_rf (hR : rjX M T t) (hA : rjA M T t i) : am_M (d + 2) false nm_X12_refuse [aR 108] M (am_q1 (aI 0) (rfM M (crP T t i))) := by
  obtain ⟨hi, j, hj, e3, en⟩ := hA
  have h := ct_refu (d := d) (K := M) hR.1 hj e3 hR.2.1 (fun q hq => ⟨(hR.2.2 q hq).1, (hR.2.2 q hq).2.2⟩)
  rw [en] at h
  exact h
theorem rjX_c (hR : rjX M T t) : crC T t i < 127 := crc_1 (fun j hj => (hR.2.2 j hj).2.2)
theorem cra_p {i : Nat} (h : crC T t i ≠ 0) : crA T t i = crP T t i + 1 := if_pos (crn_1 h)
set_option maxRecDepth 100000 in
theorem ct_wa1 {c : Nat} (hR : rjX M T t) (hA : rjA M T t i) (c0 : c ≠ 0) (h : crC T t i = c) : am_M (d + 3) false nm_X12_want [aR 108, aI (nI c)] M (am_q1 (aI 1) (saM M (crA T t i))) := by
  refine ⟨rfl, rfl, rfl, fun X hX => am_run hX 2 _ _ _ _ ?_⟩
  conv => whnf
  refine am_c1 (ct_se (d := d + 1) hR hA) ?_
  refine am_run hX 2 _ _ _ _ ?_
  conv => whnf
  rw [h]
  refine ⟨fun _ => ?_, fun z => absurd rfl z⟩
  refine am_run hX 6 _ _ _ _ ?_
  conv => whnf
  rw [saM_n]
  refine am_run hX 2 _ _ _ _ ?_
  conv => whnf
  exact ⟨rfl, rfl, by rw [cra_p (by rw [h]; exact c0)]⟩
set_option maxRecDepth 100000 in
theorem ct_wa0 {c : Nat} (hR : rjX M T t) (hA : rjA M T t i) (hc : c < 127) (h : crC T t i ≠ c) : am_M (d + 3) false nm_X12_want [aR 108, aI (nI c)] M (am_q1 (aI 0) (rfM M (crP T t i))) := by
  have c7 := rjX_c (i := i) hR
  refine ⟨rfl, rfl, rfl, fun X hX => am_run hX 2 _ _ _ _ ?_⟩
  conv => whnf
  refine am_c1 (ct_se (d := d + 1) hR hA) ?_
  refine am_run hX 2 _ _ _ _ ?_
  conv => whnf
  refine ⟨fun z => absurd ((nI_eq (by omega) (by omega)).mp z) h, fun _ => ?_⟩
  refine am_run hX 2 _ _ _ _ ?_
  conv => whnf
  have k := ct_rf (d := d) (sa_X (crP T t i) hR) (rjA_p hA.1 (sa_3 M _))
  rw [rf_sa] at k
  refine am_c1 k ?_
  refine am_run hX 1 _ _ _ _ ?_
  conv => whnf
  exact ⟨rfl, rfl, rfl⟩
set_option maxRecDepth 100000 in
theorem ct_dg (hR : rjX M T t) (hA : rjA M T t i) : am_M (d + 2) false nm_X12_isDigit [aR 108] M (am_q1 (aI (b01 (isDg (crC T t i)))) (saM M (crP T t i))) := by
  have c7 := rjX_c (i := i) hR
  have k := ct_se0 (d := d) (sa_X (crP T t i) hR) hA.1 (sa_3 M _)
  refine ⟨rfl, rfl, rfl, fun X hX => am_run hX 2 _ _ _ _ ?_⟩
  conv => whnf
  refine am_c1 (ct_se (d := d) hR hA) ?_
  generalize crC T t i = c at *
  refine am_run hX 2 _ _ _ _ ?_
  conv => whnf
  by_cases h1 : c < 48
  · have e : isDg c = false := by unfold isDg; rw [decide_eq_false (by omega)]; rfl
    refine ⟨fun _ => ?_, fun z => absurd (nI_lt (a := c) (b := 48) h1 (by decide)) z⟩
    refine am_run hX 2 _ _ _ _ ?_
    conv => whnf
    rw [e]
    exact ⟨rfl, rfl, rfl⟩
  · refine ⟨fun z => absurd z (nI_nlt (a := c) (b := 48) (by omega) (by omega)), fun _ => ?_⟩
    refine am_run hX 2 _ _ _ _ ?_
    conv => whnf
    refine am_c1 k ?_
    refine am_run hX 2 _ _ _ _ ?_
    conv => whnf
    by_cases h2 : 57 < c
    · have e : isDg c = false := by unfold isDg; rw [decide_eq_false (show ¬ c ≤ 57 by omega), Bool.and_false]
      refine ⟨fun _ => ?_, fun z => absurd (nI_lt (a := 57) (b := c) h2 (by omega)) z⟩
      refine am_run hX 2 _ _ _ _ ?_
      conv => whnf
      rw [e]
      exact ⟨rfl, rfl, rfl⟩
    · have e : isDg c = true := by unfold isDg; rw [decide_eq_true (by omega), decide_eq_true (by omega)]; rfl
      refine ⟨fun z => absurd z (nI_nlt (a := 57) (b := c) (by omega) (by decide)), fun _ => ?_⟩
      refine am_run hX 3 _ _ _ _ ?_
      conv => whnf
      rw [e]
      exact ⟨rfl, rfl, rfl⟩
def isAd (c : Nat) : Bool := decide (97 ≤ c) && decide (c ≤ 100)
set_option maxRecDepth 100000 in
theorem ct_lt (hR : rjX M T t) (hA : rjA M T t i) : am_M (d + 2) false nm_X12_isLetter [aR 108] M (am_q1 (aI (b01 (isAd (crC T t i)))) (saM M (crP T t i))) := by
  have c7 := rjX_c (i := i) hR
  have k := ct_se0 (d := d) (sa_X (crP T t i) hR) hA.1 (sa_3 M _)
  refine ⟨rfl, rfl, rfl, fun X hX => am_run hX 2 _ _ _ _ ?_⟩
  conv => whnf
  refine am_c1 (ct_se (d := d) hR hA) ?_
  generalize crC T t i = c at *
  refine am_run hX 2 _ _ _ _ ?_
  conv => whnf
  by_cases h1 : c < 97
  · have e : isAd c = false := by unfold isAd; rw [decide_eq_false (by omega)]; rfl
    refine ⟨fun _ => ?_, fun z => absurd (nI_lt (a := c) (b := 97) h1 (by decide)) z⟩
    refine am_run hX 2 _ _ _ _ ?_
    conv => whnf
    rw [e]
    exact ⟨rfl, rfl, rfl⟩
  · refine ⟨fun z => absurd z (nI_nlt (a := c) (b := 97) (by omega) (by omega)), fun _ => ?_⟩
    refine am_run hX 2 _ _ _ _ ?_
    conv => whnf
    refine am_c1 k ?_
    refine am_run hX 2 _ _ _ _ ?_
    conv => whnf
    by_cases h2 : 100 < c
    · have e : isAd c = false := by unfold isAd; rw [decide_eq_false (show ¬ c ≤ 100 by omega), Bool.and_false]
      refine ⟨fun _ => ?_, fun z => absurd (nI_lt (a := 100) (b := c) h2 (by omega)) z⟩
      refine am_run hX 2 _ _ _ _ ?_
      conv => whnf
      rw [e]
      exact ⟨rfl, rfl, rfl⟩
    · have e : isAd c = true := by unfold isAd; rw [decide_eq_true (by omega), decide_eq_true (by omega)]; rfl
      refine ⟨fun z => absurd z (nI_nlt (a := 100) (b := c) (by omega) (by decide)), fun _ => ?_⟩
      refine am_run hX 3 _ _ _ _ ?_
      conv => whnf
      rw [e]
      exact ⟨rfl, rfl, rfl⟩
set_option maxRecDepth 100000 in
theorem ct_nt {f p k : Nat} (hN : rjN M f) (hp : p ≤ 400) (hk : 1 ≤ k ∧ k < 8) : am_M (d + 1) false nm_X12_note [aR 108, aI (nI k), aI (nI p)] M (fun r N => r = .inl none ∧ rjF [17, 18] [] M N ∧ rjN N (ntF f p k)) := by
  obtain ⟨f1, f2, f3⟩ := hN
  refine ⟨rfl, rfl, rfl, fun X hX => ?_⟩
  have take : ntF f p k = 8 * p + k → X 31 [some (aR 108), some (aI (nI k)), some (aI (nI p))] [] M := by
    intro e
    refine am_run hX 3 _ _ _ _ ?_
    conv => whnf
    generalize h1 : mm_i M 108 _ = N1
    have F1 : rjF [17, 18] [] M N1 := by rw [← h1]; exact rjF_u M _ rfl
    have a1 : N1.1 108 17 = nI k := by rw [← h1]; exact rj_at _ _ _
    refine am_run hX 3 _ _ _ _ ?_
    conv => whnf
    generalize h2 : mm_i N1 108 _ = N2
    have F2 : rjF [17, 18] [] N1 N2 := by rw [← h2]; exact rjF_u N1 _ rfl
    have a2 : N2.1 108 17 = nI k := by rw [← h2, rj_an _ _ _ _ (by decide)]; exact a1
    have b2 : N2.1 108 18 = nI p := by rw [← h2]; exact rj_at _ _ _
    refine am_run hX 1 _ _ _ _ ?_
    conv => whnf
    refine ⟨trivial, rfl, rjF_t F1 F2, ?_⟩
    rw [e]
    refine ⟨by omega, ?_, fun _ => ⟨by omega, ?_⟩⟩
    · rw [a2]; congr 1; omega
    · rw [b2]; congr 1; omega
  have keep : ntF f p k = f → X 41 [some (aR 108), some (aI (nI k)), some (aI (nI p))] [] M := by
    intro e
    refine am_run hX 1 _ _ _ _ ?_
    conv => whnf
    refine ⟨trivial, rfl, rjF_r _ _ M, ?_⟩
    rw [e]
    exact ⟨f1, f2, f3⟩
  refine am_run hX 3 _ _ _ _ ?_
  conv => whnf
  rw [f2]
  by_cases f0 : f = 0
  · rw [f0]
    exact ⟨fun _ => take (if_pos f0), fun z => absurd rfl z⟩
  · obtain ⟨q, e18⟩ := f3 f0
    have en : ntF f p k = min f (8 * p + k) := if_neg f0
    refine ⟨fun z => absurd z (nI_ne0 (n := f % 8) (by omega) (by omega)), fun _ => ?_⟩
    refine am_run hX 4 _ _ _ _ ?_
    conv => whnf
    rw [e18]
    by_cases h1 : p < f / 8
    · exact ⟨fun _ => take (by rw [en]; omega), fun z => absurd (nI_lt h1 (by omega)) z⟩
    · refine ⟨fun z => absurd z (nI_nlt (by omega) (by omega)), fun _ => ?_⟩
      refine am_run hX 4 _ _ _ _ ?_
      conv => whnf
      rw [e18]
      by_cases h2 : p = f / 8
      · refine ⟨fun z => absurd (by rw [← h2]) z, fun _ => ?_⟩
        refine am_run hX 4 _ _ _ _ ?_
        conv => whnf
        rw [f2]
        by_cases h3 : f % 8 ≤ k
        · exact ⟨fun _ => keep (by rw [en]; omega), fun z => absurd (nI_le h3 (by omega)) z⟩
        · exact ⟨fun z => absurd z (nI_ge (by omega) (by omega)), fun _ => take (by rw [en]; omega)⟩
      · exact ⟨fun _ => keep (by rw [en]; omega), fun z => absurd (fun e => h2 ((nI_eq (by omega) (by omega)).mp e)) z⟩
set_option maxRecDepth 100000 in
theorem ct_nd {n : Nat} {v tl : Int32} (h19 : M.1 108 19 = nI n) (hn : n < 401) (h27 : M.1 108 27 = tl) : am_M (d + 1) false nm_X12_node [aR 108, aI v] M (fun r N => r = .inl (some (aI (nI n))) ∧ rjF [19] [120, 121, 122, 123, 124, 125] M N ∧ N.1 108 19 = nI (n + 1) ∧ (N.1 120 n = v ∧ N.1 121 n = tl ∧ N.1 122 n = 0 ∧ N.1 123 n = 0 ∧ N.1 124 n = 0 ∧ N.1 125 n = 0) ∧ ∀ k, 120 ≤ k → k ≤ 125 → ∀ j, j ≠ n → N.1 k j = M.1 k j) := by
  have ix : vp_in (nI n) 401 := vp_in_nI hn (by decide)
  have cl : (nI n).toNatClampNeg = n := nI_clamp (by omega)
  refine ⟨rfl, rfl, rfl, fun X hX => am_run hX 6 _ _ _ _ ?_⟩
  conv => whnf
  rw [h19]
  refine ⟨ix, ?_⟩
  rw [cl]
  generalize g1 : mm_i M 120 _ = N1
  have e1 : N1.1 108 = M.1 108 := by rw [← g1, mm_ne _ _ _ _ (by decide)]
  refine am_run hX 7 _ _ _ _ ?_
  conv => whnf
  rw [e1, h19, h27]
  refine ⟨ix, ?_⟩
  rw [cl]
  generalize g2 : mm_i N1 121 _ = N2
  have e2 : N2.1 108 = M.1 108 := by rw [← g2, mm_ne _ _ _ _ (by decide)]; exact e1
  refine am_run hX 6 _ _ _ _ ?_
  conv => whnf
  rw [e2, h19]
  refine ⟨ix, ?_⟩
  rw [cl]
  generalize g3 : mm_i N2 122 _ = N3
  have e3 : N3.1 108 = M.1 108 := by rw [← g3, mm_ne _ _ _ _ (by decide)]; exact e2
  refine am_run hX 6 _ _ _ _ ?_
  conv => whnf
  rw [e3, h19]
  refine ⟨ix, ?_⟩
  rw [cl]
  generalize g4 : mm_i N3 123 _ = N4
  have e4 : N4.1 108 = M.1 108 := by rw [← g4, mm_ne _ _ _ _ (by decide)]; exact e3
  refine am_run hX 6 _ _ _ _ ?_
  conv => whnf
  rw [e4, h19]
  refine ⟨ix, ?_⟩
  rw [cl]
  generalize g5 : mm_i N4 124 _ = N5
  have e5 : N5.1 108 = M.1 108 := by rw [← g5, mm_ne _ _ _ _ (by decide)]; exact e4
  refine am_run hX 6 _ _ _ _ ?_
  conv => whnf
  rw [e5, h19]
  refine ⟨ix, ?_⟩
  rw [cl]
  generalize g6 : mm_i N5 125 _ = N6
  have e6 : N6.1 108 = M.1 108 := by rw [← g6, mm_ne _ _ _ _ (by decide)]; exact e5
  refine am_run hX 6 _ _ _ _ ?_
  conv => whnf
  rw [e6, h19, nI_1]
  generalize g7 : mm_i N6 108 _ = N7
  have e7 : N7.1 108 19 = nI (n + 1) := by rw [← g7, mm_i1]; exact up_at
  have o7 : ∀ k, k ≠ 108 → N7.1 k = N6.1 k := fun k hk => by rw [← g7, mm_ne _ _ _ _ hk]
  have o6 : ∀ k, k ≠ 125 → N6.1 k = N5.1 k := fun k hk => by rw [← g6, mm_ne _ _ _ _ hk]
  have o5 : ∀ k, k ≠ 124 → N5.1 k = N4.1 k := fun k hk => by rw [← g5, mm_ne _ _ _ _ hk]
  have o4 : ∀ k, k ≠ 123 → N4.1 k = N3.1 k := fun k hk => by rw [← g4, mm_ne _ _ _ _ hk]
  have o3 : ∀ k, k ≠ 122 → N3.1 k = N2.1 k := fun k hk => by rw [← g3, mm_ne _ _ _ _ hk]
  have o2 : ∀ k, k ≠ 121 → N2.1 k = N1.1 k := fun k hk => by rw [← g2, mm_ne _ _ _ _ hk]
  have o1 : ∀ k, k ≠ 120 → N1.1 k = M.1 k := fun k hk => by rw [← g1, mm_ne _ _ _ _ hk]
  have c0 : N7.1 120 = upd (M.1 120) n v := by rw [o7 _ (by decide), o6 _ (by decide), o5 _ (by decide), o4 _ (by decide), o3 _ (by decide), o2 _ (by decide), ← g1, mm_i1]
  have c1 : N7.1 121 = upd (M.1 121) n tl := by rw [o7 _ (by decide), o6 _ (by decide), o5 _ (by decide), o4 _ (by decide), o3 _ (by decide), ← g2, mm_i1, o1 _ (by decide)]
  have c2 : N7.1 122 = upd (M.1 122) n 0 := by rw [o7 _ (by decide), o6 _ (by decide), o5 _ (by decide), o4 _ (by decide), ← g3, mm_i1, o2 _ (by decide), o1 _ (by decide)]
  have c3 : N7.1 123 = upd (M.1 123) n 0 := by rw [o7 _ (by decide), o6 _ (by decide), o5 _ (by decide), ← g4, mm_i1, o3 _ (by decide), o2 _ (by decide), o1 _ (by decide)]
  have c4 : N7.1 124 = upd (M.1 124) n 0 := by rw [o7 _ (by decide), o6 _ (by decide), ← g5, mm_i1, o4 _ (by decide), o3 _ (by decide), o2 _ (by decide), o1 _ (by decide)]; rfl
  have c5 : N7.1 125 = upd (M.1 125) n 0 := by rw [o7 _ (by decide), ← g6, mm_i1, o5 _ (by decide), o4 _ (by decide), o3 _ (by decide), o2 _ (by decide), o1 _ (by decide)]
  have F : rjF [19] [120, 121, 122, 123, 124, 125] M N7 := by
    refine ⟨fun k a b => ?_, fun y hy => ?_, ?_⟩
    · have q : ∀ z, [120, 121, 122, 123, 124, 125].contains z = true → k ≠ z := fun z hz e => by rw [e, hz] at b; exact absurd b (by decide)
      rw [o7 _ a, o6 _ (q _ rfl), o5 _ (q _ rfl), o4 _ (q _ rfl), o3 _ (q _ rfl), o2 _ (q _ rfl), o1 _ (q _ rfl)]
    · rw [← g7, mm_i1, up_ne (fun e => by rw [e] at hy; exact absurd hy (by decide))]
    · rw [← g7, ← g6, ← g5, ← g4, ← g3, ← g2, ← g1]
      rfl
  refine am_run hX 5 _ _ _ _ ?_
  conv => whnf
  rw [e7, nI_s1 _ (by omega), Nat.add_sub_cancel]
  refine ⟨trivial, rfl, F, e7, ⟨by rw [c0]; exact up_at, by rw [c1]; exact up_at, by rw [c2]; exact up_at, by rw [c3]; exact up_at, by rw [c4]; exact up_at, by rw [c5]; exact up_at⟩, fun k a b j hj => ?_⟩
  rcases (by omega : k = 120 ∨ k = 121 ∨ k = 122 ∨ k = 123 ∨ k = 124 ∨ k = 125) with rfl | rfl | rfl | rfl | rfl | rfl
  · rw [c0]; exact up_ne hj
  · rw [c1]; exact up_ne hj
  · rw [c2]; exact up_ne hj
  · rw [c3]; exact up_ne hj
  · rw [c4]; exact up_ne hj
  · rw [c5]; exact up_ne hj
end CRV
