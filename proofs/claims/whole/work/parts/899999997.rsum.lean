/-! THE REFERENCE'S SUMS OF PRODUCTS OF ROOTS -/
theorem ra_c (x y : R4) : ra x y = ra y x := by
  obtain ⟨a, b, c, d⟩ := x
  obtain ⟨e, f, g, h⟩ := y
  simp only [ra, Prod.mk.injEq]
  omega
theorem ov_z (g : Nat → Int64) : (fun j => if j < 5 then 0 else g j) = ov g (0, 0, 0, 0) 0 := by
  funext j
  unfold ov
  by_cases h : j < 5
  · rw [if_pos h]
    rcases (by omega : j = 0 ∨ j = 1 ∨ j = 2 ∨ j = 3 ∨ j = 4) with rfl | rfl | rfl | rfl | rfl <;> rfl
  · rw [if_neg h, if_neg (by omega), if_neg (by omega), if_neg (by omega), if_neg (by omega), if_neg (by omega)]
/-- the reference's work rows -/
def w4 (M : mm_M) (q o f s : Nat → Int64) : mm_M := mm_l (mm_l (mm_l (mm_l M 152 q) 119 o) 118 f) 153 s
theorem w4_a (M : mm_M) (q o f s o' f' s' : Nat → Int64) : mm_l (mm_l (mm_l (w4 M q o f s) 119 o') 118 f') 153 s' = w4 M q o' f' s' := by
  unfold w4 mm_l
  refine Prod.ext rfl (funext fun c => ?_)
  dsimp only
  by_cases h1 : c = 153
  · subst h1
    rfl
  · by_cases h2 : c = 118
    · subst h2
      rfl
    · by_cases h3 : c = 119
      · subst h3
        rfl
      · rw [if_neg h1, if_neg h2, if_neg h3, if_neg h1, if_neg h2, if_neg h3, if_neg h1, if_neg h2, if_neg h3]
theorem w4_q (M : mm_M) (q o f s f' q' : Nat → Int64) : mm_l (mm_l (w4 M q o f s) 118 f') 152 q' = w4 M q' o f' s := by
  unfold w4 mm_l
  refine Prod.ext rfl (funext fun c => ?_)
  dsimp only
  by_cases h0 : c = 152
  · subst h0
    rfl
  · rw [if_neg h0]
    by_cases h1 : c = 153
    · subst h1
      rfl
    · by_cases h2 : c = 118
      · subst h2
        rfl
      · rw [if_neg h2, if_neg h1, if_neg h2, if_neg h1, if_neg h2, if_neg h0, if_neg h0]
theorem w4_s (M : mm_M) (s : Nat → Int64) : mm_l M 153 s = w4 M (M.2 152) (M.2 119) (M.2 118) s := by
  unfold w4 mm_l
  refine Prod.ext rfl (funext fun c => ?_)
  dsimp only
  by_cases h1 : c = 153
  · rw [if_pos h1, if_pos h1]
  · rw [if_neg h1, if_neg h1]
    by_cases h2 : c = 118
    · rw [if_pos h2, h2]
    · rw [if_neg h2]
      by_cases h3 : c = 119
      · rw [if_pos h3, h3]
      · rw [if_neg h3]
        by_cases h4 : c = 152
        · rw [if_pos h4, h4]
        · rw [if_neg h4]
theorem w4_f (M : mm_M) (q o f s f' : Nat → Int64) : mm_l (w4 M q o f s) 118 f' = w4 M q o f' s := by
  unfold w4 mm_l
  refine Prod.ext rfl (funext fun c => ?_)
  dsimp only
  by_cases h1 : c = 153
  · subst h1
    rfl
  · by_cases h2 : c = 118
    · subst h2
      rfl
    · rw [if_neg h2, if_neg h1, if_neg h2, if_neg h1, if_neg h2]
section RSUM
variable {d : Nat} {M : mm_M} {g : Nat → Int64}
set_option maxRecDepth 100000 in
theorem cs_l {P : am_Q} {X : am_X} (hX : am_K d false nm_X12_clearSum P X) (hP : P (.inl none) (mm_l M 153 (fun j => if j < 5 then 0 else M.2 153 j))) : ∀ (m i : Nat), i + m = 5 → X 2 [some (aR 108), some (aI (nI i))] [] (mm_l M 153 (fun j => if j < i then 0 else M.2 153 j)) := by
  intro m
  induction m with
  | zero =>
    intro i hi
    have hi : i = 5 := by omega
    subst hi
    refine am_run hX 4 _ _ _ _ ?_
    conv => whnf
    refine ⟨fun _ => ?_, fun c => absurd (by decide) c⟩
    conv => whnf
    exact ⟨trivial, hP⟩
  | succ m ih =>
    intro i hi
    refine am_run hX 3 _ _ _ _ ?_
    conv => whnf
    refine ⟨fun c => absurd c (nI_ge (a := i) (b := 5) (by omega) (by decide)), fun _ => ?_⟩
    refine am_run hX 7 _ _ _ _ ?_
    conv => whnf
    refine ⟨vp_in_nI (by show _ < 5; omega) (by decide), ?_⟩
    conv => whnf
    rw [nI_clamp (n := i) (by omega), nI_1, mm_l2, mm_ll]
    have e : vp_updL (fun j => if j < i then 0 else M.2 153 j) i 0 = fun j => if j < i + 1 then 0 else M.2 153 j := by
      funext j
      unfold vp_updL
      by_cases h : j = i
      · rw [if_pos h, if_pos (by omega)]
      · rw [if_neg h]
        dsimp only
        by_cases h2 : j < i
        · rw [if_pos h2, if_pos (by omega)]
        · rw [if_neg h2, if_neg (by omega)]
    rw [e]
    exact ih (i + 1) (by omega)
set_option maxRecDepth 100000 in
theorem ct_clr : am_M (d + 1) false nm_X12_clearSum [aR 108] M (am_q0 (mm_l M 153 (ov (M.2 153) (0, 0, 0, 0) 0))) := by
  refine ⟨rfl, rfl, rfl, fun X hX => am_run hX 2 _ _ _ _ ?_⟩
  conv => whnf
  have key := cs_l (M := M) hX (by rw [ov_z]; exact ⟨rfl, rfl⟩) 5 0 (by omega)
  have e : (fun j => if j < 0 then 0 else M.2 153 j) = M.2 153 := by
    funext j
    rw [if_neg (by omega)]
  rw [e, mm_lz] at key
  exact key
set_option maxRecDepth 100000 in
theorem ct_keepS {x : R4} {k : Nat} : am_M (d + 2) false nm_X12_keepSum [aR 108] (mm_l M 118 (ov g x k)) (am_q0 (mm_l (mm_l M 118 (ov g x k)) 153 (ov (M.2 153) x k))) := by
  refine ⟨rfl, rfl, rfl, fun X hX => am_run hX 10 _ _ _ _ ?_⟩
  conv => whnf
  refine am_c0 (ct_store153 (d := d) (a := 0) (by omega)) ?_
  rw [mm_l2, mm_lne _ 118 153 _ (by decide), sv_0]
  conv => whnf
  exact ⟨trivial, rfl, rfl⟩
set_option maxRecDepth 100000 in
theorem ct_prodR150 {j a K l : Nat} {X Y Z y : R4} (hj : j < 256) (ha : a + 5 ≤ 1280) (hK : K ≤ 1000000) (hx : at5 (M.2 150) (5 * j) (red K X).1 (red K X).2) (hy : at5 (M.2 150) a y l) (vy : vr K Y l y) (hz : at5 (M.2 153) 0 (red (2 * K) Z).1 (red (2 * K) Z).2) (b1 : bd (mu (cj X) Y)) (b2 : bd (ra Z (mu (cj X) Y))) : am_M (d + 4) false nm_X12_addProduct [aR 108, aI (nI j), aR 150, aI (nI a)] M (fun r M' => r = .inl none ∧ ∃ o f, M' = mm_l (mm_l (mm_l M 119 o) 118 f) 153 (ov (M.2 153) (red (2 * K) (ra Z (mu (cj X) Y))).1 (red (2 * K) (ra Z (mu (cj X) Y))).2)) := by
  have v1 := vr_mu (vr_cj (vr_red K X)) vy
  rw [show K + K = 2 * K by omega] at v1
  have e1 := vr_u v1
  have v2 := vr_ra (vr_red (2 * K) (mu (cj X) Y)) (vr_red (2 * K) Z)
  rw [ra_c _ Z] at v2
  have e2 := vr_u v2
  have l1 := (vr_red K X).1
  have l2 := vy.1
  have l3 := (vr_red (2 * K) Z).1
  have l4 := (vr_red (2 * K) (mu (cj X) Y)).1
  refine ⟨rfl, rfl, rfl, fun X' hX => am_run hX 40 _ _ _ _ ?_⟩
  conv => whnf
  rw [show (5 : Int32) = nI 5 from rfl, nI_mul]
  refine am_c0 (ct_ld150 (d := d + 2) (by omega) hx) ?_
  conv => whnf
  refine am_c0 (ct_conj (d := d + 2)) ?_
  conv => whnf
  refine am_c0 (ct_mul150 (d := d + 1) ha (by omega) (by omega) hy (vr_bd v1 b1)) ?_
  rw [e1]
  conv => whnf
  refine am_c0 (ct_add153p (d := d + 1) (a := 0) (by omega) (by omega) (by omega) hz (vr_bd v2 b2)) ?_
  rw [e2]
  conv => whnf
  refine am_c0 (ct_keepS (d := d + 1)) ?_
  conv => whnf
  exact ⟨trivial, rfl, _, _, rfl⟩
set_option maxRecDepth 100000 in
theorem ct_prodR152 {j a K l : Nat} {X Y Z y : R4} (hj : j < 256) (ha : a + 5 ≤ 10) (hK : K ≤ 1000000) (hx : at5 (M.2 150) (5 * j) (red K X).1 (red K X).2) (hy : at5 (M.2 152) a y l) (vy : vr K Y l y) (hz : at5 (M.2 153) 0 (red (2 * K) Z).1 (red (2 * K) Z).2) (b1 : bd (mu (cj X) Y)) (b2 : bd (ra Z (mu (cj X) Y))) : am_M (d + 4) false nm_X12_addProduct [aR 108, aI (nI j), aR 152, aI (nI a)] M (fun r M' => r = .inl none ∧ ∃ o f, M' = mm_l (mm_l (mm_l M 119 o) 118 f) 153 (ov (M.2 153) (red (2 * K) (ra Z (mu (cj X) Y))).1 (red (2 * K) (ra Z (mu (cj X) Y))).2)) := by
  have v1 := vr_mu (vr_cj (vr_red K X)) vy
  rw [show K + K = 2 * K by omega] at v1
  have e1 := vr_u v1
  have v2 := vr_ra (vr_red (2 * K) (mu (cj X) Y)) (vr_red (2 * K) Z)
  rw [ra_c _ Z] at v2
  have e2 := vr_u v2
  have l1 := (vr_red K X).1
  have l2 := vy.1
  have l3 := (vr_red (2 * K) Z).1
  have l4 := (vr_red (2 * K) (mu (cj X) Y)).1
  refine ⟨rfl, rfl, rfl, fun X' hX => am_run hX 40 _ _ _ _ ?_⟩
  conv => whnf
  rw [show (5 : Int32) = nI 5 from rfl, nI_mul]
  refine am_c0 (ct_ld150 (d := d + 2) (by omega) hx) ?_
  conv => whnf
  refine am_c0 (ct_conj (d := d + 2)) ?_
  conv => whnf
  refine am_c0 (ct_mul152 (d := d + 1) ha (by omega) (by omega) hy (vr_bd v1 b1)) ?_
  rw [e1]
  conv => whnf
  refine am_c0 (ct_add153p (d := d + 1) (a := 0) (by omega) (by omega) (by omega) hz (vr_bd v2 b2)) ?_
  rw [e2]
  conv => whnf
  refine am_c0 (ct_keepS (d := d + 1)) ?_
  conv => whnf
  exact ⟨trivial, rfl, _, _, rfl⟩
theorem lI_rq (h : Nat) (hh : h < 2 ^ 31) (u v : Int) (q : Int32) : rq ((u, v), h) q = if q = 0 then lI u else if q = 1 then lI v else lI h := by
  unfold rq
  rw [lI_nI hh]
theorem trn2 (l : Nat) : ((l : Nat) : Int).tdiv 2 = ((l / 2 : Nat) : Int) := rfl
theorem trm2 (l : Nat) : ((l : Nat) : Int).tmod 2 = ((l % 2 : Nat) : Int) := rfl
set_option maxRecDepth 100000 in
theorem rr_e {X : am_X} {u v : Int} {h : Nat} {q : Int32} {F : (Int × Int) × Nat} (hX : am_K d false nm_X12_realPart (am_q1 (aJ (rq F q)) M) X) (hh : h < 2 ^ 31) (hu : -2 ^ 62 ≤ u ∧ u ≤ 2 ^ 62) (hv : -2 ^ 62 ≤ v ∧ v ≤ 2 ^ 62) (hF : (¬ (u = 0 ∧ v = 0) ∧ F = ((u, v), h)) ∨ (u = 0 ∧ v = 0 ∧ F = ((0, 0), 0))) (l8 l9 : Option am_V) : X 113 [some (aR 108), some (aI q), some (aJ (lI u)), none, some (aJ (lI v)), none, some (aJ (lI h)), none, l8, l9] [] M := by
  have key : ∀ h', h' < 2 ^ 31 → F = ((u, v), h') → X 129 [some (aR 108), some (aI q), some (aJ (lI u)), none, some (aJ (lI v)), none, some (aJ (lI h')), none, l8, l9] [] M := by
    intro h' hh' e
    subst e
    rw [lI_rq h' hh'] at hX
    refine am_run hX 20 _ _ _ _ ?_
    conv => whnf
    refine ⟨fun e0 => ?_, fun e => ?_⟩
    · conv => whnf
      refine ⟨fun e1 => ?_, fun e => ?_⟩
      · conv => whnf
        exact ⟨trivial, by rw [if_neg e0, if_neg e1], rfl⟩
      · have e : q = 1 := Decidable.byContradiction e
        conv => whnf
        exact ⟨trivial, by rw [if_neg e0, if_pos e], rfl⟩
    · have e : q = 0 := Decidable.byContradiction e
      conv => whnf
      exact ⟨trivial, by rw [if_pos e], rfl⟩
  refine am_run hX 4 _ _ _ _ ?_
  conv => whnf
  rw [lg_0, lI_0 (by omega) (by omega)]
  refine ⟨fun c => ?_, fun c => ?_⟩
  · rcases hF with hF | hF
    · exact key h hh hF.2
    · exact absurd hF.1 c
  · have c : u = 0 := Decidable.byContradiction c
    refine am_run hX 4 _ _ _ _ ?_
    conv => whnf
    rw [lg_0, lI_0 (by omega) (by omega)]
    refine ⟨fun c2 => ?_, fun c2 => ?_⟩
    · rcases hF with hF | hF
      · exact key h hh hF.2
      · exact absurd hF.2.1 c2
    · have c2 : v = 0 := Decidable.byContradiction c2
      refine am_run hX 2 _ _ _ _ ?_
      conv => whnf
      refine key 0 (by decide) ?_
      rcases hF with hF | hF
      · exact absurd ⟨c, c2⟩ hF.1
      · rw [hF.2.2, c, c2]
set_option maxRecDepth 100000 in
theorem rr_l {X : am_X} {q : Int32} {F : (Int × Int) × Nat} (hX : am_K d false nm_X12_realPart (am_q1 (aJ (rq F q)) M) X) (l8 l9 : Option am_V) : ∀ (h : Nat) (u v : Int), h < 2 ^ 31 → (-2 ^ 62 ≤ u ∧ u ≤ 2 ^ 62) → (-2 ^ 62 ≤ v ∧ v ≤ 2 ^ 62) → rh h u v = F → X 62 [some (aR 108), some (aI q), some (aJ (lI u)), none, some (aJ (lI v)), none, some (aJ (lI h)), none, l8, l9] [] M := by
  intro h
  induction h with
  | zero =>
    intro u v hh hu hv hF
    refine am_run hX 4 _ _ _ _ ?_
    conv => whnf
    rw [lg_le]
    refine ⟨fun _ => rr_e hX (by decide) hu hv ?_ _ _, fun c => absurd (by decide) c⟩
    by_cases e : u = 0 ∧ v = 0
    · refine Or.inr ⟨e.1, e.2, ?_⟩
      rw [← hF, e.1, e.2]
      rfl
    · exact Or.inl ⟨e, hF.symm⟩
  | succ h ih =>
    intro u v hh hu hv hF
    refine am_run hX 4 _ _ _ _ ?_
    conv => whnf
    rw [lg_le]
    refine ⟨fun c => absurd (by rw [show (0 : Int64) = lI 0 from by decide, lI_lt (by decide) (by decide) (by omega) (by omega)]; omega) c, fun _ => ?_⟩
    have hex : ¬ (u % 2 = 0 ∧ v % 2 = 0) → X 113 [some (aR 108), some (aI q), some (aJ (lI u)), none, some (aJ (lI v)), none, some (aJ (lI (h + 1 : Nat))), none, l8, l9] [] M := fun c => by
      refine rr_e hX hh hu hv (Or.inl ⟨fun e => c ⟨by rw [e.1]; rfl, by rw [e.2]; rfl⟩, ?_⟩) _ _
      rw [← hF]
      simp only [rh]
      rw [if_neg (fun e => c ⟨by rw [e.1]; rfl, by rw [e.2]; rfl⟩), if_neg c]
    refine am_run hX 6 _ _ _ _ ?_
    conv => whnf
    refine ⟨by first | exact i5_0 | exact i5_1 | exact i5_2 | exact i5_3 | exact i5_4 | exact i5_01 | exact i5_02 | exact i5_03 | exact i5_04 | exact i4_0 | exact i4_1 | exact i4_2 | exact i4_3 | decide, ?_⟩
    conv => whnf
    rw [lg_0, lI_e2 (by omega) (by omega)]
    refine ⟨fun c => hex fun e => c e.1, fun c1 => ?_⟩
    have c1 : u % 2 = 0 := Decidable.byContradiction c1
    refine am_run hX 6 _ _ _ _ ?_
    conv => whnf
    refine ⟨by first | exact i5_0 | exact i5_1 | exact i5_2 | exact i5_3 | exact i5_4 | exact i5_01 | exact i5_02 | exact i5_03 | exact i5_04 | exact i4_0 | exact i4_1 | exact i4_2 | exact i4_3 | decide, ?_⟩
    conv => whnf
    rw [lg_0, lI_e2 (by omega) (by omega)]
    refine ⟨fun c => hex fun e => c e.2, fun c2 => ?_⟩
    have c2 : v % 2 = 0 := Decidable.byContradiction c2
    refine am_run hX 13 _ _ _ _ ?_
    conv => whnf
    refine ⟨by first | exact i5_0 | exact i5_1 | exact i5_2 | exact i5_3 | exact i5_4 | exact i5_01 | exact i5_02 | exact i5_03 | exact i5_04 | exact i4_0 | exact i4_1 | exact i4_2 | exact i4_3 | decide, ?_⟩
    conv => whnf
    refine ⟨by first | exact i5_0 | exact i5_1 | exact i5_2 | exact i5_3 | exact i5_4 | exact i5_01 | exact i5_02 | exact i5_03 | exact i5_04 | exact i4_0 | exact i4_1 | exact i4_2 | exact i4_3 | decide, ?_⟩
    conv => whnf
    rw [lI_h (by omega) (by omega) c1, lI_h (by omega) (by omega) c2, show (1 : Int64) = lI 1 from by decide, lI_sub, show (((h + 1 : Nat) : Int) - 1) = ((h : Nat) : Int) by omega]
    refine ih (u / 2) (v / 2) (by omega) (by omega) (by omega) ?_
    rw [← hF]
    by_cases e : u = 0 ∧ v = 0
    · rw [e.1, e.2, show (0 : Int) / 2 = 0 from rfl, rh_0, rh_0]
    · simp only [rh]
      rw [if_neg e, if_pos ⟨c1, c2⟩]
set_option maxRecDepth 100000 in
theorem ct_realR {l : Nat} {y : R4} (q : Int32) (hl : l < 2 ^ 30) (hb : bd y) : am_M (d + 1) false nm_X12_realPart [aR 108, aI q] (mm_l M 118 (ov g y l)) (am_q1 (aJ (rq (rhs l y) q)) (mm_l M 118 (ov g y l))) := by
  have hbb := hb
  simp only [bd] at hbb
  refine ⟨rfl, rfl, rfl, fun X hX => am_run hX 21 _ _ _ _ ?_⟩
  conv => whnf
  refine ⟨by first | exact i5_0 | exact i5_1 | exact i5_2 | exact i5_3 | exact i5_4 | exact i5_01 | exact i5_02 | exact i5_03 | exact i5_04 | exact i4_0 | exact i4_1 | exact i4_2 | exact i4_3 | decide, ?_⟩
  conv => whnf
  refine ⟨by first | exact i5_0 | exact i5_1 | exact i5_2 | exact i5_3 | exact i5_4 | exact i5_01 | exact i5_02 | exact i5_03 | exact i5_04 | exact i4_0 | exact i4_1 | exact i4_2 | exact i4_3 | decide, ?_⟩
  conv => whnf
  refine ⟨by first | exact i5_0 | exact i5_1 | exact i5_2 | exact i5_3 | exact i5_4 | exact i5_01 | exact i5_02 | exact i5_03 | exact i5_04 | exact i4_0 | exact i4_1 | exact i4_2 | exact i4_3 | decide, ?_⟩
  conv => whnf
  refine ⟨by first | exact i5_0 | exact i5_1 | exact i5_2 | exact i5_3 | exact i5_4 | exact i5_01 | exact i5_02 | exact i5_03 | exact i5_04 | exact i4_0 | exact i4_1 | exact i4_2 | exact i4_3 | decide, ?_⟩
  conv => whnf
  simp only [mm_l2, k_0, k_1, k_2, k_3, k_4, ov_0, ov_1, ov_4]
  rw [lI_r2 (by omega) (by omega), trm2, lg_0, show (1 : Int64) = lI 1 from by decide, lI_eq (by omega) (by omega) (by decide) (by decide)]
  refine ⟨fun c => ?_, fun c => ?_⟩
  · have c : ¬ l % 2 = 1 := by omega
    unfold rhs at hX
    rw [if_neg c] at hX
    refine am_run hX 4 _ _ _ _ ?_
    conv => whnf
    refine ⟨by first | exact i5_0 | exact i5_1 | exact i5_2 | exact i5_3 | exact i5_4 | exact i5_01 | exact i5_02 | exact i5_03 | exact i5_04 | exact i4_0 | exact i4_1 | exact i4_2 | exact i4_3 | decide, ?_⟩
    conv => whnf
    rw [lI_d2 (by omega) (by omega), trn2]
    exact rr_l hX _ _ (l / 2) y.1 y.2.1 (by omega) (by omega) (by omega) rfl
  · have c : l % 2 = 1 := by omega
    unfold rhs at hX
    rw [if_pos c] at hX
    refine am_run hX 16 _ _ _ _ ?_
    conv => whnf
    refine ⟨by first | exact i5_0 | exact i5_1 | exact i5_2 | exact i5_3 | exact i5_4 | exact i5_01 | exact i5_02 | exact i5_03 | exact i5_04 | exact i4_0 | exact i4_1 | exact i4_2 | exact i4_3 | decide, ?_⟩
    conv => whnf
    rw [show (1 : Int64) = lI 1 from by decide, lI_add, show (2 : Int64) * lI y.2.1 = lI (2 * y.2.1) from by rw [show (2 : Int64) = lI 2 from by decide, lI_mul], show ((l : Nat) : Int) + 1 = ((l + 1 : Nat) : Int) by omega, lI_d2 (by omega) (by omega), trn2]
    exact rr_l hX _ _ ((l + 1) / 2) (2 * y.2.1) y.1 (by omega) (by omega) (by omega) rfl
set_option maxRecDepth 100000 in
theorem ct_tellr1 {l : Nat} {y : R4} {q : Int32} (q0 : ¬ q < 0) (q2 : q ≤ 2) (hl : l < 2 ^ 30) (hb : bd y) : am_M (d + 2) false nm_X12_tell [aR 108, aI 1, aI q, aI 1] (mm_l M 118 (ov g y l)) (am_q1 (aJ (rq (rhs l y) q)) (th0 (mm_l M 118 (ov g y l)))) := by
  refine ⟨rfl, rfl, rfl, fun X hX => am_run hX 60 _ _ _ _ ?_⟩
  conv => whnf
  refine ⟨fun c => absurd c (by decide), fun _ => ?_⟩
  conv => whnf
  refine ⟨fun c => absurd c q0, fun _ => ?_⟩
  conv => whnf
  refine ⟨fun c => absurd c (by decide), fun _ => ?_⟩
  conv => whnf
  refine ⟨fun c => absurd q2 (Int32.not_le.mpr c), fun _ => ?_⟩
  conv => whnf
  refine ⟨fun _ => ?_, fun c => absurd (by rw [mm_i1]; rfl) c⟩
  conv => whnf
  refine ⟨fun c => absurd c (by decide), fun _ => ?_⟩
  conv => whnf
  refine am_c1 (ct_realR (d := d) (M := th0 M) (g := g) (l := l) (y := y) q hl hb) ?_
  conv => whnf
  exact ⟨trivial, rfl, rfl⟩
set_option maxRecDepth 100000 in
theorem ct_tellr0 {b q : Int32} (h : b = 0 ∨ q < 0 ∨ 2 < q) : am_M (d + 1) false nm_X12_tell [aR 108, aI b, aI q, aI 1] M (am_q1 (aJ 0) (th1 M)) := by
  refine ⟨rfl, rfl, rfl, fun X hX => am_run hX 60 _ _ _ _ ?_⟩
  conv => whnf
  refine ⟨fun c => ?_, fun c => ?_⟩
  · conv => whnf
    refine ⟨fun c => absurd c (by rw [mm_i1]; simp [upd]), fun _ => ?_⟩
    conv => whnf
    exact ⟨trivial, rfl, rfl⟩
  · conv => whnf
    refine ⟨fun c2 => ?_, fun c2 => ?_⟩
    · conv => whnf
      refine ⟨fun c => absurd c (by rw [mm_i1]; simp [upd]), fun _ => ?_⟩
      conv => whnf
      exact ⟨trivial, rfl, rfl⟩
    · conv => whnf
      refine ⟨fun c => absurd c (by decide), fun _ => ?_⟩
      conv => whnf
      refine ⟨fun c3 => ?_, fun c3 => ?_⟩
      · conv => whnf
        refine ⟨fun c => absurd c (by rw [mm_i1]; simp [upd]), fun _ => ?_⟩
        conv => whnf
        exact ⟨trivial, rfl, rfl⟩
      · rcases h with h | h | h
        · exact absurd h c
        · exact absurd h c2
        · exact absurd h c3
end RSUM
