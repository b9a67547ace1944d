/-! THE PAIR circuit -/
def ciY : List Nat := [0, 2, 3, 4, 5, 17, 18, 19, 27, 32, 33, 34, 35, 36, 37, 38]
/-- what the reference may change ahead of settling -/
def ciG (n : Nat) (M N : mm_M) : Prop := (∀ k, k ≠ 108 → ¬ (112 ≤ k ∧ k ≤ 117) → ¬ (120 ≤ k ∧ k ≤ 131) → N.1 k = M.1 k) ∧ N.2 = M.2 ∧ (∀ y, ciY.contains y = false → N.1 108 y = M.1 108 y) ∧ ∀ k a, 112 ≤ k → k ≤ 117 → a < 300 * n → N.1 k a = M.1 k a
theorem ciG_t {n : Nat} {M N K : mm_M} (h : ciG n M N) (g : ciG n N K) : ciG n M K := ⟨fun k a b c => (g.1 k a b c).trans (h.1 k a b c), g.2.1.trans h.2.1, fun y a => (g.2.2.1 y a).trans (h.2.2.1 y a), fun k a b c e => (g.2.2.2 k a b c e).trans (h.2.2.2 k a b c e)⟩
theorem ciG_u {n : Nat} (M : mm_M) {y : Nat} (v : Int32) (hy : ciY.contains y = true) : ciG n M (mm_i M 108 (upd (M.1 108) y v)) := ⟨fun k a _ _ => mm_ne _ _ _ _ a, rfl, fun z hz => by rw [mm_i1, up_ne (fun e => by rw [e, hy] at hz; exact absurd hz (by decide))], fun k a b c _ => by rw [mm_ne _ _ _ _ (by omega)]⟩
theorem ciG_j {n : Nat} {S K : List Nat} {M N : mm_M} (h : rjF S K M N) (hS : ∀ y ∈ S, ciY.contains y = true) (hK : ∀ y ∈ K, 120 ≤ y ∧ y ≤ 131) : ciG n M N := by
  have kc : ∀ k, ¬ (120 ≤ k ∧ k ≤ 131) → K.contains k = false := by
    intro k hk
    cases q : K.contains k with
    | false => rfl
    | true => exact absurd (hK k (List.contains_iff_mem.mp q)) hk
  exact ⟨fun k a _ c => h.1 k a (kc k c), h.2.2, fun y hy => h.2.1 y (ctn_w hS hy), fun k a b c _ => by rw [h.1 k (by omega) (kc k (by omega))]⟩
theorem ciG_l (M : mm_M) (n : Nat) (l : List bk_X) : ciG n M (llM M n l) := by
  refine ⟨fun k a b _ => ll_r _ _ _ a b, rfl, fun y hy => ?_, fun k a b c e => ?_⟩
  · have q : ∀ z, ciY.contains z = true → y ≠ z := fun z hz e => by rw [e, hz] at hy; exact absurd hy (by decide)
    rw [ll_108, up_ne (q 38 rfl), up_ne (q 37 rfl), up_ne (q 36 rfl)]
  · rcases (by omega : k = 112 ∨ k = 113 ∨ k = 114 ∨ k = 115 ∨ k = 116 ∨ k = 117) with rfl | rfl | rfl | rfl | rfl | rfl
    · exact ll_112 M l e
    · exact ll_113 M l e
    · exact ll_114 M l e
    · exact ll_115 M l e
    · exact ll_116 M l e
    · exact ll_117 M l e
theorem ciG_m {n lv : Nat} {M N : mm_M} (h : mpF lv M N) : ciG n M N := ⟨fun k _ _ c => h.1 k (by omega), h.2.1, fun y _ => by rw [h.1 108 (by decide)], fun k a b c _ => by rw [h.1 k (by omega)]⟩
/-- what the reference comes to -/
def crR (M : mm_M) (T : Nat → Nat) (t n : Nat) (r : am_R) (N : mm_M) : Prop := (n = 20 ∧ r = .inl (some (aI 0)) ∧ N = mm_i M 108 (upd (upd (M.1 108) 2 0) 0 1)) ∨ (n < 20 ∧ r = .inl (some (aI 0)) ∧ ciG n M N ∧ N.1 108 0 = 2 ∧ N.1 108 2 = 0 ∧ ((∃ p, txR T t p ∧ N.1 108 4 = 1 ∧ N.1 108 5 = nI p) ∨ (∃ W c s, txG T t W c s ∧ ((cxF c ≠ 0 ∧ N.1 108 4 = nI (cxF c % 8) ∧ N.1 108 5 = nI (cxF c / 8)) ∨ (cxF c = 0 ∧ ¬ okL (gO s) ∧ N.1 108 4 = 5 ∧ N.1 108 5 = 0))))) ∨ (n < 20 ∧ ∃ W c s N2, txG T t W c s ∧ cxF c = 0 ∧ okL (gO s) ∧ r = .inl (some (aI (nI n))) ∧ ciG n M N2 ∧ lfn N2 n (gO s) ∧ N2.1 108 0 = 0 ∧ N2.1 108 2 = 0 ∧ N2.1 108 4 = 0 ∧ N2.1 108 5 = 0 ∧ N = stM N2 n W)
section CSN
variable {d : Nat} {M : mm_M} {T : Nat → Nat} {t n : Nat}
theorem ct_rai {v : Int32} : am_M (d + 1) false nm_X12_raise [aR 108, aI v] M (am_q1 (aI 0) (mm_i M 108 (upd (M.1 108) 0 v))) := by
  refine ⟨rfl, rfl, rfl, fun X hX => am_run hX 3 _ _ _ _ ?_⟩
  conv => whnf
  refine am_run hX 2 _ _ _ _ ?_
  conv => whnf
  exact ⟨trivial, rfl, rfl⟩
set_option maxRecDepth 100000 in
theorem ct_ciR (hR : rjX M T t) (h6 : M.1 108 6 = nI n) (hn : n ≤ 20) (hx : n < 20 → ∀ W c s, txG T t W c s → cxF c = 0 → W ≤ 8 ∧ ∀ x ∈ gO s, x.2.2.2.1 < 256) : am_M 1000 false nm_X12_circuit [aR 108] M (crR M T t n) := by
  have t4 := hR.1
  refine ⟨rfl, rfl, rfl, fun X hX => am_run hX 4 _ _ _ _ ?_⟩
  conv => whnf
  rw [h6]
  by_cases n20 : n = 20
  · refine ⟨fun y => absurd (by rw [n20]; rfl) y, fun _ => ?_⟩
    refine am_run hX 3 _ _ _ _ ?_
    conv => whnf
    refine am_run hX 3 _ _ _ _ ?_
    conv => whnf
    refine am_c1 (ct_rai (d := 998) (v := 1)) ?_
    refine am_run hX 1 _ _ _ _ ?_
    conv => whnf
    exact ⟨trivial, Or.inl ⟨n20, rfl, by rw [mm_i1, mm_ii]⟩⟩
  have n20 : n < 20 := by omega
  refine ⟨fun _ => ?_, fun y => absurd (fun e => absurd ((nI_eq (a := n) (b := 20) (by omega) (by decide)).mp e) (by omega)) y⟩
  refine am_run hX 3 _ _ _ _ ?_
  conv => whnf
  generalize q1 : mm_i M 108 _ = N1
  have G1 : ciG n M N1 := by rw [← q1]; exact ciG_u M _ rfl
  have F1 : rjF [4] [] M N1 := by rw [← q1]; exact rjF_u M _ rfl
  have a4 : N1.1 108 4 = 0 := by rw [← q1]; exact rj_at _ _ _
  refine am_run hX 3 _ _ _ _ ?_
  conv => whnf
  generalize q2 : mm_i N1 108 _ = N2
  have G2 : ciG n N1 N2 := by rw [← q2]; exact ciG_u N1 _ rfl
  have F2 : rjF [5] [] N1 N2 := by rw [← q2]; exact rjF_u N1 _ rfl
  have a5 : N2.1 108 5 = 0 := by rw [← q2]; exact rj_at _ _ _
  refine am_run hX 3 _ _ _ _ ?_
  conv => whnf
  generalize q3 : mm_i N2 108 _ = N3
  have G3 : ciG n N2 N3 := by rw [← q3]; exact ciG_u N2 _ rfl
  have F3 : rjF [17] [] N2 N3 := by rw [← q3]; exact rjF_u N2 _ rfl
  have a17 : N3.1 108 17 = 0 := by rw [← q3]; exact rj_at _ _ _
  refine am_run hX 3 _ _ _ _ ?_
  conv => whnf
  generalize q4 : mm_i N3 108 _ = N4
  have G4 : ciG n N3 N4 := by rw [← q4]; exact ciG_u N3 _ rfl
  have F4 : rjF [3] [] N3 N4 := by rw [← q4]; exact rjF_u N3 _ rfl
  have a3 : N4.1 108 3 = 0 := by rw [← q4]; exact rj_at _ _ _
  have GA : ciG n M N4 := ciG_t G1 (ciG_t G2 (ciG_t G3 G4))
  have R4 : rjX N4 T t := rjX_f rfl rfl F4 (rjX_f rfl rfl F3 (rjX_f rfl rfl F2 (rjX_f rfl rfl F1 hR)))
  have b4 : N4.1 108 4 = 0 := by rw [F4.2.1 4 rfl, F3.2.1 4 rfl, F2.2.1 4 rfl]; exact a4
  have b5 : N4.1 108 5 = 0 := by rw [F4.2.1 5 rfl, F3.2.1 5 rfl]; exact a5
  refine am_run hX 2 _ _ _ _ ?_
  conv => whnf
  -- refused
  have bad : ∀ (K : mm_M) (L : am_L), ciG n M K → K.1 108 4 ≠ 0 → L.head? = some (some (aR 108)) → (∀ K', ciG n M K' → K'.1 108 0 = 2 → K'.1 108 2 = 0 → K'.1 108 4 = K.1 108 4 → K'.1 108 5 = K.1 108 5 → crR M T t n (.inl (some (aI 0))) K') → X 126 L [] K := by
    intro K L g h4 hL hP
    obtain ⟨L', rfl⟩ : ∃ L', L = some (aR 108) :: L' := by
      cases L with
      | nil => cases hL
      | cons a L' =>
        have hL : some a = some (some (aR 108)) := hL
        cases hL
        exact ⟨L', rfl⟩
    refine am_run hX 3 _ _ _ _ ?_
    conv => whnf
    generalize z1 : mm_i K 108 _ = K1
    have g1 : ciG n K K1 := by rw [← z1]; exact ciG_u K _ rfl
    have f1 : rjF [2] [] K K1 := by rw [← z1]; exact rjF_u K _ rfl
    have c2 : K1.1 108 2 = 0 := by rw [← z1]; exact rj_at _ _ _
    refine am_run hX 3 _ _ _ _ ?_
    conv => whnf
    rw [f1.2.1 4 rfl]
    refine ⟨fun y => absurd y h4, fun _ => ?_⟩
    refine am_run hX 3 _ _ _ _ ?_
    conv => whnf
    refine am_c1 (ct_rai (d := 998) (v := 2)) ?_
    generalize z2 : mm_i K1 108 _ = K2
    have g2 : ciG n K1 K2 := by rw [← z2]; exact ciG_u K1 _ rfl
    have f2 : rjF [0] [] K1 K2 := by rw [← z2]; exact rjF_u K1 _ rfl
    have c0 : K2.1 108 0 = 2 := by rw [← z2]; exact rj_at _ _ _
    refine am_run hX 1 _ _ _ _ ?_
    conv => whnf
    exact ⟨trivial, hP K2 (ciG_t g (ciG_t g1 g2)) c0 (by rw [f2.2.1 2 rfl]; exact c2) (by rw [f2.2.1 4 rfl, f1.2.1 4 rfl]) (by rw [f2.2.1 5 rfl, f1.2.1 5 rfl])⟩
  refine am_cq (ct_rtx (E := 999) (by decide) R4 a3 (by rw [F4.2.1 17 rfl]; exact a17)) ?_
  rintro r5 N5 (⟨rfl, F5, p, hp, c4, c5⟩ | ⟨rfl, F5, W, c, s, k, tl, Q, Ss, hG, hI, hk, hT, r4, hj⟩)
  · refine ⟨_, rfl, ?_⟩
    have G5 : ciG n M N5 := ciG_t GA (ciG_j F5 (by decide) (by decide))
    refine am_run hX 1 _ _ _ _ ?_
    conv => whnf
    refine am_run hX 2 _ _ _ _ ?_
    conv => whnf
    refine ⟨fun _ => ?_, fun y => absurd rfl y⟩
    refine am_run hX 2 _ _ _ _ ?_
    conv => whnf
    refine am_run hX 2 _ _ _ _ ?_
    conv => whnf
    refine ⟨fun _ => ?_, fun y => absurd rfl y⟩
    refine am_run hX 3 _ _ _ _ ?_
    conv => whnf
    rw [c4]
    refine ⟨fun _ => ?_, fun y => absurd (by decide) y⟩
    exact bad N5 _ G5 (by rw [c4]; decide) rfl (fun K' g z0 z2 z4 z5 => Or.inr (Or.inl ⟨n20, rfl, g, z0, z2, Or.inl ⟨p, hp, z4.trans c4, z5.trans c5⟩⟩))
  · refine ⟨_, rfl, ?_⟩
    have G5 : ciG n M N5 := ciG_t GA (ciG_j F5 (by decide) (by decide))
    have c4 : N5.1 108 4 = 0 := by rw [F5.2.1 4 rfl]; exact b4
    have c5 : N5.1 108 5 = 0 := by rw [F5.2.1 5 rfl]; exact b5
    obtain ⟨i1, i2, i3, ⟨w33, _, _, w4, _⟩, ⟨⟨g1, g2⟩, ⟨g3, g4⟩, g5, g6⟩, i6, i7⟩ := hI
    have cW : cxW c = W := (w4 r4).2
    rw [cW] at w33
    have it := i2.1
    refine am_run hX 1 _ _ _ _ ?_
    conv => whnf
    refine am_run hX 2 _ _ _ _ ?_
    conv => whnf
    refine ⟨fun y => absurd y (by decide), fun _ => ?_⟩
    refine am_run hX 4 _ _ _ _ ?_
    conv => whnf
    rw [w33]
    refine am_run hX 2 _ _ _ _ ?_
    conv => whnf
    refine ⟨fun y => absurd y (by decide), fun _ => ?_⟩
    refine am_run hX 3 _ _ _ _ ?_
    conv => whnf
    rw [i3.2.1]
    by_cases f0 : cxF c = 0
    · have hj := hj f0
      rw [f0]
      refine ⟨fun _ => ?_, fun y => absurd (by decide) y⟩
      obtain ⟨j1, j2, j3, j4, j5, j6⟩ := hj
      obtain ⟨W8, hx⟩ := hx n20 W c s hG f0
      refine am_run hX 3 _ _ _ _ ?_
      conv => whnf
      rw [c4]
      refine ⟨fun y => absurd rfl y, fun _ => ?_⟩
      refine am_run hX 2 _ _ _ _ ?_
      conv => whnf
      refine am_c0 (ct_stLL (d := 998) (M := N5) (n := n)) ?_
      refine am_run hX 10 _ _ _ _ ?_
      conv => whnf
      rw [show (llM N5 n []).1 108 19 = nI (flT Ss).length from by rw [ll_108, up_ne (by decide), up_ne (by decide), up_ne (by decide), ← hk]; exact g1]
      have hB : lyB N5 n tl k Q (cxT c) (gR s) := ⟨⟨by rw [G5.2.2.1 6 rfl]; exact h6, n20⟩, ⟨by omega, by omega⟩, fun l l4 lz => ⟨g6 f0 l l4 lz, i6.2.2.2.2.1 l, (i7.1 f0).1 l l4 lz⟩⟩
      refine am_cq (ct_layT (E := 999) (W := W) hB hT (by omega) j5 W8 (by decide)) ?_
      rintro r6 N6 ⟨rfl, M', mF, rfl⟩
      refine ⟨_, rfl, ?_⟩
      have eO : [] ++ ouF (gR s) (fun i => i) false 0 (0, 0) (flT Ss) = gO s := by
        have e1 : gO s = (jtF (gR s) (flT Ss)).map (adA (0, 0)) := j6
        have e2 : (jtF (gR s) (flT Ss)).map (adA (0, 0)) = jtF (gR s) (flT Ss) := by
          rw [List.map_congr_left (g := id) (fun x _ => adA_0 x), List.map_id]
        rw [e2] at e1
        rw [List.nil_append]
        unfold ouF ouL
        rw [← e1]
        show (gO s).map _ = gO s
        rw [List.map_congr_left (g := id) (fun x hx' => by rw [rnX_id (hx x hx'), adA_0]; rfl), List.map_id]
      rw [eO]
      have G6 : ciG n M (llM M' n (gO s)) := ciG_t G5 (ciG_t (ciG_m mF) (ciG_l M' n (gO s)))
      have L6 : lfn (llM M' n (gO s)) n (gO s) := (lay_n (gO s)).2
      have d5 : (llM M' n (gO s)).1 108 5 = 0 := by rw [ll_108, up_ne (by decide), up_ne (by decide), up_ne (by decide), mF.1 108 (by decide)]; exact c5
      generalize llM M' n (gO s) = Z at *
      refine am_run hX 4 _ _ _ _ ?_
      conv => whnf
      by_cases ok : okL (gO s)
      · rw [(L6.1 ok).1]
        refine ⟨fun _ => ?_, fun y => absurd rfl y⟩
        refine am_run hX 2 _ _ _ _ ?_
        conv => whnf
        generalize z1 : mm_i Z 108 _ = Z1
        have y1 : ciG n Z Z1 := by rw [← z1]; exact ciG_u Z _ rfl
        have x1 : rjF [4] [] Z Z1 := by rw [← z1]; exact rjF_u Z _ rfl
        have v4 : Z1.1 108 4 = 0 := by rw [← z1]; exact rj_at _ _ _
        refine am_run hX 3 _ _ _ _ ?_
        conv => whnf
        generalize z2 : mm_i Z1 108 _ = Z2
        have y2 : ciG n Z1 Z2 := by rw [← z2]; exact ciG_u Z1 _ rfl
        have x2 : rjF [2] [] Z1 Z2 := by rw [← z2]; exact rjF_u Z1 _ rfl
        have v2 : Z2.1 108 2 = 0 := by rw [← z2]; exact rj_at _ _ _
        refine am_run hX 3 _ _ _ _ ?_
        conv => whnf
        rw [x2.2.1 4 rfl, v4]
        refine ⟨fun _ => ?_, fun y => absurd rfl y⟩
        refine am_run hX 3 _ _ _ _ ?_
        conv => whnf
        generalize z3 : mm_i Z2 108 _ = Z3
        have y3 : ciG n Z2 Z3 := by rw [← z3]; exact ciG_u Z2 _ rfl
        have x3 : rjF [0] [] Z2 Z3 := by rw [← z3]; exact rjF_u Z2 _ rfl
        have v0 : Z3.1 108 0 = 0 := by rw [← z3]; exact rj_at _ _ _
        have gg : ciG n M Z3 := ciG_t G6 (ciG_t y1 (ciG_t y2 y3))
        have xx : rjF [0, 2, 4] [] Z Z3 := rjF_t (rjF_w (by decide) (by decide) x1) (rjF_t (rjF_w (by decide) (by decide) x2) (rjF_w (by decide) (by decide) x3))
        refine am_run hX 3 _ _ _ _ ?_
        conv => whnf
        refine am_c1 (ct_set (d := 998) (n := n) (W := W) (by rw [gg.2.2.1 6 rfl]; exact h6) n20) ?_
        refine am_run hX 1 _ _ _ _ ?_
        conv => whnf
        refine ⟨trivial, Or.inr (Or.inr ⟨n20, W, c, s, Z3, hG, f0, ok, rfl, gg, ⟨fun _ => ?_, fun y => absurd ok y⟩, v0, ?_, ?_, ?_, rfl⟩)⟩
        · obtain ⟨l1, l2, l3⟩ := L6.1 ok
          refine ⟨by rw [xx.2.1 38 rfl]; exact l1, by rw [xx.2.1 36 rfl]; exact l2, fun j hj => ?_⟩
          rw [xx.1 112 (by decide) rfl, xx.1 113 (by decide) rfl, xx.1 114 (by decide) rfl, xx.1 115 (by decide) rfl, xx.1 116 (by decide) rfl, xx.1 117 (by decide) rfl]
          exact l3 j hj
        · rw [x3.2.1 2 rfl]; exact v2
        · rw [x3.2.1 4 rfl, x2.2.1 4 rfl]; exact v4
        · rw [xx.2.1 5 rfl]; exact d5
      · rw [L6.2 ok]
        refine ⟨fun y => absurd y (by decide), fun _ => ?_⟩
        refine am_run hX 3 _ _ _ _ ?_
        conv => whnf
        generalize z1 : mm_i Z 108 _ = Z1
        have y1 : ciG n Z Z1 := by rw [← z1]; exact ciG_u Z _ rfl
        have x1 : rjF [4] [] Z Z1 := by rw [← z1]; exact rjF_u Z _ rfl
        have v4 : Z1.1 108 4 = 5 := by rw [← z1]; exact rj_at _ _ _
        exact bad Z1 _ (ciG_t G6 y1) (by rw [v4]; decide) rfl (fun K' g e0 e2 e4 e5 => Or.inr (Or.inl ⟨n20, rfl, g, e0, e2, Or.inr ⟨W, c, s, hG, Or.inr ⟨f0, ok, e4.trans v4, by rw [e5, x1.2.1 5 rfl]; exact d5⟩⟩⟩))
    · obtain ⟨f8, e18⟩ := i3.2.2 f0
      refine ⟨fun y => absurd y (nI_ge (a := 0) (b := cxF c % 8) (by omega) (by omega)), fun _ => ?_⟩
      refine am_run hX 4 _ _ _ _ ?_
      conv => whnf
      rw [i3.2.1]
      generalize z1 : mm_i N5 108 _ = Z1
      have y1 : ciG n N5 Z1 := by rw [← z1]; exact ciG_u N5 _ rfl
      have x1 : rjF [4] [] N5 Z1 := by rw [← z1]; exact rjF_u N5 _ rfl
      have v4 : Z1.1 108 4 = nI (cxF c % 8) := by rw [← z1]; exact rj_at _ _ _
      refine am_run hX 4 _ _ _ _ ?_
      conv => whnf
      rw [x1.2.1 18 rfl, e18]
      generalize z2 : mm_i Z1 108 _ = Z2
      have y2 : ciG n Z1 Z2 := by rw [← z2]; exact ciG_u Z1 _ rfl
      have x2 : rjF [5] [] Z1 Z2 := by rw [← z2]; exact rjF_u Z1 _ rfl
      have v5 : Z2.1 108 5 = nI (cxF c / 8) := by rw [← z2]; exact rj_at _ _ _
      have w4' : Z2.1 108 4 = nI (cxF c % 8) := by rw [x2.2.1 4 rfl]; exact v4
      refine am_run hX 3 _ _ _ _ ?_
      conv => whnf
      rw [w4']
      refine ⟨fun _ => ?_, fun y => absurd (nI_ne0 (n := cxF c % 8) (by omega) (by omega)) y⟩
      exact bad Z2 _ (ciG_t G5 (ciG_t y1 y2)) (by rw [w4']; exact nI_ne0 (n := cxF c % 8) (by omega) (by omega)) rfl (fun K' g e0 e2 e4 e5 => Or.inr (Or.inl ⟨n20, rfl, g, e0, e2, Or.inr ⟨W, c, s, hG, Or.inl ⟨f0, e4.trans w4', e5.trans v5⟩⟩⟩))
end CSN
