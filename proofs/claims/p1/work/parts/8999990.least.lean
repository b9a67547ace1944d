/-! LEAST: the second program's least, and the pair -/
def stM (D : mm_M) (n W : Nat) : mm_M := mm_i (mm_i (mm_i D 110 (upd (D.1 110) n (nI W))) 111 (upd (D.1 111) n (D.1 108 36))) 108 (upd (D.1 108) 6 (nI (n + 1)))
/-- an OP of a gate -/
noncomputable def opZ (q : Nat) : Nat → bk_X := fun j => (0, gw j q / 4, 0, lsC (gw j q), 0, 0)
section LEH
variable {d : Nat} {M : mm_M}
set_option maxRecDepth 100000 in
theorem ct_set {n W : Nat} (h6 : M.1 108 6 = nI n) (hn : n < 20) : am_M (d + 1) false nm_X12_settle [aR 108, aI (nI W)] M (am_q1 (aI (nI n)) (stM M n W)) := by
  refine ⟨rfl, rfl, rfl, fun X hX => am_run hX 40 _ _ _ _ ?_⟩
  conv => whnf
  rw [h6]
  refine ⟨vp_in_nI (by show n < 21; omega) (by decide), ?_⟩
  conv => whnf
  rw [nI_clamp (n := n) (by omega), mm_ne _ _ _ _ (by decide : (108 : Nat) ≠ 110), h6]
  refine ⟨vp_in_nI (by show n < 21; omega) (by decide), ?_⟩
  conv => whnf
  rw [nI_clamp (n := n) (by omega)]
  simp only [mm_i1, mm_ne _ _ _ _ (by decide : (108 : Nat) ≠ 110), mm_ne _ _ _ _ (by decide : (108 : Nat) ≠ 111), mm_ne _ _ _ _ (by decide : (111 : Nat) ≠ 110), h6, nI_1, up_at]
  rw [nI_s1 (n + 1) (by omega), show n + 1 - 1 = n from rfl]
  exact ⟨trivial, rfl, rfl⟩
set_option maxRecDepth 100000 in
theorem lm_s {P : am_Q} {X : am_X} {x : Nat} (hX : am_K (d + 1) false nm_X12_least P X) (hx : x < 16777216) (hK : ∀ l3, X 31 [some (aR 108), some (aI (nI x)), some (aI (nI (mtN x 8))), l3, none, none, none, none] [] M) : ∀ (m i : Nat), i + m = 8 → X 9 [some (aR 108), some (aI (nI x)), some (aI (nI (mtN x i))), some (aI (nI i)), none, none, none, none] [] M := by
  intro m
  induction m with
  | zero =>
    intro i hi
    have hi : i = 8 := by omega
    subst hi
    refine am_run hX 3 _ _ _ _ ?_
    conv => whnf
    exact ⟨fun _ => hK _, fun c => absurd (by decide) c⟩
  | succ m ih =>
    intro i hi
    have t8 := dg_lt x i
    have ih := ih (i + 1) (by omega)
    refine am_run hX 3 _ _ _ _ ?_
    conv => whnf
    refine ⟨fun c => absurd c (nI_ge (b := 8) (by omega) (by decide)), fun _ => ?_⟩
    refine am_run hX 10 _ _ _ _ ?_
    conv => whnf
    refine am_c1 (ct_goal hx (by omega)) ?_
    conv => whnf
    rw [sh2 _ (by omega), nI_or, nI_1]
    exact ih
set_option maxRecDepth 100000 in
theorem lm_t {P : am_Q} {X : am_X} {p : Int32} (hX : am_K (d + 1) false nm_X12_least P X) (hK : ∀ v l3, X 31 [some (aR 108), some (aI p), some (aI v), l3, none, none, none, none] [] M) : ∀ (m i : Nat) (v : Int32), i + m = 8 → X 9 [some (aR 108), some (aI p), some (aI v), some (aI (nI i)), none, none, none, none] [] M := by
  intro m
  induction m with
  | zero =>
    intro i v hi
    have hi : i = 8 := by omega
    subst hi
    refine am_run hX 3 _ _ _ _ ?_
    conv => whnf
    exact ⟨fun _ => hK _ _, fun c => absurd (by decide) c⟩
  | succ m ih =>
    intro i v hi
    refine am_run hX 3 _ _ _ _ ?_
    conv => whnf
    refine ⟨fun c => absurd c (nI_ge (b := 8) (by omega) (by decide)), fun _ => ?_⟩
    refine am_run hX 10 _ _ _ _ ?_
    conv => whnf
    refine am_c1 ct_goalp ?_
    conv => whnf
    rw [nI_1]
    exact ih (i + 1) _ (by omega)
set_option maxRecDepth 100000 in
theorem le_m0 {p : Int32} {n : Nat} (h6 : M.1 108 6 = nI n) (hn : n ≤ 20) (hp : npm p ∨ n = 20) : am_M (d + 2) false nm_X12_least [aR 108, aI p] M (am_q1 (aI (-1)) (th0 M)) := by
  have t6 : (th0 M).1 108 6 = nI n := by
    unfold th0
    rw [mm_i1, up_ne (by decide)]; exact h6
  refine ⟨rfl, rfl, rfl, fun X hX => am_run hX 7 _ _ _ _ ?_⟩
  conv => whnf
  show X 9 _ _ (th0 M)
  by_cases c : ∃ x, x < 16777216 ∧ p = nI x
  · have ⟨x, hx, e⟩ := c
    subst e
    refine lm_s hX hx (fun l3 => ?_) 8 0 (by omega)
    refine am_run hX 30 _ _ _ _ ?_
    conv => whnf
    rw [i24_s.mpr c]
    refine ⟨fun z => absurd rfl z, fun _ => ?_⟩
    conv => whnf
    refine ⟨fun _ => ?_, fun z => ?_⟩
    · conv => whnf
      exact ⟨trivial, rfl, rfl⟩
    · have m8 := mt_lt x 8
      have e : mtN x 8 = 255 := (nI_eq (b := 255) (by omega) (by decide)).mp (Decidable.byContradiction z)
      have n20 : n = 20 := hp.resolve_left (fun q => q ⟨x, hx, rfl, e⟩)
      conv => whnf
      rw [t6, n20]
      refine ⟨fun z => absurd rfl z, fun _ => ?_⟩
      conv => whnf
      exact ⟨trivial, rfl, rfl⟩
  · refine lm_t hX (fun v l3 => ?_) 8 0 0 (by omega)
    refine am_run hX 30 _ _ _ _ ?_
    conv => whnf
    refine ⟨fun _ => ?_, fun z => absurd (i24_s.mp (Decidable.byContradiction z)) c⟩
    conv => whnf
    exact ⟨trivial, rfl, rfl⟩
set_option maxRecDepth 100000 in
theorem lm_a {P : am_Q} {X : am_X} {x p q : Nat} {v2 : Int32} (hX : am_K (d + 2) false nm_X12_least P X) (hr : Rv p q) (h0 : dq q ≠ 0) (hf : ∀ p, isP p → M.1 193 (rkN p) = nI (dp p)) (hK : ∀ l7, X 90 [some (aR 108), some (aI (nI x)), some (aI v2), some (aI (nI p)), some (aI (nI (dp p))), some (aI (nI (c24 (gre q) + 1))), some (aI 1), l7] [] M) : ∀ (m a : Nat) (l7 : Option am_V), a + m = c24 (gre q) → X 90 [some (aR 108), some (aI (nI x)), some (aI v2), some (aI (nI p)), some (aI (nI (dp p))), some (aI (nI a)), some (aI 0), l7] [] M := by
  have hq : isP q := ⟨_, Rv_s hr⟩
  have hp : isP p := ⟨_, hr⟩
  have ⟨g12, gd, gm⟩ := gre_p hq h0
  have cl := c24_lt _ g12
  have ep := dp_q hr
  have q8 := (dq_p hq).1
  intro m
  induction m with
  | zero =>
    intro a l7 ha
    have ha : a = c24 (gre q) := by omega
    subst ha
    have ⟨g1, g2, g3⟩ := c24_p _ g12
    have al : c24 (gre q) / 2 ^ (c24 (gre q) / 8) % 2 = 0 := by
      rcases c24_a _ cl with ⟨_, z⟩ | ⟨z, _⟩
      · exact absurd rfl (z _ g12)
      · exact z
    refine am_run hX 2 _ _ _ _ ?_
    conv => whnf
    refine ⟨fun c => absurd rfl c, fun _ => ?_⟩
    refine am_run hX 8 _ _ _ _ ?_
    conv => whnf
    refine ⟨by decide, ?_⟩
    conv => whnf
    rw [nI_d8 _ cl, nI_a24 _ cl, al]
    refine ⟨fun c => absurd rfl c, fun _ => ?_⟩
    refine am_run hX 5 _ _ _ _ ?_
    conv => whnf
    refine ⟨fun c => absurd c (by decide), fun _ => ?_⟩
    refine am_run hX 16 _ _ _ _ ?_
    conv => whnf
    refine ⟨by decide, ?_⟩
    conv => whnf
    rw [nI_d8 _ cl, nI_m7, g1, g2]
    refine am_c1 (ct_beh (isP_lt hp) g12) ?_
    conv => whnf
    refine am_c1 (ct_rank (bh_lt _ _)) ?_
    conv => whnf
    have rl := rk_lt (bhN p (gre q))
    refine ⟨vp_in_nI (by show _ < 40320; omega) (by decide), ?_⟩
    conv => whnf
    rw [nI_clamp (n := rkN (bhN p (gre q))) (by omega), hf _ (isP_bh g12 hp), dp_q (Rv_g g12 hr), nI_s1 _ (by omega), ep, show dq q - 1 = dq (gaN q (gre q)) by omega]
    refine ⟨fun c => absurd rfl c, fun _ => ?_⟩
    refine am_run hX 5 _ _ _ _ ?_
    conv => whnf
    rw [nI_1, ← ep]
    exact hK _
  | succ m ih =>
    intro a l7 ha
    have a24 : a < 24 := by omega
    have nxt : ∀ l7, X 153 [some (aR 108), some (aI (nI x)), some (aI v2), some (aI (nI p)), some (aI (nI (dp p))), some (aI (nI a)), some (aI 0), l7] [] M := fun l7 => by
      refine am_run hX 4 _ _ _ _ ?_
      conv => whnf
      rw [nI_1]
      exact ih (a + 1) _ (by omega)
    refine am_run hX 2 _ _ _ _ ?_
    conv => whnf
    refine ⟨fun c => absurd rfl c, fun _ => ?_⟩
    refine am_run hX 8 _ _ _ _ ?_
    conv => whnf
    refine ⟨by decide, ?_⟩
    conv => whnf
    rw [nI_d8 _ a24, nI_a24 _ a24]
    rcases c24_a a a24 with ⟨e, ne⟩ | ⟨e, g, gl, eg⟩
    · rw [e]
      refine ⟨fun _ => ?_, fun c => absurd (by decide) c⟩
      refine am_run hX 4 _ _ _ _ ?_
      conv => whnf
      exact ⟨fun _ => nxt _, fun c => absurd rfl c⟩
    · have ⟨g1, g2, g3⟩ := c24_p _ gl
      rw [eg] at g1 g2
      have lt : g < gre q := Nat.lt_of_not_le fun z => by
        by_cases e2 : g = gre q
        · rw [e2] at eg; omega
        · have := c24_m g gl _ g12 (by omega); omega
      have dm := gm g lt
      have d8 := (dq_p (isP_ga gl hq)).1
      rw [e]
      refine ⟨fun c => absurd rfl c, fun _ => ?_⟩
      refine am_run hX 5 _ _ _ _ ?_
      conv => whnf
      refine ⟨fun c => absurd c (by decide), fun _ => ?_⟩
      refine am_run hX 16 _ _ _ _ ?_
      conv => whnf
      refine ⟨by decide, ?_⟩
      conv => whnf
      rw [nI_d8 _ a24, nI_m7, g1, g2]
      refine am_c1 (ct_beh (isP_lt hp) gl) ?_
      conv => whnf
      refine am_c1 (ct_rank (bh_lt _ _)) ?_
      conv => whnf
      have rl := rk_lt (bhN p g)
      refine ⟨vp_in_nI (by show _ < 40320; omega) (by decide), ?_⟩
      conv => whnf
      rw [nI_clamp (n := rkN (bhN p g)) (by omega), hf _ (isP_bh gl hp), dp_q (Rv_g gl hr), nI_s1 _ (by omega), ep]
      refine ⟨fun _ => ?_, fun c => absurd ((nI_eq (by omega) (by omega)).mp (Decidable.byContradiction c)) (by omega)⟩
      rw [← ep]
      exact nxt _
set_option maxRecDepth 100000 in
theorem lm_k {P : am_Q} {X : am_X} {x q n : Nat} {v2 : Int32} (hX : am_K (d + 2) false nm_X12_least P X) (hq : isP q) (h6 : M.1 108 6 = nI n) (hn : n < 20) (hf : ∀ p, isP p → M.1 193 (rkN p) = nI (dp p)) (hK : ∀ L, X 201 (some (aR 108) :: L) [] (lyM M n (opZ q) (dq q) 0)) : ∀ (m k p : Nat) (l4 l5 l6 l7 : Option am_V), k + m = dq q → Rv p (rs k q) → X 66 [some (aR 108), some (aI (nI x)), some (aI v2), some (aI (nI p)), l4, l5, l6, l7] [] (lyM M n (opZ q) k 0) := by
  have q8 := (dq_p hq).1
  intro m
  induction m with
  | zero =>
    intro k p l4 l5 l6 l7 hk hr
    have hk : k = dq q := by omega
    subst hk
    have r := rs_p hq (dq q) (Nat.le_refl _)
    have z := (dq_0 r.1).1 (by omega)
    rw [z] at hr
    have e : p = idN := Rv_u (Rv_s hr) Rv_id
    refine am_run hX 3 _ _ _ _ ?_
    conv => whnf
    refine am_c1 ct_same0 ?_
    conv => whnf
    rw [e]
    exact ⟨fun _ => hK _, fun c => absurd rfl c⟩
  | succ m ih =>
    intro k p l4 l5 l6 l7 hk hr
    have ⟨g12, p1, p2⟩ := gw_p hq (show k < dq q by omega)
    have hp : isP p := ⟨_, hr⟩
    have pl := isP_lt hp
    have ne : p ≠ idN := fun z => by
      rw [z] at hr
      have : rs k q = idN := Rv_u hr Rv_id
      have := (dq_0 p1).2 this
      omega
    have ⟨g1, g2, g3⟩ := c24_p _ g12
    have cl := c24_lt _ g12
    have r' := Rv_g g12 hr
    have ih := ih (k + 1) (bhN p (gw k q))
    rw [rs_s] at ih
    refine am_run hX 3 _ _ _ _ ?_
    conv => whnf
    refine am_c1 ct_same0 ?_
    conv => whnf
    refine ⟨fun c => absurd ((nI_eq (by omega) (by decide)).mp c) ne, fun _ => ?_⟩
    refine am_run hX 10 _ _ _ _ ?_
    conv => whnf
    refine am_c1 (ct_rank pl) ?_
    conv => whnf
    have rl := rk_lt p
    refine ⟨vp_in_nI (by show _ < 40320; omega) (by decide), ?_⟩
    conv => whnf
    rw [nI_clamp (n := rkN p) (by omega), ly_r _ _ _ _ _ (by decide) (by decide), hf p hp]
    refine lm_a (q := rs k q) hX hr (by omega) (fun p hp => by rw [ly_r _ _ _ _ _ (by decide) (by decide)]; exact hf p hp) (fun l7 => ?_) _ 0 _ (Nat.zero_add _)
    refine am_run hX 2 _ _ _ _ ?_
    conv => whnf
    refine ⟨fun _ => ?_, fun c => absurd (by decide) c⟩
    refine am_run hX 23 _ _ _ _ ?_
    conv => whnf
    have g1 : c24 (gre (rs k q)) / 8 = gw k q / 4 := g1
    have g2 : c24 (gre (rs k q)) % 8 = lsC (gw k q) := g2
    have cl : c24 (gre (rs k q)) < 24 := cl
    rw [nI_m1']
    refine ⟨by decide, ?_⟩
    conv => whnf
    rw [nI_d8 _ cl, nI_m7, g1, g2]
    have lay := ct_lay (d := d + 1) (M := M) (n := n) (k := k) (h := 0) (Z := opZ q) h6 hn (by omega) (by decide)
    rw [if_neg (show ¬ nI (opZ q k).1 = 3 from by show ¬ nI 0 = 3; decide)] at lay
    refine am_c0 lay ?_
    conv => whnf
    refine ⟨by decide, ?_⟩
    conv => whnf
    rw [nI_d8 _ cl, nI_m7, g1, g2]
    refine am_c1 (ct_beh pl g12) ?_
    conv => whnf
    exact ih _ _ _ _ (by omega) r'
set_option maxRecDepth 100000 in
theorem le_m1 {x n : Nat} (hx : x < 16777216) (h255 : mtN x 8 = 255) (h6 : M.1 108 6 = nI n) (hn : n < 20) (hf : le_f M) : am_M (d + 4) false nm_X12_least [aR 108, aI (nI x)] M (fun r M' => r = .inl (some (aI (nI n))) ∧ ∃ f l, (∀ p, isP p → f (rkN p) = nI (dp p)) ∧ M' = stM (lyM (faM (th0 M) f l) n (opZ (ivN x 8)) (dq (ivN x 8)) 0) n 3) := by
  have hr := iv_R hx h255
  have hq : isP (ivN x 8) := ⟨_, Rv_s hr⟩
  generalize ivN x 8 = q at *
  have t6 : (th0 M).1 108 6 = nI n := by
    unfold th0
    rw [mm_i1, up_ne (by decide)]; exact h6
  have tf : le_f (th0 M) := by
    unfold le_f th0
    rw [mm_i1, up_ne (by decide), mm_ne _ _ _ _ (by decide)]; exact hf
  refine ⟨rfl, rfl, rfl, fun X hX => am_run hX 7 _ _ _ _ ?_⟩
  conv => whnf
  show X 9 _ _ (th0 M)
  refine lm_s (d := d + 2) hX hx (fun l3 => ?_) 8 0 (by omega)
  refine am_run hX 4 _ _ _ _ ?_
  conv => whnf
  rw [i24_s.mpr ⟨x, hx, rfl⟩, h255]
  refine ⟨fun z => absurd rfl z, fun _ => ?_⟩
  refine am_run hX 3 _ _ _ _ ?_
  conv => whnf
  refine ⟨fun z => absurd rfl z, fun _ => ?_⟩
  refine am_run hX 4 _ _ _ _ ?_
  conv => whnf
  rw [t6]
  refine ⟨fun _ => ?_, fun c => absurd ((nI_eq (b := 20) (by omega) (by decide)).mp (Decidable.byContradiction c)) (by omega)⟩
  refine am_run hX 6 _ _ _ _ ?_
  conv => whnf
  refine am_cq (ct_far (d := d) tf) (fun r M' z => ?_)
  obtain ⟨rfl, f, l, rfl, hf2⟩ := z
  refine ⟨_, rfl, ?_⟩
  conv => whnf
  refine am_c0 (ct_stL (n := n) (Z := opZ q)) ?_
  conv => whnf
  have f6 : (faM (th0 M) f l).1 108 6 = nI n := by
    unfold faM
    rw [mm_ne _ _ _ _ (by decide), mm_ne _ _ _ _ (by decide), mm_i1, up_ne (by decide)]; exact t6
  refine lm_k (d := d + 1) hX hq f6 hn (fun p hp => by rw [fa_3]; exact hf2 p hp) (fun L => ?_) (dq q) 0 x _ _ _ _ (by omega) hr
  refine am_run hX 10 _ _ _ _ ?_
  conv => whnf
  refine am_c1 (ct_set (n := n) (W := 3) (by rw [ly_108]; exact f6) hn) ?_
  conv => whnf
  exact ⟨trivial, rfl, f, l, hf2, rfl⟩
theorem kp_r (D : mm_M) (n k W : Nat) {c : Nat} (h : ¬ (9 ≤ c ∧ c ≤ 12)) : (kpM D n k W).1 c = D.1 c := by
  unfold kpM
  rw [mm_ne _ _ _ _ (by omega), mm_ne _ _ _ _ (by omega), mm_ne _ _ _ _ (by omega), mm_ne _ _ _ _ (by omega)]
end LEH
/-- what both leave behind: n circuits, k OPS -/
def leM (M : mm_M) (n k : Nat) (F : Nat → Int32) (Z : Nat → bk_X) (f p f2 l : Nat → Int32) : mm_M := stM (lyM (faM (th0 (kpM (drM (mm_i (mm_i M 78 f) 73 p) F k) n k 3)) f2 l) n Z k 0) n 3
section LEP
variable {ac : Nat → ClassId} {lo : Nat} {ad as : Nat → Nat} {b L : Nat} {xs : Nat → Int32} {hp : mm_M → Nat → xm_H} {I J : mm_M → Prop}
theorem pr_least (H : mm_L ac lo hp) (h1 : ∀ M, I M → (∃ n, bk_iv M n) ∧ le_t M ∧ le_f M) (hJ0 : ∀ M, I M → J (th0 M)) (hJ : ∀ M n k F Z f p f2 l T, I M → bk_iv M n → n < 20 → k ≤ 8 → (∀ j, j < k → F j = nI (bk_p (Z j)) ∧ bk_w 3 (Z j)) → trr f T → tl T → (∀ p, isP p → f2 (rkN p) = nI (dp p)) → J (leM M n k F Z f p f2 l)) (p : Int32) : la_I ac lo ad as b L xs hp I J nm_X11_least nm_X12_least [.int p] := by
  refine am_la_I (us := [aI p]) H fun M hI => ?_
  obtain ⟨⟨n, h⟩, ht, hf⟩ := h1 M hI
  have hJ0 := hJ0 M hI
  have hn := h.1
  by_cases c : npm p ∨ n = 20
  · refine am_wk (le_x0 (d := 998) h.2.1 hn c) fun r M1 e => ⟨-1, e.1, ?_⟩
    rw [e.2]
    exact am_wk (le_m0 (d := 998) h.2.2.1 hn c) fun r M1 e => ⟨e.1, by rw [e.2]; exact hJ0⟩
  · have c1 : ¬ npm p := fun z => c (.inl z)
    have c2 : n < 20 := by
      have : n ≠ 20 := fun z => c (.inr z)
      omega
    have ⟨x, hx, e, h255⟩ := Decidable.byContradiction c1
    subst e
    have hr := iv_R hx h255
    have hq : isP (ivN x 8) := ⟨_, Rv_s hr⟩
    have q8 := (dq_p hq).1
    have lx := le_x1 (d := 990) (F := fun j => nI (opN (gw j (ivN x 8)))) hx h255 h.2.1 c2 ht (fun _ _ => rfl)
    refine am_wk lx fun r M1 e => ⟨nI n, e.1, ?_⟩
    obtain ⟨_, f, p, T, t1, t2, rfl⟩ := e
    have e6 : (kpM (drM (mm_i (mm_i M 78 f) 73 p) (fun j => nI (opN (gw j (ivN x 8)))) (dq (ivN x 8))) n (dq (ivN x 8)) 3).1 108 = M.1 108 := by
      rw [kp_r _ _ _ _ (by decide), dr_r _ _ _ (by decide) (by decide), mm_ne _ _ _ _ (by decide), mm_ne _ _ _ _ (by decide)]
    have e193 : (kpM (drM (mm_i (mm_i M 78 f) 73 p) (fun j => nI (opN (gw j (ivN x 8)))) (dq (ivN x 8))) n (dq (ivN x 8)) 3).1 193 = M.1 193 := by
      rw [kp_r _ _ _ _ (by decide), dr_r _ _ _ (by decide) (by decide), mm_ne _ _ _ _ (by decide), mm_ne _ _ _ _ (by decide)]
    refine am_wk (le_m1 (d := 996) hx h255 (by rw [e6]; exact h.2.2.1) c2 (by unfold le_f; rw [e6, e193]; exact hf)) fun r M2 e => ⟨e.1, ?_⟩
    obtain ⟨_, f2, l, hf2, rfl⟩ := e
    refine hJ M n (dq (ivN x 8)) (fun j => nI (opN (gw j (ivN x 8)))) (opZ (ivN x 8)) f p f2 l T hI h c2 q8 (fun j hj => ?_) t1 t2 hf2
    have g12 := (gw_p hq hj).1
    have c8 := cg_8 _ g12
    refine ⟨?_, ?_⟩
    · show nI (opN (gw j (ivN x 8))) = nI (0 + 16 * (gw j (ivN x 8) / 4) + 128 * 0 + 1024 * lsC (gw j (ivN x 8)) + 262144 * 0 + 4194304 * 0)
      unfold opN
      congr 1
      omega
    · exact ⟨by show 0 ≤ 10; decide, by show _ / 4 < 3; omega, by show 0 < 8; decide, c8, by show 0 < 16; decide, by show 0 < 16; decide⟩
end LEP
