/-! THE CLASS'S GATES ON THE TWO ROWS OF equal -/
section EQO
variable {d : Nat} {M : mm_M} {g : Nat → Int64}
set_option maxRecDepth 100000 in
theorem sw_b35 {P : am_Q} {X : am_X} {N i j p : Nat} {xs : Nat → R4} (hX : am_K d false nm_X6_swap P X) (hN : N ≤ 32) (hi : i < N) (hj : j < N) (hp : p < 4) (hK : ∀ l4 l5, X 2 [some (aR 33), some (aI (nI (4 * i))), some (aI (nI (4 * j))), some (aI (nI (p + 1))), l4, l5] [] (mm_l M 35 (cq g N (sw1p xs i j p)))) (l4 l5 : Option am_V) : X 2 [some (aR 33), some (aI (nI (4 * i))), some (aI (nI (4 * j))), some (aI (nI p)), l4, l5] [] (mm_l M 35 (cq g N xs)) := by
  refine am_run hX 3 _ _ _ _ ?_
  conv => whnf
  refine ⟨fun c => absurd c (nI_ge (a := p) (b := 4) hp (by decide)), fun _ => ?_⟩
  refine am_run hX 28 _ _ _ _ ?_
  conv => whnf
  rw [nI_add]
  refine ⟨vp_in_nI (by show _ < 128; omega) (by decide), ?_⟩
  conv => whnf
  rw [nI_add]
  refine ⟨vp_in_nI (by show _ < 128; omega) (by decide), ?_⟩
  conv => whnf
  rw [nI_add]
  refine ⟨vp_in_nI (by show _ < 128; omega) (by decide), ?_⟩
  conv => whnf
  rw [nI_add]
  refine ⟨vp_in_nI (by show _ < 128; omega) (by decide), ?_⟩
  conv => whnf
  rw [nI_clamp (n := 4 * i + p) (by omega), nI_clamp (n := 4 * j + p) (by omega), nI_1]
  simp only [mm_l2, mm_ll, cq_at hi hp, cq_at hj hp, cq_u _ hi hp, cq_u _ hj hp]
  exact hK _ _
set_option maxRecDepth 100000 in
theorem ct_swap35 {N i j : Nat} {xs : Nat → R4} (hN : N ≤ 32) (hi : i < N) (hj : j < N) (hij : i ≠ j) : am_M (d + 1) false nm_X6_swap [aR 33, aI (nI (4 * i)), aI (nI (4 * j))] (mm_l M 35 (cq g N xs)) (am_q0 (mm_l M 35 (cq g N (swp xs i j)))) := by
  refine ⟨rfl, rfl, rfl, fun X hX => am_run hX 2 _ _ _ _ ?_⟩
  conv => whnf
  refine sw_b35 (p := 0) hX hN hi hj (by decide) (sw_b35 (p := 1) hX hN hi hj (by decide) (sw_b35 (p := 2) hX hN hi hj (by decide) (sw_b35 (p := 3) hX hN hi hj (by decide) ?_))) _ _
  intro l4 l5
  rw [sw_4 xs hij]
  refine am_run hX 10 _ _ _ _ ?_
  conv => whnf
  refine ⟨fun _ => ?_, fun c => absurd (by decide) c⟩
  conv => whnf
  exact ⟨trivial, rfl, rfl⟩
set_option maxRecDepth 100000 in
theorem ex_l35 {P : am_Q} {X : am_X} {N c : Nat} {mk v : Int32} {xs : Nat → R4} (hX : am_K (d + 1) false nm_X6_exchange P X) (hN : N ≤ 32) (hs : M.1 33 2 = nI N) (hc : ∀ i, i < N → nI i &&& mk = v → i ^^^ c < N ∧ ¬ nI (i ^^^ c) &&& mk = v) (hP : P (.inl none) (mm_l M 35 (cq g N (exm (fun i => nI i &&& mk = v) c xs N)))) : ∀ (m i : Nat), i + m = N → X 3 [some (aR 33), some (aI mk), some (aI v), some (aI (nI c)), some (aI (nI i))] [] (mm_l M 35 (cq g N (exm (fun i => nI i &&& mk = v) c xs i))) := by
  intro m
  induction m with
  | zero =>
    intro i hi
    have hi : i = N := by omega
    subst hi
    refine am_run hX 10 _ _ _ _ ?_
    conv => whnf
    rw [show (mm_l M 35 (cq g i (exm (fun i => nI i &&& mk = v) c xs i))).1 33 2 = nI i from hs]
    refine ⟨fun _ => ?_, fun c => absurd (nI_le (by omega) (by omega)) c⟩
    conv => whnf
    exact ⟨trivial, hP⟩
  | succ m ih =>
    intro i hi
    have ih := ih (i + 1) (by omega)
    refine am_run hX 4 _ _ _ _ ?_
    conv => whnf
    rw [show (mm_l M 35 (cq g N (exm (fun i => nI i &&& mk = v) c xs i))).1 33 2 = nI N from hs]
    refine ⟨fun c => absurd c (nI_ge (by omega) (by omega)), fun _ => ?_⟩
    refine am_run hX 5 _ _ _ _ ?_
    conv => whnf
    refine ⟨fun q => ?_, fun q => ?_⟩
    · refine am_run hX 2 _ _ _ _ ?_
      conv => whnf
      rw [nI_1]
      rw [← exm_n (S := fun i => nI i &&& mk = v) q] at ih
      exact ih
    · have q : nI i &&& mk = v := Decidable.byContradiction q
      obtain ⟨h1, h2⟩ := hc i (by omega) q
      refine am_run hX 12 _ _ _ _ ?_
      conv => whnf
      rw [nI_xor, show (4 : Int32) = nI 4 from rfl, nI_mul, nI_mul]
      refine am_c0 (ct_swap35 (d := d) hN (by omega) h1 (fun e => h2 (by rw [← e]; exact q))) ?_
      rw [exm_s (S := fun i => nI i &&& mk = v) q h2]
      conv => whnf
      rw [nI_1]
      exact ih
set_option maxRecDepth 100000 in
theorem ct_exch35 {N c : Nat} {mk v : Int32} {xs : Nat → R4} (hN : N ≤ 32) (hs : M.1 33 2 = nI N) (hc : ∀ i, i < N → nI i &&& mk = v → i ^^^ c < N ∧ ¬ nI (i ^^^ c) &&& mk = v) : am_M (d + 2) false nm_X6_exchange [aR 33, aI mk, aI v, aI (nI c)] (mm_l M 35 (cq g N xs)) (am_q0 (mm_l M 35 (cq g N (exm (fun i => nI i &&& mk = v) c xs N)))) := by
  refine ⟨rfl, rfl, rfl, fun X hX => am_run hX 2 _ _ _ _ ?_⟩
  conv => whnf
  have key := ex_l35 (d := d) (M := M) (g := g) (xs := xs) hX hN hs hc ⟨rfl, rfl⟩ N 0 (by omega)
  rw [exm_0] at key
  exact key
set_option maxRecDepth 100000 in
theorem ro_l35 {P : am_Q} {X : am_X} {N k e : Nat} {xs : Nat → R4} {F : R4} (hX : am_K d false nm_X6_rotateOne P X) (hN : N ≤ 32) (hk : k < N) (he : e < 8) (hK : ∀ l4 l5, X 80 [some (aR 33), some (aI (nI (4 * k))), some (aI (nI e)), some (aI (nI (e % 4))), l4, l5] [] (mm_l M 35 (cq g N (stx xs k F)))) : ∀ (m i : Nat) (x : R4), i + m = e % 4 → t8n m x = F → ∀ l4 l5, X 2 [some (aR 33), some (aI (nI (4 * k))), some (aI (nI e)), some (aI (nI i)), l4, l5] [] (mm_l M 35 (cq g N (stx xs k x))) := by
  have h3 : nI e &&& 3 = nI (e % 4) := a3 e (by omega)
  have e1 : nI (4 * k) + 1 = nI (4 * k + 1) := nI_1 _
  have e2 : nI (4 * k) + 2 = nI (4 * k + 2) := by rw [show (2 : Int32) = nI 2 from rfl, nI_add]
  have e3 : nI (4 * k) + 3 = nI (4 * k + 3) := by rw [show (3 : Int32) = nI 3 from rfl, nI_add]
  intro m
  induction m with
  | zero =>
    intro i x hi hF l4 l5
    have hi : i = e % 4 := by omega
    subst hi
    subst hF
    refine am_run hX 5 _ _ _ _ ?_
    conv => whnf
    rw [h3]
    exact ⟨fun _ => hK _ _, fun c => absurd (nI_le (by omega) (by omega)) c⟩
  | succ m ih =>
    intro i x hi hF l4 l5
    refine am_run hX 5 _ _ _ _ ?_
    conv => whnf
    rw [h3]
    refine ⟨fun c => absurd c (nI_ge (by omega) (by omega)), fun _ => ?_⟩
    refine am_run hX 49 _ _ _ _ ?_
    conv => whnf
    rw [e3]
    refine ⟨vp_in_nI (by show _ < 128; omega) (by decide), ?_⟩
    conv => whnf
    rw [e2]
    refine ⟨vp_in_nI (by show _ < 128; omega) (by decide), ?_⟩
    conv => whnf
    rw [e3]
    refine ⟨vp_in_nI (by show _ < 128; omega) (by decide), ?_⟩
    conv => whnf
    rw [e1]
    refine ⟨vp_in_nI (by show _ < 128; omega) (by decide), ?_⟩
    conv => whnf
    rw [e2]
    refine ⟨vp_in_nI (by show _ < 128; omega) (by decide), ?_⟩
    conv => whnf
    refine ⟨vp_in_nI (by show _ < 128; omega) (by decide), ?_⟩
    conv => whnf
    rw [e1]
    refine ⟨vp_in_nI (by show _ < 128; omega) (by decide), ?_⟩
    conv => whnf
    refine ⟨vp_in_nI (by show _ < 128; omega) (by decide), ?_⟩
    conv => whnf
    rw [nI_clamp (n := 4 * k) (by omega), nI_clamp (n := 4 * k + 1) (by omega), nI_clamp (n := 4 * k + 2) (by omega), nI_clamp (n := 4 * k + 3) (by omega), nI_1]
    simp only [mm_l2, mm_ll, cq_at hk (show 3 < 4 by decide), cq_at hk (show 2 < 4 by decide), cq_at hk (show 1 < 4 by decide), cq_at0 hk, cq_u _ hk (show 3 < 4 by decide), cq_u _ hk (show 2 < 4 by decide), cq_u _ hk (show 1 < 4 by decide), cq_u0 _ hk, lI_neg, stp_x, stx_at]
    exact ih (i + 1) (t8 x) (by omega) (by rw [← hF, t8n_a x m 1]; rfl) _ _
set_option maxRecDepth 100000 in
theorem rn_b35 {P : am_Q} {X : am_X} {N k e p : Nat} {xs : Nat → R4} {x : R4} (hX : am_K d false nm_X6_rotateOne P X) (hN : N ≤ 32) (hk : k < N) (hp : p < 4) (hK : ∀ l4 l5, X 87 [some (aR 33), some (aI (nI (4 * k))), some (aI (nI e)), some (aI (nI (p + 1))), l4, l5] [] (mm_l M 35 (cq g N (stx xs k (sp x p (- pp x p)))))) (l4 l5 : Option am_V) : X 87 [some (aR 33), some (aI (nI (4 * k))), some (aI (nI e)), some (aI (nI p)), l4, l5] [] (mm_l M 35 (cq g N (stx xs k x))) := by
  refine am_run hX 3 _ _ _ _ ?_
  conv => whnf
  refine ⟨fun c => absurd c (nI_ge (a := p) (b := 4) hp (by decide)), fun _ => ?_⟩
  refine am_run hX 15 _ _ _ _ ?_
  conv => whnf
  rw [nI_add]
  refine ⟨vp_in_nI (by show _ < 128; omega) (by decide), ?_⟩
  conv => whnf
  refine ⟨vp_in_nI (by show _ < 128; omega) (by decide), ?_⟩
  conv => whnf
  rw [nI_clamp (n := 4 * k + p) (by omega), nI_1]
  simp only [mm_l2, mm_ll, cq_at hk hp, cq_u _ hk hp, lI_neg, stp_x, stx_at]
  exact hK _ _
set_option maxRecDepth 100000 in
theorem ct_rot135 {N k e : Nat} {xs : Nat → R4} (hN : N ≤ 32) (hk : k < N) (he : e < 8) : am_M (d + 1) false nm_X6_rotateOne [aR 33, aI (nI (4 * k)), aI (nI e)] (mm_l M 35 (cq g N xs)) (am_q0 (mm_l M 35 (cq g N (stx xs k (t8n e (xs k)))))) := by
  refine ⟨rfl, rfl, rfl, fun X hX => am_run hX 2 _ _ _ _ ?_⟩
  conv => whnf
  have key := ro_l35 (M := M) (g := g) (xs := xs) (F := t8n (e % 4) (xs k)) hX hN hk he ?_ (e % 4) 0 (xs k) (by omega) rfl
  · rw [stx_z] at key
    exact key _ _
  · intro l4 l5
    refine am_run hX 3 _ _ _ _ ?_
    conv => whnf
    by_cases h4 : e < 4
    · refine ⟨fun _ => ?_, fun c => absurd (nI_lt (a := e) (b := 4) h4 (by decide)) c⟩
      refine am_run hX 2 _ _ _ _ ?_
      conv => whnf
      rw [Nat.mod_eq_of_lt h4]
      exact ⟨trivial, rfl, rfl⟩
    · refine ⟨fun c => absurd c (nI_nlt (a := e) (b := 4) (by omega) (by omega)), fun _ => ?_⟩
      refine am_run hX 2 _ _ _ _ ?_
      conv => whnf
      refine rn_b35 (p := 0) hX hN hk (by decide) (rn_b35 (p := 1) hX hN hk (by decide) (rn_b35 (p := 2) hX hN hk (by decide) (rn_b35 (p := 3) hX hN hk (by decide) ?_))) _ _
      intro l4 l5
      refine am_run hX 10 _ _ _ _ ?_
      conv => whnf
      refine ⟨fun _ => ?_, fun c => absurd (by decide) c⟩
      conv => whnf
      refine ⟨trivial, rfl, ?_⟩
      rw [show t8n e (xs k) = ng (t8n (e % 4) (xs k)) from by
        conv => lhs; rw [show e = 4 + e % 4 by omega, t8n_a]
        rfl]
      rfl
set_option maxRecDepth 100000 in
theorem rt_l35 {P : am_Q} {X : am_X} {N e : Nat} {mk v : Int32} {xs : Nat → R4} (hX : am_K (d + 1) false nm_X6_rotate P X) (hN : N ≤ 32) (hs : M.1 33 2 = nI N) (he : e < 8) (hP : P (.inl none) (mm_l M 35 (cq g N (rotm (fun i => nI i &&& mk = v) (t8n e) xs N)))) : ∀ (m i : Nat), i + m = N → X 3 [some (aR 33), some (aI mk), some (aI v), some (aI (nI e)), some (aI (nI i))] [] (mm_l M 35 (cq g N (rotm (fun i => nI i &&& mk = v) (t8n e) xs i))) := by
  intro m
  induction m with
  | zero =>
    intro i hi
    have hi : i = N := by omega
    subst hi
    refine am_run hX 10 _ _ _ _ ?_
    conv => whnf
    rw [show (mm_l M 35 (cq g i (rotm (fun i => nI i &&& mk = v) (t8n e) xs i))).1 33 2 = nI i from hs]
    refine ⟨fun _ => ?_, fun c => absurd (nI_le (by omega) (by omega)) c⟩
    conv => whnf
    exact ⟨trivial, hP⟩
  | succ m ih =>
    intro i hi
    have ih := ih (i + 1) (by omega)
    refine am_run hX 4 _ _ _ _ ?_
    conv => whnf
    rw [show (mm_l M 35 (cq g N (rotm (fun i => nI i &&& mk = v) (t8n e) xs i))).1 33 2 = nI N from hs]
    refine ⟨fun c => absurd c (nI_ge (by omega) (by omega)), fun _ => ?_⟩
    refine am_run hX 5 _ _ _ _ ?_
    conv => whnf
    refine ⟨fun q => ?_, fun q => ?_⟩
    · refine am_run hX 2 _ _ _ _ ?_
      conv => whnf
      rw [nI_1]
      rw [← rot_n (S := fun i => nI i &&& mk = v) q] at ih
      exact ih
    · have q : nI i &&& mk = v := Decidable.byContradiction q
      refine am_run hX 8 _ _ _ _ ?_
      conv => whnf
      rw [show (4 : Int32) = nI 4 from rfl, nI_mul]
      refine am_c0 (ct_rot135 (d := d) hN (by omega) he) ?_
      rw [rot_at, rot_s (S := fun i => nI i &&& mk = v) q]
      conv => whnf
      rw [nI_1]
      exact ih
set_option maxRecDepth 100000 in
theorem ct_rot35 {N e : Nat} {mk v : Int32} {xs : Nat → R4} (hN : N ≤ 32) (hs : M.1 33 2 = nI N) (he : e < 8) : am_M (d + 2) false nm_X6_rotate [aR 33, aI mk, aI v, aI (nI e)] (mm_l M 35 (cq g N xs)) (am_q0 (mm_l M 35 (cq g N (rotm (fun i => nI i &&& mk = v) (t8n e) xs N)))) := by
  refine ⟨rfl, rfl, rfl, fun X hX => am_run hX 2 _ _ _ _ ?_⟩
  conv => whnf
  have key := rt_l35 (d := d) (M := M) (g := g) (xs := xs) (mk := mk) (v := v) hX hN hs he ⟨rfl, rfl⟩ N 0 (by omega)
  rw [rot_0] at key
  exact key
set_option maxRecDepth 100000 in
theorem sw_b38 {P : am_Q} {X : am_X} {N i j p : Nat} {xs : Nat → R4} (hX : am_K d false nm_X6_swap P X) (hN : N ≤ 32) (hi : i < N) (hj : j < N) (hp : p < 4) (hK : ∀ l4 l5, X 2 [some (aR 36), some (aI (nI (4 * i))), some (aI (nI (4 * j))), some (aI (nI (p + 1))), l4, l5] [] (mm_l M 38 (cq g N (sw1p xs i j p)))) (l4 l5 : Option am_V) : X 2 [some (aR 36), some (aI (nI (4 * i))), some (aI (nI (4 * j))), some (aI (nI p)), l4, l5] [] (mm_l M 38 (cq g N xs)) := by
  refine am_run hX 3 _ _ _ _ ?_
  conv => whnf
  refine ⟨fun c => absurd c (nI_ge (a := p) (b := 4) hp (by decide)), fun _ => ?_⟩
  refine am_run hX 28 _ _ _ _ ?_
  conv => whnf
  rw [nI_add]
  refine ⟨vp_in_nI (by show _ < 128; omega) (by decide), ?_⟩
  conv => whnf
  rw [nI_add]
  refine ⟨vp_in_nI (by show _ < 128; omega) (by decide), ?_⟩
  conv => whnf
  rw [nI_add]
  refine ⟨vp_in_nI (by show _ < 128; omega) (by decide), ?_⟩
  conv => whnf
  rw [nI_add]
  refine ⟨vp_in_nI (by show _ < 128; omega) (by decide), ?_⟩
  conv => whnf
  rw [nI_clamp (n := 4 * i + p) (by omega), nI_clamp (n := 4 * j + p) (by omega), nI_1]
  simp only [mm_l2, mm_ll, cq_at hi hp, cq_at hj hp, cq_u _ hi hp, cq_u _ hj hp]
  exact hK _ _
set_option maxRecDepth 100000 in
theorem ct_swap38 {N i j : Nat} {xs : Nat → R4} (hN : N ≤ 32) (hi : i < N) (hj : j < N) (hij : i ≠ j) : am_M (d + 1) false nm_X6_swap [aR 36, aI (nI (4 * i)), aI (nI (4 * j))] (mm_l M 38 (cq g N xs)) (am_q0 (mm_l M 38 (cq g N (swp xs i j)))) := by
  refine ⟨rfl, rfl, rfl, fun X hX => am_run hX 2 _ _ _ _ ?_⟩
  conv => whnf
  refine sw_b38 (p := 0) hX hN hi hj (by decide) (sw_b38 (p := 1) hX hN hi hj (by decide) (sw_b38 (p := 2) hX hN hi hj (by decide) (sw_b38 (p := 3) hX hN hi hj (by decide) ?_))) _ _
  intro l4 l5
  rw [sw_4 xs hij]
  refine am_run hX 10 _ _ _ _ ?_
  conv => whnf
  refine ⟨fun _ => ?_, fun c => absurd (by decide) c⟩
  conv => whnf
  exact ⟨trivial, rfl, rfl⟩
set_option maxRecDepth 100000 in
theorem ex_l38 {P : am_Q} {X : am_X} {N c : Nat} {mk v : Int32} {xs : Nat → R4} (hX : am_K (d + 1) false nm_X6_exchange P X) (hN : N ≤ 32) (hs : M.1 36 2 = nI N) (hc : ∀ i, i < N → nI i &&& mk = v → i ^^^ c < N ∧ ¬ nI (i ^^^ c) &&& mk = v) (hP : P (.inl none) (mm_l M 38 (cq g N (exm (fun i => nI i &&& mk = v) c xs N)))) : ∀ (m i : Nat), i + m = N → X 3 [some (aR 36), some (aI mk), some (aI v), some (aI (nI c)), some (aI (nI i))] [] (mm_l M 38 (cq g N (exm (fun i => nI i &&& mk = v) c xs i))) := by
  intro m
  induction m with
  | zero =>
    intro i hi
    have hi : i = N := by omega
    subst hi
    refine am_run hX 10 _ _ _ _ ?_
    conv => whnf
    rw [show (mm_l M 38 (cq g i (exm (fun i => nI i &&& mk = v) c xs i))).1 36 2 = nI i from hs]
    refine ⟨fun _ => ?_, fun c => absurd (nI_le (by omega) (by omega)) c⟩
    conv => whnf
    exact ⟨trivial, hP⟩
  | succ m ih =>
    intro i hi
    have ih := ih (i + 1) (by omega)
    refine am_run hX 4 _ _ _ _ ?_
    conv => whnf
    rw [show (mm_l M 38 (cq g N (exm (fun i => nI i &&& mk = v) c xs i))).1 36 2 = nI N from hs]
    refine ⟨fun c => absurd c (nI_ge (by omega) (by omega)), fun _ => ?_⟩
    refine am_run hX 5 _ _ _ _ ?_
    conv => whnf
    refine ⟨fun q => ?_, fun q => ?_⟩
    · refine am_run hX 2 _ _ _ _ ?_
      conv => whnf
      rw [nI_1]
      rw [← exm_n (S := fun i => nI i &&& mk = v) q] at ih
      exact ih
    · have q : nI i &&& mk = v := Decidable.byContradiction q
      obtain ⟨h1, h2⟩ := hc i (by omega) q
      refine am_run hX 12 _ _ _ _ ?_
      conv => whnf
      rw [nI_xor, show (4 : Int32) = nI 4 from rfl, nI_mul, nI_mul]
      refine am_c0 (ct_swap38 (d := d) hN (by omega) h1 (fun e => h2 (by rw [← e]; exact q))) ?_
      rw [exm_s (S := fun i => nI i &&& mk = v) q h2]
      conv => whnf
      rw [nI_1]
      exact ih
set_option maxRecDepth 100000 in
theorem ct_exch38 {N c : Nat} {mk v : Int32} {xs : Nat → R4} (hN : N ≤ 32) (hs : M.1 36 2 = nI N) (hc : ∀ i, i < N → nI i &&& mk = v → i ^^^ c < N ∧ ¬ nI (i ^^^ c) &&& mk = v) : am_M (d + 2) false nm_X6_exchange [aR 36, aI mk, aI v, aI (nI c)] (mm_l M 38 (cq g N xs)) (am_q0 (mm_l M 38 (cq g N (exm (fun i => nI i &&& mk = v) c xs N)))) := by
  refine ⟨rfl, rfl, rfl, fun X hX => am_run hX 2 _ _ _ _ ?_⟩
  conv => whnf
  have key := ex_l38 (d := d) (M := M) (g := g) (xs := xs) hX hN hs hc ⟨rfl, rfl⟩ N 0 (by omega)
  rw [exm_0] at key
  exact key
set_option maxRecDepth 100000 in
theorem ro_l38 {P : am_Q} {X : am_X} {N k e : Nat} {xs : Nat → R4} {F : R4} (hX : am_K d false nm_X6_rotateOne P X) (hN : N ≤ 32) (hk : k < N) (he : e < 8) (hK : ∀ l4 l5, X 80 [some (aR 36), some (aI (nI (4 * k))), some (aI (nI e)), some (aI (nI (e % 4))), l4, l5] [] (mm_l M 38 (cq g N (stx xs k F)))) : ∀ (m i : Nat) (x : R4), i + m = e % 4 → t8n m x = F → ∀ l4 l5, X 2 [some (aR 36), some (aI (nI (4 * k))), some (aI (nI e)), some (aI (nI i)), l4, l5] [] (mm_l M 38 (cq g N (stx xs k x))) := by
  have h3 : nI e &&& 3 = nI (e % 4) := a3 e (by omega)
  have e1 : nI (4 * k) + 1 = nI (4 * k + 1) := nI_1 _
  have e2 : nI (4 * k) + 2 = nI (4 * k + 2) := by rw [show (2 : Int32) = nI 2 from rfl, nI_add]
  have e3 : nI (4 * k) + 3 = nI (4 * k + 3) := by rw [show (3 : Int32) = nI 3 from rfl, nI_add]
  intro m
  induction m with
  | zero =>
    intro i x hi hF l4 l5
    have hi : i = e % 4 := by omega
    subst hi
    subst hF
    refine am_run hX 5 _ _ _ _ ?_
    conv => whnf
    rw [h3]
    exact ⟨fun _ => hK _ _, fun c => absurd (nI_le (by omega) (by omega)) c⟩
  | succ m ih =>
    intro i x hi hF l4 l5
    refine am_run hX 5 _ _ _ _ ?_
    conv => whnf
    rw [h3]
    refine ⟨fun c => absurd c (nI_ge (by omega) (by omega)), fun _ => ?_⟩
    refine am_run hX 49 _ _ _ _ ?_
    conv => whnf
    rw [e3]
    refine ⟨vp_in_nI (by show _ < 128; omega) (by decide), ?_⟩
    conv => whnf
    rw [e2]
    refine ⟨vp_in_nI (by show _ < 128; omega) (by decide), ?_⟩
    conv => whnf
    rw [e3]
    refine ⟨vp_in_nI (by show _ < 128; omega) (by decide), ?_⟩
    conv => whnf
    rw [e1]
    refine ⟨vp_in_nI (by show _ < 128; omega) (by decide), ?_⟩
    conv => whnf
    rw [e2]
    refine ⟨vp_in_nI (by show _ < 128; omega) (by decide), ?_⟩
    conv => whnf
    refine ⟨vp_in_nI (by show _ < 128; omega) (by decide), ?_⟩
    conv => whnf
    rw [e1]
    refine ⟨vp_in_nI (by show _ < 128; omega) (by decide), ?_⟩
    conv => whnf
    refine ⟨vp_in_nI (by show _ < 128; omega) (by decide), ?_⟩
    conv => whnf
    rw [nI_clamp (n := 4 * k) (by omega), nI_clamp (n := 4 * k + 1) (by omega), nI_clamp (n := 4 * k + 2) (by omega), nI_clamp (n := 4 * k + 3) (by omega), nI_1]
    simp only [mm_l2, mm_ll, cq_at hk (show 3 < 4 by decide), cq_at hk (show 2 < 4 by decide), cq_at hk (show 1 < 4 by decide), cq_at0 hk, cq_u _ hk (show 3 < 4 by decide), cq_u _ hk (show 2 < 4 by decide), cq_u _ hk (show 1 < 4 by decide), cq_u0 _ hk, lI_neg, stp_x, stx_at]
    exact ih (i + 1) (t8 x) (by omega) (by rw [← hF, t8n_a x m 1]; rfl) _ _
set_option maxRecDepth 100000 in
theorem rn_b38 {P : am_Q} {X : am_X} {N k e p : Nat} {xs : Nat → R4} {x : R4} (hX : am_K d false nm_X6_rotateOne P X) (hN : N ≤ 32) (hk : k < N) (hp : p < 4) (hK : ∀ l4 l5, X 87 [some (aR 36), some (aI (nI (4 * k))), some (aI (nI e)), some (aI (nI (p + 1))), l4, l5] [] (mm_l M 38 (cq g N (stx xs k (sp x p (- pp x p)))))) (l4 l5 : Option am_V) : X 87 [some (aR 36), some (aI (nI (4 * k))), some (aI (nI e)), some (aI (nI p)), l4, l5] [] (mm_l M 38 (cq g N (stx xs k x))) := by
  refine am_run hX 3 _ _ _ _ ?_
  conv => whnf
  refine ⟨fun c => absurd c (nI_ge (a := p) (b := 4) hp (by decide)), fun _ => ?_⟩
  refine am_run hX 15 _ _ _ _ ?_
  conv => whnf
  rw [nI_add]
  refine ⟨vp_in_nI (by show _ < 128; omega) (by decide), ?_⟩
  conv => whnf
  refine ⟨vp_in_nI (by show _ < 128; omega) (by decide), ?_⟩
  conv => whnf
  rw [nI_clamp (n := 4 * k + p) (by omega), nI_1]
  simp only [mm_l2, mm_ll, cq_at hk hp, cq_u _ hk hp, lI_neg, stp_x, stx_at]
  exact hK _ _
set_option maxRecDepth 100000 in
theorem ct_rot138 {N k e : Nat} {xs : Nat → R4} (hN : N ≤ 32) (hk : k < N) (he : e < 8) : am_M (d + 1) false nm_X6_rotateOne [aR 36, aI (nI (4 * k)), aI (nI e)] (mm_l M 38 (cq g N xs)) (am_q0 (mm_l M 38 (cq g N (stx xs k (t8n e (xs k)))))) := by
  refine ⟨rfl, rfl, rfl, fun X hX => am_run hX 2 _ _ _ _ ?_⟩
  conv => whnf
  have key := ro_l38 (M := M) (g := g) (xs := xs) (F := t8n (e % 4) (xs k)) hX hN hk he ?_ (e % 4) 0 (xs k) (by omega) rfl
  · rw [stx_z] at key
    exact key _ _
  · intro l4 l5
    refine am_run hX 3 _ _ _ _ ?_
    conv => whnf
    by_cases h4 : e < 4
    · refine ⟨fun _ => ?_, fun c => absurd (nI_lt (a := e) (b := 4) h4 (by decide)) c⟩
      refine am_run hX 2 _ _ _ _ ?_
      conv => whnf
      rw [Nat.mod_eq_of_lt h4]
      exact ⟨trivial, rfl, rfl⟩
    · refine ⟨fun c => absurd c (nI_nlt (a := e) (b := 4) (by omega) (by omega)), fun _ => ?_⟩
      refine am_run hX 2 _ _ _ _ ?_
      conv => whnf
      refine rn_b38 (p := 0) hX hN hk (by decide) (rn_b38 (p := 1) hX hN hk (by decide) (rn_b38 (p := 2) hX hN hk (by decide) (rn_b38 (p := 3) hX hN hk (by decide) ?_))) _ _
      intro l4 l5
      refine am_run hX 10 _ _ _ _ ?_
      conv => whnf
      refine ⟨fun _ => ?_, fun c => absurd (by decide) c⟩
      conv => whnf
      refine ⟨trivial, rfl, ?_⟩
      rw [show t8n e (xs k) = ng (t8n (e % 4) (xs k)) from by
        conv => lhs; rw [show e = 4 + e % 4 by omega, t8n_a]
        rfl]
      rfl
set_option maxRecDepth 100000 in
theorem rt_l38 {P : am_Q} {X : am_X} {N e : Nat} {mk v : Int32} {xs : Nat → R4} (hX : am_K (d + 1) false nm_X6_rotate P X) (hN : N ≤ 32) (hs : M.1 36 2 = nI N) (he : e < 8) (hP : P (.inl none) (mm_l M 38 (cq g N (rotm (fun i => nI i &&& mk = v) (t8n e) xs N)))) : ∀ (m i : Nat), i + m = N → X 3 [some (aR 36), some (aI mk), some (aI v), some (aI (nI e)), some (aI (nI i))] [] (mm_l M 38 (cq g N (rotm (fun i => nI i &&& mk = v) (t8n e) xs i))) := by
  intro m
  induction m with
  | zero =>
    intro i hi
    have hi : i = N := by omega
    subst hi
    refine am_run hX 10 _ _ _ _ ?_
    conv => whnf
    rw [show (mm_l M 38 (cq g i (rotm (fun i => nI i &&& mk = v) (t8n e) xs i))).1 36 2 = nI i from hs]
    refine ⟨fun _ => ?_, fun c => absurd (nI_le (by omega) (by omega)) c⟩
    conv => whnf
    exact ⟨trivial, hP⟩
  | succ m ih =>
    intro i hi
    have ih := ih (i + 1) (by omega)
    refine am_run hX 4 _ _ _ _ ?_
    conv => whnf
    rw [show (mm_l M 38 (cq g N (rotm (fun i => nI i &&& mk = v) (t8n e) xs i))).1 36 2 = nI N from hs]
    refine ⟨fun c => absurd c (nI_ge (by omega) (by omega)), fun _ => ?_⟩
    refine am_run hX 5 _ _ _ _ ?_
    conv => whnf
    refine ⟨fun q => ?_, fun q => ?_⟩
    · refine am_run hX 2 _ _ _ _ ?_
      conv => whnf
      rw [nI_1]
      rw [← rot_n (S := fun i => nI i &&& mk = v) q] at ih
      exact ih
    · have q : nI i &&& mk = v := Decidable.byContradiction q
      refine am_run hX 8 _ _ _ _ ?_
      conv => whnf
      rw [show (4 : Int32) = nI 4 from rfl, nI_mul]
      refine am_c0 (ct_rot138 (d := d) hN (by omega) he) ?_
      rw [rot_at, rot_s (S := fun i => nI i &&& mk = v) q]
      conv => whnf
      rw [nI_1]
      exact ih
set_option maxRecDepth 100000 in
theorem ct_rot38 {N e : Nat} {mk v : Int32} {xs : Nat → R4} (hN : N ≤ 32) (hs : M.1 36 2 = nI N) (he : e < 8) : am_M (d + 2) false nm_X6_rotate [aR 36, aI mk, aI v, aI (nI e)] (mm_l M 38 (cq g N xs)) (am_q0 (mm_l M 38 (cq g N (rotm (fun i => nI i &&& mk = v) (t8n e) xs N)))) := by
  refine ⟨rfl, rfl, rfl, fun X hX => am_run hX 2 _ _ _ _ ?_⟩
  conv => whnf
  have key := rt_l38 (d := d) (M := M) (g := g) (xs := xs) (mk := mk) (v := v) hX hN hs he ⟨rfl, rfl⟩ N 0 (by omega)
  rw [rot_0] at key
  exact key
set_option maxRecDepth 100000 in
theorem ct_times35 {N k : Nat} {xs : Nat → R4} (hN : N ≤ 32) (hk : k < N) : am_M (d + 1) false nm_X6_timesRoot [aR 33, aI (nI (4 * k))] (mm_l M 35 (cq g N xs)) (am_q0 (mm_l M 35 (cq g N (stx xs k (rr (xs k)))))) := by
  have e1 : nI (4 * k) + 1 = nI (4 * k + 1) := nI_1 _
  have e2 : nI (4 * k) + 2 = nI (4 * k + 2) := by rw [show (2 : Int32) = nI 2 from rfl, nI_add]
  have e3 : nI (4 * k) + 3 = nI (4 * k + 3) := by rw [show (3 : Int32) = nI 3 from rfl, nI_add]
  have ez : cq g N xs = cq g N (stx xs k (xs k)) := by rw [stx_z]
  refine ⟨rfl, rfl, rfl, fun X hX => am_run hX 80 _ _ _ _ ?_⟩
  conv => whnf
  refine ⟨vp_in_nI (by show _ < 128; omega) (by decide), ?_⟩
  conv => whnf
  rw [e1]
  refine ⟨vp_in_nI (by show _ < 128; omega) (by decide), ?_⟩
  conv => whnf
  rw [e2]
  refine ⟨vp_in_nI (by show _ < 128; omega) (by decide), ?_⟩
  conv => whnf
  rw [e3]
  refine ⟨vp_in_nI (by show _ < 128; omega) (by decide), ?_⟩
  conv => whnf
  refine ⟨vp_in_nI (by show _ < 128; omega) (by decide), ?_⟩
  conv => whnf
  rw [e1]
  refine ⟨vp_in_nI (by show _ < 128; omega) (by decide), ?_⟩
  conv => whnf
  rw [e2]
  refine ⟨vp_in_nI (by show _ < 128; omega) (by decide), ?_⟩
  conv => whnf
  rw [e3]
  refine ⟨vp_in_nI (by show _ < 128; omega) (by decide), ?_⟩
  conv => whnf
  refine ⟨trivial, rfl, ?_⟩
  rw [nI_clamp (n := 4 * k) (by omega), nI_clamp (n := 4 * k + 1) (by omega), nI_clamp (n := 4 * k + 2) (by omega), nI_clamp (n := 4 * k + 3) (by omega), ez]
  simp only [mm_l2, mm_ll, cq_at hk (show 3 < 4 by decide), cq_at hk (show 2 < 4 by decide), cq_at hk (show 1 < 4 by decide), cq_at0 hk, cq_u _ hk (show 3 < 4 by decide), cq_u _ hk (show 2 < 4 by decide), cq_u _ hk (show 1 < 4 by decide), cq_u0 _ hk, lI_add, lI_sub, stp_x, stx_at]
  rfl
set_option maxRecDepth 100000 in
theorem bl_b35 {P : am_Q} {X : am_X} {N i p t c : Nat} {xs : Nat → R4} (hX : am_K (d + 1) false nm_X6_blend P X) (hN : N ≤ 32) (hi : i < N) (hj : i ^^^ 2 ^ t < N) (hb : i.testBit t = false) (hp : p < 4) (hK : ∀ l5 l6 l7 l8, X 46 [some (aR 33), some (aI (nI (2 ^ t))), some (aI (nI c)), some (aI (nI i)), some (aI (nI (p + 1))), l5, l6, l7, l8] [] (mm_l M 35 (cq g N (bl1 xs i (i ^^^ 2 ^ t) p)))) (l5 l6 l7 l8 : Option am_V) : X 46 [some (aR 33), some (aI (nI (2 ^ t))), some (aI (nI c)), some (aI (nI i)), some (aI (nI p)), l5, l6, l7, l8] [] (mm_l M 35 (cq g N xs)) := by
  have eA : (4 : Int32) * nI i + nI p = nI (4 * i + p) := by rw [show (4 : Int32) = nI 4 from rfl, nI_mul, nI_add]
  have eB : (4 : Int32) * (nI i ||| nI (2 ^ t)) + nI p = nI (4 * (i ^^^ 2 ^ t) + p) := by rw [nI_or, or_x hb, show (4 : Int32) = nI 4 from rfl, nI_mul, nI_add]
  refine am_run hX 3 _ _ _ _ ?_
  conv => whnf
  refine ⟨fun c => absurd c (nI_ge (a := p) (b := 4) hp (by decide)), fun _ => ?_⟩
  refine am_run hX 46 _ _ _ _ ?_
  conv => whnf
  rw [eA]
  refine ⟨vp_in_nI (by show _ < 128; omega) (by decide), ?_⟩
  conv => whnf
  rw [eB]
  refine ⟨vp_in_nI (by show _ < 128; omega) (by decide), ?_⟩
  conv => whnf
  rw [eA]
  refine ⟨vp_in_nI (by show _ < 128; omega) (by decide), ?_⟩
  conv => whnf
  rw [eB]
  refine ⟨vp_in_nI (by show _ < 128; omega) (by decide), ?_⟩
  conv => whnf
  rw [nI_clamp (n := 4 * i + p) (by omega), nI_clamp (n := 4 * (i ^^^ 2 ^ t) + p) (by omega), nI_1]
  simp only [mm_l2, mm_ll, cq_at hi hp, cq_at hj hp, lI_add, lI_sub, cq_u _ hi hp, cq_u _ hj hp]
  exact hK _ _ _ _
set_option maxRecDepth 100000 in
theorem bl_l35 {P : am_Q} {X : am_X} {W t c : Nat} {xs : Nat → R4} (hX : am_K (d + 1) false nm_X6_blend P X) (hN : 2 ^ W ≤ 32) (ht : t < W) (hcw : c < 2 ^ W) (hct : c.testBit t = false) (hs : M.1 33 2 = nI (2 ^ W)) (hP : P (.inl none) (mm_l M 35 (cq g (2 ^ W) (bh (fun i => i &&& c = c) (gS0 t c) (2 ^ t) xs (2 ^ W))))) : ∀ (m i : Nat), i + m = 2 ^ W → ∀ l4 l5 l6 l7 l8, X 12 [some (aR 33), some (aI (nI (2 ^ t))), some (aI (nI c)), some (aI (nI i)), l4, l5, l6, l7, l8] [] (mm_l M 35 (cq g (2 ^ W) (bh (fun i => i &&& c = c) (gS0 t c) (2 ^ t) xs i))) := by
  have htl : 2 ^ t < 2 ^ W := Nat.pow_lt_pow_right (by decide) ht
  intro m
  induction m with
  | zero =>
    intro i hi l4 l5 l6 l7 l8
    have hi : i = 2 ^ W := by omega
    subst hi
    refine am_run hX 10 _ _ _ _ ?_
    conv => whnf
    rw [show (mm_l M 35 (cq g (2 ^ W) (bh (fun i => i &&& c = c) (gS0 t c) (2 ^ t) xs (2 ^ W)))).1 33 2 = nI (2 ^ W) from hs]
    refine ⟨fun _ => ?_, fun c => absurd (nI_le (by omega) (by omega)) c⟩
    conv => whnf
    exact ⟨trivial, hP⟩
  | succ m ih =>
    intro i hi l4 l5 l6 l7 l8
    have ih := ih (i + 1) (by omega)
    have hi2 : i < 2 ^ W := by omega
    have hj := xq_lt hi2 htl
    have hlt : i &&& c < 2 ^ W := Nat.and_lt_two_pow _ hcw
    have hlt2 : i &&& 2 ^ t < 2 ^ W := Nat.and_lt_two_pow _ htl
    refine am_run hX 4 _ _ _ _ ?_
    conv => whnf
    rw [show (mm_l M 35 (cq g (2 ^ W) (bh (fun i => i &&& c = c) (gS0 t c) (2 ^ t) xs i))).1 33 2 = nI (2 ^ W) from hs]
    refine ⟨fun c => absurd c (nI_ge (by omega) (by omega)), fun _ => ?_⟩
    refine am_run hX 5 _ _ _ _ ?_
    conv => whnf
    rw [nI_and, nI_eq (by omega) (by omega)]
    refine ⟨fun hA => ?_, fun hA => ?_⟩
    · refine am_run hX 4 _ _ _ _ ?_
      conv => whnf
      rw [nI_and, show (0 : Int32) = nI 0 from rfl, nI_eq (by omega) (by omega), an_0]
      refine ⟨fun hb => ?_, fun hb => ?_⟩
      · refine am_run hX 2 _ _ _ _ ?_
        conv => whnf
        rw [nI_1]
        rw [← bh_n (A := fun i => i &&& c = c) hA (fun q => hb q.2)] at ih
        exact ih _ _ _ _ _
      · have hb : i.testBit t = false := by
          cases q : i.testBit t with
          | false => rfl
          | true => exact absurd q (by simpa using hb)
        have hS : gS0 t c i := ⟨hA, hb⟩
        have hnS := g0_n hct hS
        have hA2 : (i ^^^ 2 ^ t) &&& c = c := by rw [xo_c hct]; exact hA
        refine am_run hX 2 _ _ _ _ ?_
        conv => whnf
        refine bl_b35 (p := 0) hX hN hi2 hj hb (by decide) (bl_b35 (p := 1) hX hN hi2 hj hb (by decide) (bl_b35 (p := 2) hX hN hi2 hj hb (by decide) (bl_b35 (p := 3) hX hN hi2 hj hb (by decide) ?_))) _ _ _ _
        intro l5 l6 l7 l8
        have hne : i ≠ i ^^^ 2 ^ t := fun e => hnS (by rw [← e]; exact hS)
        rw [bl_4 _ hne, bh_at (A := fun i => i &&& c = c) hnS, bh_at2 (A := fun i => i &&& c = c) hA2 hnS, bh_s (A := fun i => i &&& c = c) hA hA2 hS hnS]
        refine am_run hX 3 _ _ _ _ ?_
        conv => whnf
        refine ⟨fun _ => ?_, fun c => absurd (by decide) c⟩
        refine am_run hX 2 _ _ _ _ ?_
        conv => whnf
        rw [nI_1]
        exact ih _ _ _ _ _
    · refine am_run hX 8 _ _ _ _ ?_
      conv => whnf
      rw [show (4 : Int32) = nI 4 from rfl, nI_mul]
      refine am_c0 (ct_times35 (d := d) hN hi2) ?_
      have hnS : ¬ gS0 t c (i ^^^ 2 ^ t) := fun q => hA (by have := q.1; rw [xo_c hct] at this; exact this)
      rw [bh_at (A := fun i => i &&& c = c) hnS, bh_r (A := fun i => i &&& c = c) hA (fun q => hA q.1)]
      conv => whnf
      rw [nI_1]
      exact ih _ _ _ _ _
set_option maxRecDepth 100000 in
theorem ct_blend35 {W t c : Nat} {xs : Nat → R4} (hN : 2 ^ W ≤ 32) (ht : t < W) (hcw : c < 2 ^ W) (hct : c.testBit t = false) (hs : M.1 33 2 = nI (2 ^ W)) : am_M (d + 2) false nm_X6_blend [aR 33, aI (nI (2 ^ t)), aI (nI c)] (mm_l M 35 (cq g (2 ^ W) xs)) (am_q0 (mm_l (mm_i M 33 (upd (M.1 33) 3 (M.1 33 3 + 1))) 35 (cq g (2 ^ W) (bh (fun i => i &&& c = c) (gS0 t c) (2 ^ t) xs (2 ^ W))))) := by
  refine ⟨rfl, rfl, rfl, fun X hX => am_run hX 8 _ _ _ _ ?_⟩
  conv => whnf
  have key := bl_l35 (d := d) (M := mm_i M 33 (upd (M.1 33) 3 (M.1 33 3 + 1))) (g := g) (xs := xs) hX hN ht hcw hct (by rw [mm_i1]; exact hs) ⟨rfl, rfl⟩ (2 ^ W) 0 (by omega)
  rw [bh_0] at key
  exact key _ _ _ _ _
set_option maxRecDepth 100000 in
theorem ct_times38 {N k : Nat} {xs : Nat → R4} (hN : N ≤ 32) (hk : k < N) : am_M (d + 1) false nm_X6_timesRoot [aR 36, aI (nI (4 * k))] (mm_l M 38 (cq g N xs)) (am_q0 (mm_l M 38 (cq g N (stx xs k (rr (xs k)))))) := by
  have e1 : nI (4 * k) + 1 = nI (4 * k + 1) := nI_1 _
  have e2 : nI (4 * k) + 2 = nI (4 * k + 2) := by rw [show (2 : Int32) = nI 2 from rfl, nI_add]
  have e3 : nI (4 * k) + 3 = nI (4 * k + 3) := by rw [show (3 : Int32) = nI 3 from rfl, nI_add]
  have ez : cq g N xs = cq g N (stx xs k (xs k)) := by rw [stx_z]
  refine ⟨rfl, rfl, rfl, fun X hX => am_run hX 80 _ _ _ _ ?_⟩
  conv => whnf
  refine ⟨vp_in_nI (by show _ < 128; omega) (by decide), ?_⟩
  conv => whnf
  rw [e1]
  refine ⟨vp_in_nI (by show _ < 128; omega) (by decide), ?_⟩
  conv => whnf
  rw [e2]
  refine ⟨vp_in_nI (by show _ < 128; omega) (by decide), ?_⟩
  conv => whnf
  rw [e3]
  refine ⟨vp_in_nI (by show _ < 128; omega) (by decide), ?_⟩
  conv => whnf
  refine ⟨vp_in_nI (by show _ < 128; omega) (by decide), ?_⟩
  conv => whnf
  rw [e1]
  refine ⟨vp_in_nI (by show _ < 128; omega) (by decide), ?_⟩
  conv => whnf
  rw [e2]
  refine ⟨vp_in_nI (by show _ < 128; omega) (by decide), ?_⟩
  conv => whnf
  rw [e3]
  refine ⟨vp_in_nI (by show _ < 128; omega) (by decide), ?_⟩
  conv => whnf
  refine ⟨trivial, rfl, ?_⟩
  rw [nI_clamp (n := 4 * k) (by omega), nI_clamp (n := 4 * k + 1) (by omega), nI_clamp (n := 4 * k + 2) (by omega), nI_clamp (n := 4 * k + 3) (by omega), ez]
  simp only [mm_l2, mm_ll, cq_at hk (show 3 < 4 by decide), cq_at hk (show 2 < 4 by decide), cq_at hk (show 1 < 4 by decide), cq_at0 hk, cq_u _ hk (show 3 < 4 by decide), cq_u _ hk (show 2 < 4 by decide), cq_u _ hk (show 1 < 4 by decide), cq_u0 _ hk, lI_add, lI_sub, stp_x, stx_at]
  rfl
set_option maxRecDepth 100000 in
theorem bl_b38 {P : am_Q} {X : am_X} {N i p t c : Nat} {xs : Nat → R4} (hX : am_K (d + 1) false nm_X6_blend P X) (hN : N ≤ 32) (hi : i < N) (hj : i ^^^ 2 ^ t < N) (hb : i.testBit t = false) (hp : p < 4) (hK : ∀ l5 l6 l7 l8, X 46 [some (aR 36), some (aI (nI (2 ^ t))), some (aI (nI c)), some (aI (nI i)), some (aI (nI (p + 1))), l5, l6, l7, l8] [] (mm_l M 38 (cq g N (bl1 xs i (i ^^^ 2 ^ t) p)))) (l5 l6 l7 l8 : Option am_V) : X 46 [some (aR 36), some (aI (nI (2 ^ t))), some (aI (nI c)), some (aI (nI i)), some (aI (nI p)), l5, l6, l7, l8] [] (mm_l M 38 (cq g N xs)) := by
  have eA : (4 : Int32) * nI i + nI p = nI (4 * i + p) := by rw [show (4 : Int32) = nI 4 from rfl, nI_mul, nI_add]
  have eB : (4 : Int32) * (nI i ||| nI (2 ^ t)) + nI p = nI (4 * (i ^^^ 2 ^ t) + p) := by rw [nI_or, or_x hb, show (4 : Int32) = nI 4 from rfl, nI_mul, nI_add]
  refine am_run hX 3 _ _ _ _ ?_
  conv => whnf
  refine ⟨fun c => absurd c (nI_ge (a := p) (b := 4) hp (by decide)), fun _ => ?_⟩
  refine am_run hX 46 _ _ _ _ ?_
  conv => whnf
  rw [eA]
  refine ⟨vp_in_nI (by show _ < 128; omega) (by decide), ?_⟩
  conv => whnf
  rw [eB]
  refine ⟨vp_in_nI (by show _ < 128; omega) (by decide), ?_⟩
  conv => whnf
  rw [eA]
  refine ⟨vp_in_nI (by show _ < 128; omega) (by decide), ?_⟩
  conv => whnf
  rw [eB]
  refine ⟨vp_in_nI (by show _ < 128; omega) (by decide), ?_⟩
  conv => whnf
  rw [nI_clamp (n := 4 * i + p) (by omega), nI_clamp (n := 4 * (i ^^^ 2 ^ t) + p) (by omega), nI_1]
  simp only [mm_l2, mm_ll, cq_at hi hp, cq_at hj hp, lI_add, lI_sub, cq_u _ hi hp, cq_u _ hj hp]
  exact hK _ _ _ _
set_option maxRecDepth 100000 in
theorem bl_l38 {P : am_Q} {X : am_X} {W t c : Nat} {xs : Nat → R4} (hX : am_K (d + 1) false nm_X6_blend P X) (hN : 2 ^ W ≤ 32) (ht : t < W) (hcw : c < 2 ^ W) (hct : c.testBit t = false) (hs : M.1 36 2 = nI (2 ^ W)) (hP : P (.inl none) (mm_l M 38 (cq g (2 ^ W) (bh (fun i => i &&& c = c) (gS0 t c) (2 ^ t) xs (2 ^ W))))) : ∀ (m i : Nat), i + m = 2 ^ W → ∀ l4 l5 l6 l7 l8, X 12 [some (aR 36), some (aI (nI (2 ^ t))), some (aI (nI c)), some (aI (nI i)), l4, l5, l6, l7, l8] [] (mm_l M 38 (cq g (2 ^ W) (bh (fun i => i &&& c = c) (gS0 t c) (2 ^ t) xs i))) := by
  have htl : 2 ^ t < 2 ^ W := Nat.pow_lt_pow_right (by decide) ht
  intro m
  induction m with
  | zero =>
    intro i hi l4 l5 l6 l7 l8
    have hi : i = 2 ^ W := by omega
    subst hi
    refine am_run hX 10 _ _ _ _ ?_
    conv => whnf
    rw [show (mm_l M 38 (cq g (2 ^ W) (bh (fun i => i &&& c = c) (gS0 t c) (2 ^ t) xs (2 ^ W)))).1 36 2 = nI (2 ^ W) from hs]
    refine ⟨fun _ => ?_, fun c => absurd (nI_le (by omega) (by omega)) c⟩
    conv => whnf
    exact ⟨trivial, hP⟩
  | succ m ih =>
    intro i hi l4 l5 l6 l7 l8
    have ih := ih (i + 1) (by omega)
    have hi2 : i < 2 ^ W := by omega
    have hj := xq_lt hi2 htl
    have hlt : i &&& c < 2 ^ W := Nat.and_lt_two_pow _ hcw
    have hlt2 : i &&& 2 ^ t < 2 ^ W := Nat.and_lt_two_pow _ htl
    refine am_run hX 4 _ _ _ _ ?_
    conv => whnf
    rw [show (mm_l M 38 (cq g (2 ^ W) (bh (fun i => i &&& c = c) (gS0 t c) (2 ^ t) xs i))).1 36 2 = nI (2 ^ W) from hs]
    refine ⟨fun c => absurd c (nI_ge (by omega) (by omega)), fun _ => ?_⟩
    refine am_run hX 5 _ _ _ _ ?_
    conv => whnf
    rw [nI_and, nI_eq (by omega) (by omega)]
    refine ⟨fun hA => ?_, fun hA => ?_⟩
    · refine am_run hX 4 _ _ _ _ ?_
      conv => whnf
      rw [nI_and, show (0 : Int32) = nI 0 from rfl, nI_eq (by omega) (by omega), an_0]
      refine ⟨fun hb => ?_, fun hb => ?_⟩
      · refine am_run hX 2 _ _ _ _ ?_
        conv => whnf
        rw [nI_1]
        rw [← bh_n (A := fun i => i &&& c = c) hA (fun q => hb q.2)] at ih
        exact ih _ _ _ _ _
      · have hb : i.testBit t = false := by
          cases q : i.testBit t with
          | false => rfl
          | true => exact absurd q (by simpa using hb)
        have hS : gS0 t c i := ⟨hA, hb⟩
        have hnS := g0_n hct hS
        have hA2 : (i ^^^ 2 ^ t) &&& c = c := by rw [xo_c hct]; exact hA
        refine am_run hX 2 _ _ _ _ ?_
        conv => whnf
        refine bl_b38 (p := 0) hX hN hi2 hj hb (by decide) (bl_b38 (p := 1) hX hN hi2 hj hb (by decide) (bl_b38 (p := 2) hX hN hi2 hj hb (by decide) (bl_b38 (p := 3) hX hN hi2 hj hb (by decide) ?_))) _ _ _ _
        intro l5 l6 l7 l8
        have hne : i ≠ i ^^^ 2 ^ t := fun e => hnS (by rw [← e]; exact hS)
        rw [bl_4 _ hne, bh_at (A := fun i => i &&& c = c) hnS, bh_at2 (A := fun i => i &&& c = c) hA2 hnS, bh_s (A := fun i => i &&& c = c) hA hA2 hS hnS]
        refine am_run hX 3 _ _ _ _ ?_
        conv => whnf
        refine ⟨fun _ => ?_, fun c => absurd (by decide) c⟩
        refine am_run hX 2 _ _ _ _ ?_
        conv => whnf
        rw [nI_1]
        exact ih _ _ _ _ _
    · refine am_run hX 8 _ _ _ _ ?_
      conv => whnf
      rw [show (4 : Int32) = nI 4 from rfl, nI_mul]
      refine am_c0 (ct_times38 (d := d) hN hi2) ?_
      have hnS : ¬ gS0 t c (i ^^^ 2 ^ t) := fun q => hA (by have := q.1; rw [xo_c hct] at this; exact this)
      rw [bh_at (A := fun i => i &&& c = c) hnS, bh_r (A := fun i => i &&& c = c) hA (fun q => hA q.1)]
      conv => whnf
      rw [nI_1]
      exact ih _ _ _ _ _
set_option maxRecDepth 100000 in
theorem ct_blend38 {W t c : Nat} {xs : Nat → R4} (hN : 2 ^ W ≤ 32) (ht : t < W) (hcw : c < 2 ^ W) (hct : c.testBit t = false) (hs : M.1 36 2 = nI (2 ^ W)) : am_M (d + 2) false nm_X6_blend [aR 36, aI (nI (2 ^ t)), aI (nI c)] (mm_l M 38 (cq g (2 ^ W) xs)) (am_q0 (mm_l (mm_i M 36 (upd (M.1 36) 3 (M.1 36 3 + 1))) 38 (cq g (2 ^ W) (bh (fun i => i &&& c = c) (gS0 t c) (2 ^ t) xs (2 ^ W))))) := by
  refine ⟨rfl, rfl, rfl, fun X hX => am_run hX 8 _ _ _ _ ?_⟩
  conv => whnf
  have key := bl_l38 (d := d) (M := mm_i M 36 (upd (M.1 36) 3 (M.1 36 3 + 1))) (g := g) (xs := xs) hX hN ht hcw hct (by rw [mm_i1]; exact hs) ⟨rfl, rfl⟩ (2 ^ W) 0 (by omega)
  rw [bh_0] at key
  exact key _ _ _ _ _
set_option maxRecDepth 100000 in
theorem ct_apH35 {W U sh : Nat} {x : bk_X} {mi : Bool} {xs : Nat → R4} (hW : W ≤ 5) (oW : U ≤ 8) (ow : bk_w U x) (hs : M.1 33 2 = nI (2 ^ W)) (ha : apo x.1 (x.2.1 + sh) (x.2.2.1 + sh) (x.2.2.2.1 * 2 ^ sh) W) (h3 : x.1 = 3) (hsh : sh < 20) : am_M (d + 3) false nm_X6_apply [aR 33, aI (nI (bk_p x)), aI (nI sh), aI (if mi then 1 else 0)] (mm_l M 35 (cq g (2 ^ W) xs)) (am_q0 (mm_l (mm_i M 33 (upd (M.1 33) 3 (M.1 33 3 + 1))) 35 (cq g (2 ^ W) (gx x.1 (x.2.1 + sh) (x.2.2.1 + sh) (x.2.2.2.1 * 2 ^ sh) mi (2 ^ W) xs)))) := by
  obtain ⟨ht, hc, hct, _⟩ := ha
  have hN : 2 ^ W ≤ 32 := by
    have : 2 ^ W ≤ 2 ^ 5 := Nat.pow_le_pow_right (by decide) hW
    omega
  have ex : (gx x.1 (x.2.1 + sh) (x.2.2.1 + sh) (x.2.2.2.1 * 2 ^ sh) mi (2 ^ W) xs) = bh (fun i => i &&& (x.2.2.2.1 * 2 ^ sh) = (x.2.2.2.1 * 2 ^ sh)) (gS0 (x.2.1 + sh) (x.2.2.2.1 * 2 ^ sh)) (2 ^ (x.2.1 + sh)) xs (2 ^ W) := by
    unfold gx
    rw [h3]
    rfl
  rw [ex]
  have hc32 : x.2.2.2.1 * 2 ^ sh < 2 ^ 32 := by omega
  refine ⟨rfl, rfl, rfl, fun X hX => am_run hX 60 _ _ _ _ ?_⟩
  conv => whnf
  refine am_c1 (ct_wireOf (d := d + 1)) ?_
  rw [bk_wi oW ow]
  conv => whnf
  rw [nI_add, sh2 _ (by omega)]
  refine am_c1 (ct_controlsOf (d := d + 1)) ?_
  rw [bk_cc oW ow]
  conv => whnf
  rw [nI_shl (by omega) (by omega)]
  refine am_c1 (ct_kind (d := d + 1)) ?_
  rw [bk_k oW ow]
  rw [h3]
  conv => whnf
  refine ⟨fun c => absurd c (by decide), fun _ => ?_⟩
  conv => whnf
  refine ⟨fun c => absurd c (by decide), fun _ => ?_⟩
  conv => whnf
  refine ⟨fun c => absurd c (by decide), fun _ => ?_⟩
  conv => whnf
  refine ⟨fun _ => ?_, fun c => absurd rfl c⟩
  conv => whnf
  refine am_c0 (ct_blend35 (d := d) hN ht hc hct hs) ?_
  conv => whnf
  exact ⟨trivial, rfl, rfl⟩
set_option maxRecDepth 100000 in
theorem ct_apN35 {W U sh : Nat} {x : bk_X} {mi : Bool} {xs : Nat → R4} (hW : W ≤ 5) (oW : U ≤ 8) (ow : bk_w U x) (hs : M.1 33 2 = nI (2 ^ W)) (ha : apo x.1 (x.2.1 + sh) (x.2.2.1 + sh) (x.2.2.2.1 * 2 ^ sh) W) (h8 : x.1 ≤ 8) (h3 : ¬ x.1 = 3) (hsh : sh < 20) : am_M (d + 4) false nm_X6_apply [aR 33, aI (nI (bk_p x)), aI (nI sh), aI (if mi then 1 else 0)] (mm_l M 35 (cq g (2 ^ W) xs)) (am_q0 (mm_l M 35 (cq g (2 ^ W) (gx x.1 (x.2.1 + sh) (x.2.2.1 + sh) (x.2.2.2.1 * 2 ^ sh) mi (2 ^ W) xs)))) := by
  obtain ⟨ht, hc, hct, h8s⟩ := ha
  have hW8 : W ≤ 8 := by omega
  have hN : 2 ^ W ≤ 32 := by
    have : 2 ^ W ≤ 2 ^ 5 := Nat.pow_le_pow_right (by decide) hW
    omega
  have htl : 2 ^ (x.2.1 + sh) < 2 ^ W := Nat.pow_lt_pow_right (by decide) ht
  have hc32 : x.2.2.2.1 * 2 ^ sh < 2 ^ 32 := by omega
  have e0 := iS0 hW8 ht hc hct
  have e1 := iS1 hW8 ht hc hct
  have hx0 : ∀ i, i < 2 ^ W → nI i &&& nI (2 ^ (x.2.1 + sh) ||| (x.2.2.2.1 * 2 ^ sh)) = nI (x.2.2.2.1 * 2 ^ sh) → i ^^^ 2 ^ (x.2.1 + sh) < 2 ^ W ∧ ¬ nI (i ^^^ 2 ^ (x.2.1 + sh)) &&& nI (2 ^ (x.2.1 + sh) ||| (x.2.2.2.1 * 2 ^ sh)) = nI (x.2.2.2.1 * 2 ^ sh) := fun i hi q => by
    have hi2 := xq_lt hi htl
    exact ⟨hi2, fun q2 => g0_n hct ((e0 i hi).mp q) ((e0 _ hi2).mp q2)⟩
  have rotE : ∀ e k, eig k mi = e → x.1 = k → ¬ k = 0 → ¬ k = 1 → ¬ k = 3 → ¬ k = 8 → cq g (2 ^ W) (rotm (fun i => nI i &&& nI (2 ^ (x.2.1 + sh) ||| (x.2.2.2.1 * 2 ^ sh)) = nI (2 ^ (x.2.1 + sh) ||| (x.2.2.2.1 * 2 ^ sh))) (t8n e) xs (2 ^ W)) = cq g (2 ^ W) (gx x.1 (x.2.1 + sh) (x.2.2.1 + sh) (x.2.2.2.1 * 2 ^ sh) mi (2 ^ W) xs) := by
    intro e k he hk k0 k1 k3 k8
    refine cq_e fun j hj => ?_
    unfold gx
    rw [hk, if_neg k0, if_neg k1, if_neg k3, if_neg k8, he]
    exact rot_cg e1 hj
  refine ⟨rfl, rfl, rfl, fun X hX => am_run hX 100 _ _ _ _ ?_⟩
  conv => whnf
  refine am_c1 (ct_wireOf (d := d + 2)) ?_
  rw [bk_wi oW ow]
  conv => whnf
  rw [nI_add, sh2 _ (by omega)]
  refine am_c1 (ct_controlsOf (d := d + 2)) ?_
  rw [bk_cc oW ow]
  conv => whnf
  rw [nI_shl (by omega) (by omega)]
  refine am_c1 (ct_kind (d := d + 2)) ?_
  rw [bk_k oW ow]
  rcases (by omega : x.1 = 0 ∨ x.1 = 1 ∨ x.1 = 8 ∨ x.1 = 2 ∨ x.1 = 4 ∨ x.1 = 5 ∨ x.1 = 6 ∨ x.1 = 7) with hk | hk | hk | hk | hk | hk | hk | hk
  · rw [hk]
    conv => whnf
    refine ⟨fun _ => ?_, fun c => absurd rfl c⟩
    conv => whnf
    rw [nI_or]
    refine am_c0 (ct_exch35 (d := d + 1) hN hs hx0) ?_
    conv => whnf
    refine ⟨trivial, rfl, congrArg (mm_l M 35) (cq_e fun j hj => ?_)⟩
    rw [exm_pm]
    exact pm_cg e0 hj (xq_lt hj htl)
  · rw [hk]
    conv => whnf
    refine ⟨fun c => absurd c (by decide), fun _ => ?_⟩
    conv => whnf
    refine ⟨fun _ => ?_, fun c => absurd rfl c⟩
    conv => whnf
    rw [nI_or]
    refine am_c0 (ct_exch35 (d := d + 1) hN hs hx0) ?_
    cases mi with
    | false =>
      conv => whnf
      refine ⟨fun _ => ?_, fun c => absurd rfl c⟩
      conv => whnf
      rw [nI_or]
      refine am_c0 (ct_rot35 (d := d + 1) (e := 6) hN hs (by decide)) ?_
      conv => whnf
      refine ⟨fun _ => ?_, fun c => absurd rfl c⟩
      conv => whnf
      rw [nI_or]
      refine am_c0 (ct_rot35 (d := d + 1) (e := 2) hN hs (by decide)) ?_
      conv => whnf
      refine ⟨trivial, rfl, congrArg (mm_l M 35) (cq_e fun j hj => ?_)⟩
      exact gy_e ht hct e0 e1 hj
    | true =>
      conv => whnf
      refine ⟨fun c => absurd c (by decide), fun _ => ?_⟩
      conv => whnf
      rw [nI_or]
      refine am_c0 (ct_rot35 (d := d + 1) (e := 2) hN hs (by decide)) ?_
      conv => whnf
      refine ⟨fun c => absurd c (by decide), fun _ => ?_⟩
      conv => whnf
      rw [nI_or]
      refine am_c0 (ct_rot35 (d := d + 1) (e := 6) hN hs (by decide)) ?_
      conv => whnf
      refine ⟨trivial, rfl, congrArg (mm_l M 35) (cq_e fun j hj => ?_)⟩
      exact gy_e ht hct e0 e1 hj
  · obtain ⟨hs8, hne, hcs⟩ := h8s hk
    have hsl : 2 ^ (x.2.2.1 + sh) < 2 ^ W := Nat.pow_lt_pow_right (by decide) hs8
    have ew := iSw hW8 ht hs8 hne hc hct hcs
    have hxl := Nat.xor_lt_two_pow htl hsl
    have hxw : ∀ i, i < 2 ^ W → nI i &&& nI (2 ^ (x.2.1 + sh) ||| 2 ^ (x.2.2.1 + sh) ||| (x.2.2.2.1 * 2 ^ sh)) = nI (2 ^ (x.2.1 + sh) ||| (x.2.2.2.1 * 2 ^ sh)) → i ^^^ (2 ^ (x.2.1 + sh) ^^^ 2 ^ (x.2.2.1 + sh)) < 2 ^ W ∧ ¬ nI (i ^^^ (2 ^ (x.2.1 + sh) ^^^ 2 ^ (x.2.2.1 + sh))) &&& nI (2 ^ (x.2.1 + sh) ||| 2 ^ (x.2.2.1 + sh) ||| (x.2.2.2.1 * 2 ^ sh)) = nI (2 ^ (x.2.1 + sh) ||| (x.2.2.2.1 * 2 ^ sh)) := fun i hi q => by
      have hi2 := xq_lt hi hxl
      exact ⟨hi2, fun q2 => gw_n hne ((ew i hi).mp q) ((ew _ hi2).mp q2)⟩
    rw [hk]
    conv => whnf
    refine ⟨fun c => absurd c (by decide), fun _ => ?_⟩
    conv => whnf
    refine ⟨fun c => absurd c (by decide), fun _ => ?_⟩
    conv => whnf
    refine ⟨fun c => absurd c (by decide), fun _ => ?_⟩
    conv => whnf
    refine ⟨fun c => absurd c (by decide), fun _ => ?_⟩
    conv => whnf
    refine ⟨fun c => absurd c (by decide), fun _ => ?_⟩
    conv => whnf
    refine ⟨fun c => absurd c (by decide), fun _ => ?_⟩
    conv => whnf
    refine ⟨fun c => absurd c (by decide), fun _ => ?_⟩
    conv => whnf
    refine ⟨fun c => absurd c (by decide), fun _ => ?_⟩
    conv => whnf
    refine ⟨fun _ => ?_, fun c => absurd rfl c⟩
    conv => whnf
    refine am_c1 (ct_secondOf (d := d + 2)) ?_
    rw [bk_s oW ow]
    conv => whnf
    rw [nI_add, sh2 _ (by omega), nI_or, nI_or, nI_or, show nI (2 ^ (x.2.1 + sh) ||| 2 ^ (x.2.2.1 + sh)) = nI (2 ^ (x.2.1 + sh) ^^^ 2 ^ (x.2.2.1 + sh)) from by rw [p_or hne]]
    refine am_c0 (ct_exch35 (d := d + 1) hN hs hxw) ?_
    conv => whnf
    refine ⟨trivial, rfl, congrArg (mm_l M 35) (cq_e fun j hj => ?_)⟩
    rw [exm_pm]
    exact pm_cg ew hj (xq_lt hj hxl)
  · rw [hk]
    conv => whnf
    refine ⟨fun c => absurd c (by decide), fun _ => ?_⟩
    conv => whnf
    refine ⟨fun c => absurd c (by decide), fun _ => ?_⟩
    conv => whnf
    refine ⟨fun _ => ?_, fun c => absurd rfl c⟩
    conv => whnf
    refine ⟨fun c => absurd c (by decide), fun _ => ?_⟩
    conv => whnf
    refine ⟨vp_in_nI (by decide) (by decide), ?_⟩
    conv => whnf
    rw [show (fun j => xp_a1.getD j 0) (nI 2).toNatClampNeg = nI 4 from by decide]
    rw [nI_or]
    cases mi with
    | false =>
      refine ⟨fun _ => ?_, fun c => absurd rfl c⟩
      conv => whnf
      refine am_c0 (ct_rot35 (d := d + 1) (e := 4) hN hs (by decide)) ?_
      rw [rotE 4 2 rfl hk (by decide) (by decide) (by decide) (by decide)]
      conv => whnf
      exact ⟨trivial, rfl, by rw [hk]⟩
    | true =>
      refine ⟨fun c => absurd c (by decide), fun _ => ?_⟩
      conv => whnf
      rw [show (8 - nI 4) &&& 7 = nI 4 from by decide]
      refine am_c0 (ct_rot35 (d := d + 1) (e := 4) hN hs (by decide)) ?_
      rw [rotE 4 2 rfl hk (by decide) (by decide) (by decide) (by decide)]
      conv => whnf
      exact ⟨trivial, rfl, by rw [hk]⟩
  · rw [hk]
    conv => whnf
    refine ⟨fun c => absurd c (by decide), fun _ => ?_⟩
    conv => whnf
    refine ⟨fun c => absurd c (by decide), fun _ => ?_⟩
    conv => whnf
    refine ⟨fun c => absurd c (by decide), fun _ => ?_⟩
    conv => whnf
    refine ⟨fun c => absurd c (by decide), fun _ => ?_⟩
    conv => whnf
    refine ⟨fun _ => ?_, fun c => absurd rfl c⟩
    conv => whnf
    refine ⟨fun c => absurd c (by decide), fun _ => ?_⟩
    conv => whnf
    refine ⟨vp_in_nI (by decide) (by decide), ?_⟩
    conv => whnf
    rw [show (fun j => xp_a1.getD j 0) (nI 4).toNatClampNeg = nI 2 from by decide]
    rw [nI_or]
    cases mi with
    | false =>
      refine ⟨fun _ => ?_, fun c => absurd rfl c⟩
      conv => whnf
      refine am_c0 (ct_rot35 (d := d + 1) (e := 2) hN hs (by decide)) ?_
      rw [rotE 2 4 rfl hk (by decide) (by decide) (by decide) (by decide)]
      conv => whnf
      exact ⟨trivial, rfl, by rw [hk]⟩
    | true =>
      refine ⟨fun c => absurd c (by decide), fun _ => ?_⟩
      conv => whnf
      rw [show (8 - nI 2) &&& 7 = nI 6 from by decide]
      refine am_c0 (ct_rot35 (d := d + 1) (e := 6) hN hs (by decide)) ?_
      rw [rotE 6 4 rfl hk (by decide) (by decide) (by decide) (by decide)]
      conv => whnf
      exact ⟨trivial, rfl, by rw [hk]⟩
  · rw [hk]
    conv => whnf
    refine ⟨fun c => absurd c (by decide), fun _ => ?_⟩
    conv => whnf
    refine ⟨fun c => absurd c (by decide), fun _ => ?_⟩
    conv => whnf
    refine ⟨fun c => absurd c (by decide), fun _ => ?_⟩
    conv => whnf
    refine ⟨fun c => absurd c (by decide), fun _ => ?_⟩
    conv => whnf
    refine ⟨fun c => absurd c (by decide), fun _ => ?_⟩
    conv => whnf
    refine ⟨fun _ => ?_, fun c => absurd rfl c⟩
    conv => whnf
    refine ⟨fun c => absurd c (by decide), fun _ => ?_⟩
    conv => whnf
    refine ⟨vp_in_nI (by decide) (by decide), ?_⟩
    conv => whnf
    rw [show (fun j => xp_a1.getD j 0) (nI 5).toNatClampNeg = nI 1 from by decide]
    rw [nI_or]
    cases mi with
    | false =>
      refine ⟨fun _ => ?_, fun c => absurd rfl c⟩
      conv => whnf
      refine am_c0 (ct_rot35 (d := d + 1) (e := 1) hN hs (by decide)) ?_
      rw [rotE 1 5 rfl hk (by decide) (by decide) (by decide) (by decide)]
      conv => whnf
      exact ⟨trivial, rfl, by rw [hk]⟩
    | true =>
      refine ⟨fun c => absurd c (by decide), fun _ => ?_⟩
      conv => whnf
      rw [show (8 - nI 1) &&& 7 = nI 7 from by decide]
      refine am_c0 (ct_rot35 (d := d + 1) (e := 7) hN hs (by decide)) ?_
      rw [rotE 7 5 rfl hk (by decide) (by decide) (by decide) (by decide)]
      conv => whnf
      exact ⟨trivial, rfl, by rw [hk]⟩
  · rw [hk]
    conv => whnf
    refine ⟨fun c => absurd c (by decide), fun _ => ?_⟩
    conv => whnf
    refine ⟨fun c => absurd c (by decide), fun _ => ?_⟩
    conv => whnf
    refine ⟨fun c => absurd c (by decide), fun _ => ?_⟩
    conv => whnf
    refine ⟨fun c => absurd c (by decide), fun _ => ?_⟩
    conv => whnf
    refine ⟨fun c => absurd c (by decide), fun _ => ?_⟩
    conv => whnf
    refine ⟨fun c => absurd c (by decide), fun _ => ?_⟩
    conv => whnf
    refine ⟨fun _ => ?_, fun c => absurd rfl c⟩
    conv => whnf
    refine ⟨fun c => absurd c (by decide), fun _ => ?_⟩
    conv => whnf
    refine ⟨vp_in_nI (by decide) (by decide), ?_⟩
    conv => whnf
    rw [show (fun j => xp_a1.getD j 0) (nI 6).toNatClampNeg = nI 6 from by decide]
    rw [nI_or]
    cases mi with
    | false =>
      refine ⟨fun _ => ?_, fun c => absurd rfl c⟩
      conv => whnf
      refine am_c0 (ct_rot35 (d := d + 1) (e := 6) hN hs (by decide)) ?_
      rw [rotE 6 6 rfl hk (by decide) (by decide) (by decide) (by decide)]
      conv => whnf
      exact ⟨trivial, rfl, by rw [hk]⟩
    | true =>
      refine ⟨fun c => absurd c (by decide), fun _ => ?_⟩
      conv => whnf
      rw [show (8 - nI 6) &&& 7 = nI 2 from by decide]
      refine am_c0 (ct_rot35 (d := d + 1) (e := 2) hN hs (by decide)) ?_
      rw [rotE 2 6 rfl hk (by decide) (by decide) (by decide) (by decide)]
      conv => whnf
      exact ⟨trivial, rfl, by rw [hk]⟩
  · rw [hk]
    conv => whnf
    refine ⟨fun c => absurd c (by decide), fun _ => ?_⟩
    conv => whnf
    refine ⟨fun c => absurd c (by decide), fun _ => ?_⟩
    conv => whnf
    refine ⟨fun c => absurd c (by decide), fun _ => ?_⟩
    conv => whnf
    refine ⟨fun c => absurd c (by decide), fun _ => ?_⟩
    conv => whnf
    refine ⟨fun c => absurd c (by decide), fun _ => ?_⟩
    conv => whnf
    refine ⟨fun c => absurd c (by decide), fun _ => ?_⟩
    conv => whnf
    refine ⟨fun c => absurd c (by decide), fun _ => ?_⟩
    conv => whnf
    refine ⟨fun _ => ?_, fun c => absurd rfl c⟩
    conv => whnf
    refine ⟨fun c => absurd c (by decide), fun _ => ?_⟩
    conv => whnf
    refine ⟨vp_in_nI (by decide) (by decide), ?_⟩
    conv => whnf
    rw [show (fun j => xp_a1.getD j 0) (nI 7).toNatClampNeg = nI 7 from by decide]
    rw [nI_or]
    cases mi with
    | false =>
      refine ⟨fun _ => ?_, fun c => absurd rfl c⟩
      conv => whnf
      refine am_c0 (ct_rot35 (d := d + 1) (e := 7) hN hs (by decide)) ?_
      rw [rotE 7 7 rfl hk (by decide) (by decide) (by decide) (by decide)]
      conv => whnf
      exact ⟨trivial, rfl, by rw [hk]⟩
    | true =>
      refine ⟨fun c => absurd c (by decide), fun _ => ?_⟩
      conv => whnf
      rw [show (8 - nI 7) &&& 7 = nI 1 from by decide]
      refine am_c0 (ct_rot35 (d := d + 1) (e := 1) hN hs (by decide)) ?_
      rw [rotE 1 7 rfl hk (by decide) (by decide) (by decide) (by decide)]
      conv => whnf
      exact ⟨trivial, rfl, by rw [hk]⟩
set_option maxRecDepth 100000 in
theorem ct_apH38 {W U sh : Nat} {x : bk_X} {mi : Bool} {xs : Nat → R4} (hW : W ≤ 5) (oW : U ≤ 8) (ow : bk_w U x) (hs : M.1 36 2 = nI (2 ^ W)) (ha : apo x.1 (x.2.1 + sh) (x.2.2.1 + sh) (x.2.2.2.1 * 2 ^ sh) W) (h3 : x.1 = 3) (hsh : sh < 20) : am_M (d + 3) false nm_X6_apply [aR 36, aI (nI (bk_p x)), aI (nI sh), aI (if mi then 1 else 0)] (mm_l M 38 (cq g (2 ^ W) xs)) (am_q0 (mm_l (mm_i M 36 (upd (M.1 36) 3 (M.1 36 3 + 1))) 38 (cq g (2 ^ W) (gx x.1 (x.2.1 + sh) (x.2.2.1 + sh) (x.2.2.2.1 * 2 ^ sh) mi (2 ^ W) xs)))) := by
  obtain ⟨ht, hc, hct, _⟩ := ha
  have hN : 2 ^ W ≤ 32 := by
    have : 2 ^ W ≤ 2 ^ 5 := Nat.pow_le_pow_right (by decide) hW
    omega
  have ex : (gx x.1 (x.2.1 + sh) (x.2.2.1 + sh) (x.2.2.2.1 * 2 ^ sh) mi (2 ^ W) xs) = bh (fun i => i &&& (x.2.2.2.1 * 2 ^ sh) = (x.2.2.2.1 * 2 ^ sh)) (gS0 (x.2.1 + sh) (x.2.2.2.1 * 2 ^ sh)) (2 ^ (x.2.1 + sh)) xs (2 ^ W) := by
    unfold gx
    rw [h3]
    rfl
  rw [ex]
  have hc32 : x.2.2.2.1 * 2 ^ sh < 2 ^ 32 := by omega
  refine ⟨rfl, rfl, rfl, fun X hX => am_run hX 60 _ _ _ _ ?_⟩
  conv => whnf
  refine am_c1 (ct_wireOf (d := d + 1)) ?_
  rw [bk_wi oW ow]
  conv => whnf
  rw [nI_add, sh2 _ (by omega)]
  refine am_c1 (ct_controlsOf (d := d + 1)) ?_
  rw [bk_cc oW ow]
  conv => whnf
  rw [nI_shl (by omega) (by omega)]
  refine am_c1 (ct_kind (d := d + 1)) ?_
  rw [bk_k oW ow]
  rw [h3]
  conv => whnf
  refine ⟨fun c => absurd c (by decide), fun _ => ?_⟩
  conv => whnf
  refine ⟨fun c => absurd c (by decide), fun _ => ?_⟩
  conv => whnf
  refine ⟨fun c => absurd c (by decide), fun _ => ?_⟩
  conv => whnf
  refine ⟨fun _ => ?_, fun c => absurd rfl c⟩
  conv => whnf
  refine am_c0 (ct_blend38 (d := d) hN ht hc hct hs) ?_
  conv => whnf
  exact ⟨trivial, rfl, rfl⟩
set_option maxRecDepth 100000 in
theorem ct_apN38 {W U sh : Nat} {x : bk_X} {mi : Bool} {xs : Nat → R4} (hW : W ≤ 5) (oW : U ≤ 8) (ow : bk_w U x) (hs : M.1 36 2 = nI (2 ^ W)) (ha : apo x.1 (x.2.1 + sh) (x.2.2.1 + sh) (x.2.2.2.1 * 2 ^ sh) W) (h8 : x.1 ≤ 8) (h3 : ¬ x.1 = 3) (hsh : sh < 20) : am_M (d + 4) false nm_X6_apply [aR 36, aI (nI (bk_p x)), aI (nI sh), aI (if mi then 1 else 0)] (mm_l M 38 (cq g (2 ^ W) xs)) (am_q0 (mm_l M 38 (cq g (2 ^ W) (gx x.1 (x.2.1 + sh) (x.2.2.1 + sh) (x.2.2.2.1 * 2 ^ sh) mi (2 ^ W) xs)))) := by
  obtain ⟨ht, hc, hct, h8s⟩ := ha
  have hW8 : W ≤ 8 := by omega
  have hN : 2 ^ W ≤ 32 := by
    have : 2 ^ W ≤ 2 ^ 5 := Nat.pow_le_pow_right (by decide) hW
    omega
  have htl : 2 ^ (x.2.1 + sh) < 2 ^ W := Nat.pow_lt_pow_right (by decide) ht
  have hc32 : x.2.2.2.1 * 2 ^ sh < 2 ^ 32 := by omega
  have e0 := iS0 hW8 ht hc hct
  have e1 := iS1 hW8 ht hc hct
  have hx0 : ∀ i, i < 2 ^ W → nI i &&& nI (2 ^ (x.2.1 + sh) ||| (x.2.2.2.1 * 2 ^ sh)) = nI (x.2.2.2.1 * 2 ^ sh) → i ^^^ 2 ^ (x.2.1 + sh) < 2 ^ W ∧ ¬ nI (i ^^^ 2 ^ (x.2.1 + sh)) &&& nI (2 ^ (x.2.1 + sh) ||| (x.2.2.2.1 * 2 ^ sh)) = nI (x.2.2.2.1 * 2 ^ sh) := fun i hi q => by
    have hi2 := xq_lt hi htl
    exact ⟨hi2, fun q2 => g0_n hct ((e0 i hi).mp q) ((e0 _ hi2).mp q2)⟩
  have rotE : ∀ e k, eig k mi = e → x.1 = k → ¬ k = 0 → ¬ k = 1 → ¬ k = 3 → ¬ k = 8 → cq g (2 ^ W) (rotm (fun i => nI i &&& nI (2 ^ (x.2.1 + sh) ||| (x.2.2.2.1 * 2 ^ sh)) = nI (2 ^ (x.2.1 + sh) ||| (x.2.2.2.1 * 2 ^ sh))) (t8n e) xs (2 ^ W)) = cq g (2 ^ W) (gx x.1 (x.2.1 + sh) (x.2.2.1 + sh) (x.2.2.2.1 * 2 ^ sh) mi (2 ^ W) xs) := by
    intro e k he hk k0 k1 k3 k8
    refine cq_e fun j hj => ?_
    unfold gx
    rw [hk, if_neg k0, if_neg k1, if_neg k3, if_neg k8, he]
    exact rot_cg e1 hj
  refine ⟨rfl, rfl, rfl, fun X hX => am_run hX 100 _ _ _ _ ?_⟩
  conv => whnf
  refine am_c1 (ct_wireOf (d := d + 2)) ?_
  rw [bk_wi oW ow]
  conv => whnf
  rw [nI_add, sh2 _ (by omega)]
  refine am_c1 (ct_controlsOf (d := d + 2)) ?_
  rw [bk_cc oW ow]
  conv => whnf
  rw [nI_shl (by omega) (by omega)]
  refine am_c1 (ct_kind (d := d + 2)) ?_
  rw [bk_k oW ow]
  rcases (by omega : x.1 = 0 ∨ x.1 = 1 ∨ x.1 = 8 ∨ x.1 = 2 ∨ x.1 = 4 ∨ x.1 = 5 ∨ x.1 = 6 ∨ x.1 = 7) with hk | hk | hk | hk | hk | hk | hk | hk
  · rw [hk]
    conv => whnf
    refine ⟨fun _ => ?_, fun c => absurd rfl c⟩
    conv => whnf
    rw [nI_or]
    refine am_c0 (ct_exch38 (d := d + 1) hN hs hx0) ?_
    conv => whnf
    refine ⟨trivial, rfl, congrArg (mm_l M 38) (cq_e fun j hj => ?_)⟩
    rw [exm_pm]
    exact pm_cg e0 hj (xq_lt hj htl)
  · rw [hk]
    conv => whnf
    refine ⟨fun c => absurd c (by decide), fun _ => ?_⟩
    conv => whnf
    refine ⟨fun _ => ?_, fun c => absurd rfl c⟩
    conv => whnf
    rw [nI_or]
    refine am_c0 (ct_exch38 (d := d + 1) hN hs hx0) ?_
    cases mi with
    | false =>
      conv => whnf
      refine ⟨fun _ => ?_, fun c => absurd rfl c⟩
      conv => whnf
      rw [nI_or]
      refine am_c0 (ct_rot38 (d := d + 1) (e := 6) hN hs (by decide)) ?_
      conv => whnf
      refine ⟨fun _ => ?_, fun c => absurd rfl c⟩
      conv => whnf
      rw [nI_or]
      refine am_c0 (ct_rot38 (d := d + 1) (e := 2) hN hs (by decide)) ?_
      conv => whnf
      refine ⟨trivial, rfl, congrArg (mm_l M 38) (cq_e fun j hj => ?_)⟩
      exact gy_e ht hct e0 e1 hj
    | true =>
      conv => whnf
      refine ⟨fun c => absurd c (by decide), fun _ => ?_⟩
      conv => whnf
      rw [nI_or]
      refine am_c0 (ct_rot38 (d := d + 1) (e := 2) hN hs (by decide)) ?_
      conv => whnf
      refine ⟨fun c => absurd c (by decide), fun _ => ?_⟩
      conv => whnf
      rw [nI_or]
      refine am_c0 (ct_rot38 (d := d + 1) (e := 6) hN hs (by decide)) ?_
      conv => whnf
      refine ⟨trivial, rfl, congrArg (mm_l M 38) (cq_e fun j hj => ?_)⟩
      exact gy_e ht hct e0 e1 hj
  · obtain ⟨hs8, hne, hcs⟩ := h8s hk
    have hsl : 2 ^ (x.2.2.1 + sh) < 2 ^ W := Nat.pow_lt_pow_right (by decide) hs8
    have ew := iSw hW8 ht hs8 hne hc hct hcs
    have hxl := Nat.xor_lt_two_pow htl hsl
    have hxw : ∀ i, i < 2 ^ W → nI i &&& nI (2 ^ (x.2.1 + sh) ||| 2 ^ (x.2.2.1 + sh) ||| (x.2.2.2.1 * 2 ^ sh)) = nI (2 ^ (x.2.1 + sh) ||| (x.2.2.2.1 * 2 ^ sh)) → i ^^^ (2 ^ (x.2.1 + sh) ^^^ 2 ^ (x.2.2.1 + sh)) < 2 ^ W ∧ ¬ nI (i ^^^ (2 ^ (x.2.1 + sh) ^^^ 2 ^ (x.2.2.1 + sh))) &&& nI (2 ^ (x.2.1 + sh) ||| 2 ^ (x.2.2.1 + sh) ||| (x.2.2.2.1 * 2 ^ sh)) = nI (2 ^ (x.2.1 + sh) ||| (x.2.2.2.1 * 2 ^ sh)) := fun i hi q => by
      have hi2 := xq_lt hi hxl
      exact ⟨hi2, fun q2 => gw_n hne ((ew i hi).mp q) ((ew _ hi2).mp q2)⟩
    rw [hk]
    conv => whnf
    refine ⟨fun c => absurd c (by decide), fun _ => ?_⟩
    conv => whnf
    refine ⟨fun c => absurd c (by decide), fun _ => ?_⟩
    conv => whnf
    refine ⟨fun c => absurd c (by decide), fun _ => ?_⟩
    conv => whnf
    refine ⟨fun c => absurd c (by decide), fun _ => ?_⟩
    conv => whnf
    refine ⟨fun c => absurd c (by decide), fun _ => ?_⟩
    conv => whnf
    refine ⟨fun c => absurd c (by decide), fun _ => ?_⟩
    conv => whnf
    refine ⟨fun c => absurd c (by decide), fun _ => ?_⟩
    conv => whnf
    refine ⟨fun c => absurd c (by decide), fun _ => ?_⟩
    conv => whnf
    refine ⟨fun _ => ?_, fun c => absurd rfl c⟩
    conv => whnf
    refine am_c1 (ct_secondOf (d := d + 2)) ?_
    rw [bk_s oW ow]
    conv => whnf
    rw [nI_add, sh2 _ (by omega), nI_or, nI_or, nI_or, show nI (2 ^ (x.2.1 + sh) ||| 2 ^ (x.2.2.1 + sh)) = nI (2 ^ (x.2.1 + sh) ^^^ 2 ^ (x.2.2.1 + sh)) from by rw [p_or hne]]
    refine am_c0 (ct_exch38 (d := d + 1) hN hs hxw) ?_
    conv => whnf
    refine ⟨trivial, rfl, congrArg (mm_l M 38) (cq_e fun j hj => ?_)⟩
    rw [exm_pm]
    exact pm_cg ew hj (xq_lt hj hxl)
  · rw [hk]
    conv => whnf
    refine ⟨fun c => absurd c (by decide), fun _ => ?_⟩
    conv => whnf
    refine ⟨fun c => absurd c (by decide), fun _ => ?_⟩
    conv => whnf
    refine ⟨fun _ => ?_, fun c => absurd rfl c⟩
    conv => whnf
    refine ⟨fun c => absurd c (by decide), fun _ => ?_⟩
    conv => whnf
    refine ⟨vp_in_nI (by decide) (by decide), ?_⟩
    conv => whnf
    rw [show (fun j => xp_a1.getD j 0) (nI 2).toNatClampNeg = nI 4 from by decide]
    rw [nI_or]
    cases mi with
    | false =>
      refine ⟨fun _ => ?_, fun c => absurd rfl c⟩
      conv => whnf
      refine am_c0 (ct_rot38 (d := d + 1) (e := 4) hN hs (by decide)) ?_
      rw [rotE 4 2 rfl hk (by decide) (by decide) (by decide) (by decide)]
      conv => whnf
      exact ⟨trivial, rfl, by rw [hk]⟩
    | true =>
      refine ⟨fun c => absurd c (by decide), fun _ => ?_⟩
      conv => whnf
      rw [show (8 - nI 4) &&& 7 = nI 4 from by decide]
      refine am_c0 (ct_rot38 (d := d + 1) (e := 4) hN hs (by decide)) ?_
      rw [rotE 4 2 rfl hk (by decide) (by decide) (by decide) (by decide)]
      conv => whnf
      exact ⟨trivial, rfl, by rw [hk]⟩
  · rw [hk]
    conv => whnf
    refine ⟨fun c => absurd c (by decide), fun _ => ?_⟩
    conv => whnf
    refine ⟨fun c => absurd c (by decide), fun _ => ?_⟩
    conv => whnf
    refine ⟨fun c => absurd c (by decide), fun _ => ?_⟩
    conv => whnf
    refine ⟨fun c => absurd c (by decide), fun _ => ?_⟩
    conv => whnf
    refine ⟨fun _ => ?_, fun c => absurd rfl c⟩
    conv => whnf
    refine ⟨fun c => absurd c (by decide), fun _ => ?_⟩
    conv => whnf
    refine ⟨vp_in_nI (by decide) (by decide), ?_⟩
    conv => whnf
    rw [show (fun j => xp_a1.getD j 0) (nI 4).toNatClampNeg = nI 2 from by decide]
    rw [nI_or]
    cases mi with
    | false =>
      refine ⟨fun _ => ?_, fun c => absurd rfl c⟩
      conv => whnf
      refine am_c0 (ct_rot38 (d := d + 1) (e := 2) hN hs (by decide)) ?_
      rw [rotE 2 4 rfl hk (by decide) (by decide) (by decide) (by decide)]
      conv => whnf
      exact ⟨trivial, rfl, by rw [hk]⟩
    | true =>
      refine ⟨fun c => absurd c (by decide), fun _ => ?_⟩
      conv => whnf
      rw [show (8 - nI 2) &&& 7 = nI 6 from by decide]
      refine am_c0 (ct_rot38 (d := d + 1) (e := 6) hN hs (by decide)) ?_
      rw [rotE 6 4 rfl hk (by decide) (by decide) (by decide) (by decide)]
      conv => whnf
      exact ⟨trivial, rfl, by rw [hk]⟩
  · rw [hk]
    conv => whnf
    refine ⟨fun c => absurd c (by decide), fun _ => ?_⟩
    conv => whnf
    refine ⟨fun c => absurd c (by decide), fun _ => ?_⟩
    conv => whnf
    refine ⟨fun c => absurd c (by decide), fun _ => ?_⟩
    conv => whnf
    refine ⟨fun c => absurd c (by decide), fun _ => ?_⟩
    conv => whnf
    refine ⟨fun c => absurd c (by decide), fun _ => ?_⟩
    conv => whnf
    refine ⟨fun _ => ?_, fun c => absurd rfl c⟩
    conv => whnf
    refine ⟨fun c => absurd c (by decide), fun _ => ?_⟩
    conv => whnf
    refine ⟨vp_in_nI (by decide) (by decide), ?_⟩
    conv => whnf
    rw [show (fun j => xp_a1.getD j 0) (nI 5).toNatClampNeg = nI 1 from by decide]
    rw [nI_or]
    cases mi with
    | false =>
      refine ⟨fun _ => ?_, fun c => absurd rfl c⟩
      conv => whnf
      refine am_c0 (ct_rot38 (d := d + 1) (e := 1) hN hs (by decide)) ?_
      rw [rotE 1 5 rfl hk (by decide) (by decide) (by decide) (by decide)]
      conv => whnf
      exact ⟨trivial, rfl, by rw [hk]⟩
    | true =>
      refine ⟨fun c => absurd c (by decide), fun _ => ?_⟩
      conv => whnf
      rw [show (8 - nI 1) &&& 7 = nI 7 from by decide]
      refine am_c0 (ct_rot38 (d := d + 1) (e := 7) hN hs (by decide)) ?_
      rw [rotE 7 5 rfl hk (by decide) (by decide) (by decide) (by decide)]
      conv => whnf
      exact ⟨trivial, rfl, by rw [hk]⟩
  · rw [hk]
    conv => whnf
    refine ⟨fun c => absurd c (by decide), fun _ => ?_⟩
    conv => whnf
    refine ⟨fun c => absurd c (by decide), fun _ => ?_⟩
    conv => whnf
    refine ⟨fun c => absurd c (by decide), fun _ => ?_⟩
    conv => whnf
    refine ⟨fun c => absurd c (by decide), fun _ => ?_⟩
    conv => whnf
    refine ⟨fun c => absurd c (by decide), fun _ => ?_⟩
    conv => whnf
    refine ⟨fun c => absurd c (by decide), fun _ => ?_⟩
    conv => whnf
    refine ⟨fun _ => ?_, fun c => absurd rfl c⟩
    conv => whnf
    refine ⟨fun c => absurd c (by decide), fun _ => ?_⟩
    conv => whnf
    refine ⟨vp_in_nI (by decide) (by decide), ?_⟩
    conv => whnf
    rw [show (fun j => xp_a1.getD j 0) (nI 6).toNatClampNeg = nI 6 from by decide]
    rw [nI_or]
    cases mi with
    | false =>
      refine ⟨fun _ => ?_, fun c => absurd rfl c⟩
      conv => whnf
      refine am_c0 (ct_rot38 (d := d + 1) (e := 6) hN hs (by decide)) ?_
      rw [rotE 6 6 rfl hk (by decide) (by decide) (by decide) (by decide)]
      conv => whnf
      exact ⟨trivial, rfl, by rw [hk]⟩
    | true =>
      refine ⟨fun c => absurd c (by decide), fun _ => ?_⟩
      conv => whnf
      rw [show (8 - nI 6) &&& 7 = nI 2 from by decide]
      refine am_c0 (ct_rot38 (d := d + 1) (e := 2) hN hs (by decide)) ?_
      rw [rotE 2 6 rfl hk (by decide) (by decide) (by decide) (by decide)]
      conv => whnf
      exact ⟨trivial, rfl, by rw [hk]⟩
  · rw [hk]
    conv => whnf
    refine ⟨fun c => absurd c (by decide), fun _ => ?_⟩
    conv => whnf
    refine ⟨fun c => absurd c (by decide), fun _ => ?_⟩
    conv => whnf
    refine ⟨fun c => absurd c (by decide), fun _ => ?_⟩
    conv => whnf
    refine ⟨fun c => absurd c (by decide), fun _ => ?_⟩
    conv => whnf
    refine ⟨fun c => absurd c (by decide), fun _ => ?_⟩
    conv => whnf
    refine ⟨fun c => absurd c (by decide), fun _ => ?_⟩
    conv => whnf
    refine ⟨fun c => absurd c (by decide), fun _ => ?_⟩
    conv => whnf
    refine ⟨fun _ => ?_, fun c => absurd rfl c⟩
    conv => whnf
    refine ⟨fun c => absurd c (by decide), fun _ => ?_⟩
    conv => whnf
    refine ⟨vp_in_nI (by decide) (by decide), ?_⟩
    conv => whnf
    rw [show (fun j => xp_a1.getD j 0) (nI 7).toNatClampNeg = nI 7 from by decide]
    rw [nI_or]
    cases mi with
    | false =>
      refine ⟨fun _ => ?_, fun c => absurd rfl c⟩
      conv => whnf
      refine am_c0 (ct_rot38 (d := d + 1) (e := 7) hN hs (by decide)) ?_
      rw [rotE 7 7 rfl hk (by decide) (by decide) (by decide) (by decide)]
      conv => whnf
      exact ⟨trivial, rfl, by rw [hk]⟩
    | true =>
      refine ⟨fun c => absurd c (by decide), fun _ => ?_⟩
      conv => whnf
      rw [show (8 - nI 7) &&& 7 = nI 1 from by decide]
      refine am_c0 (ct_rot38 (d := d + 1) (e := 1) hN hs (by decide)) ?_
      rw [rotE 1 7 rfl hk (by decide) (by decide) (by decide) (by decide)]
      conv => whnf
      exact ⟨trivial, rfl, by rw [hk]⟩
end EQO
