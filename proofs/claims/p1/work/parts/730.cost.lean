/-! the least cost: the class's call -/
section COD
variable {d : Nat} {M : mm_M} {G : Nat → Nat}
theorem xx_s (G : Nat → Nat) {S : Nat} (hS : S < 512) (h0 : 0 < S) : nI (xl G (S &&& (S - 1))) ^^^ nI (G (lw S)) = nI (xl G S) := by
  rw [nI_xor, ← xl_low G S hS h0]
set_option maxRecDepth 100000 in
theorem cl_out {n : Nat} {P : am_Q} {X : am_X} (hX : am_K (d + 2) false nm_X7_leastCost P X) (hn1 : 1 ≤ n) (hn : n ≤ 9) (hG : ∀ i, i < 9 → G i < 65536) (h71 : ∀ i, i < 9 → M.1 71 i = nI (G i)) (hP : ∀ f g c, cl_I G c f g (2 ^ n) → P (.inl (some (aI (nI (c (2 ^ n - 1)))))) (mm_i (mm_i M 81 f) 82 g)) : ∀ (m k : Nat), k + m = 2 ^ n → 0 < k → ∀ f g c, cl_I G c f g k → ∀ l3 l4, X 2 [some (aR 70), some (aI (nI n)), some (aI (nI k)), l3, l4] [] (mm_i (mm_i M 81 f) 82 g) := by
  have h9 : 2 ^ n ≤ 2 ^ 9 := Nat.pow_le_pow_right (by decide) hn
  intro m
  induction m with
  | zero =>
    intro k hk hk0 f g c hI l3 l4
    have hk : k = 2 ^ n := by omega
    subst hk
    refine am_run hX 5 _ _ _ _ ?_
    conv => whnf
    rw [sh2 n (by omega)]
    refine ⟨fun _ => ?_, fun c => absurd (nI_le (Nat.le_refl _) (by omega)) c⟩
    refine am_run hX 9 _ _ _ _ ?_
    conv => whnf
    rw [sh2 n (by omega), nI_s1 _ hk0]
    refine ⟨vp_in_nI (by show _ < 512; omega) (by decide), ?_⟩
    conv => whnf
    have h2 : 2 ^ 1 ≤ 2 ^ n := Nat.pow_le_pow_right (by decide) hn1
    refine ⟨trivial, ?_⟩
    rw [nI_clamp (by omega), mm_i1, (hI.2 (2 ^ n - 1) (by omega) (by omega)).1]
    exact hP f g c hI
  | succ m ih =>
    intro k hk hk0 f g c hI l3 l4
    have hk9 : k < 512 := by omega
    obtain ⟨_, _, l9, _, _, rl⟩ := lw_f k hk9 hk0
    refine am_run hX 5 _ _ _ _ ?_
    conv => whnf
    rw [sh2 n (by omega)]
    refine ⟨fun c => absurd c (nI_ge (by omega) (by omega)), fun _ => ?_⟩
    refine am_run hX 27 _ _ _ _ ?_
    conv => whnf
    refine am_c1 (ct_low (d := d) hk9 hk0) ?_
    conv => whnf
    rw [nI_s1 k hk0, nI_and]
    refine ⟨vp_in_nI (by show _ < 512; omega) (by decide), ?_⟩
    conv => whnf
    refine ⟨vp_in_nI (by show _ < 9; omega) (by decide), ?_⟩
    conv => whnf
    rw [nI_clamp (n := k &&& (k - 1)) (by omega), nI_clamp (n := lw k) (by omega), nI_clamp (n := k) (by omega)]
    have e81 : (mm_i (mm_i M 81 f) 82 g).1 81 (k &&& (k - 1)) = nI (xl G (k &&& (k - 1))) := by
      rw [mm_ne _ _ _ _ (by decide), mm_i1]
      exact hI.1 _ (by omega)
    have e71 : (mm_i (mm_i M 81 f) 82 g).1 71 (lw k) = nI (G (lw k)) := by
      rw [mm_ne _ _ _ _ (by decide), mm_ne _ _ _ _ (by decide)]
      exact h71 _ l9
    rw [e81, e71, xx_s G hk9 hk0]
    refine ⟨vp_in_nI (by show _ < 512; omega) (by decide), ?_⟩
    conv => whnf
    have eM : mm_i (mm_i (mm_i M 81 f) 82 g) 81 (upd ((mm_i (mm_i M 81 f) 82 g).1 81) k (nI (xl G k))) = mm_i (mm_i M 81 (upd f k (nI (xl G k)))) 82 g := by
      rw [mm_ne _ _ _ _ (by decide), mm_i1, mm_ic _ 82 81 _ _ (by decide), mm_ii]
    rw [eM]
    refine ⟨fun hr => ?_, fun hr => ?_⟩
    · have hr : k &&& (k - 1) ≠ 0 := fun e => hr (by rw [e]; rfl)
      refine am_run hX 7 _ _ _ _ ?_
      conv => whnf
      refine am_cq (cl_split (d := d) (G := G) (c := c) hk9 hk0 hr hG (fun T t0 t1 => ?_) (fun T t0 t1 => ?_) (fun T t0 t1 => (hI.2 T t0 t1).2.2)) ?_
      · rw [mm_ne _ _ _ _ (by decide), mm_i1]
        unfold upd
        rw [if_neg (by omega)]
        exact hI.1 T t1
      · rw [mm_i1]
        exact (hI.2 T t0 t1).1
      · rintro r M' ⟨rfl, v, rfl, v1, t, t0, t1, v2⟩
        refine ⟨_, rfl, ?_⟩
        conv => whnf
        refine ⟨vp_in_nI (by show _ < 512; omega) (by decide), ?_⟩
        conv => whnf
        rw [nI_clamp (by omega), mm_i1, mm_ii, nI_1]
        refine ih (k + 1) (by omega) (by omega) _ _ _ (cl_next hk0 hI (fun e => absurd e hr) (fun _ => ⟨fun a ha => ?_, t, rs_SP hk9 hk0 t0 t1, v2⟩) hG) _ _
        rcases SP_low hk9 ha with q | q
        · exact v1 a ha.1 q
        · rw [← cst_o]
          exact v1 _ (SP_o ha).1 q
    · have hr : k &&& (k - 1) = 0 := by
        have hr : ¬ ¬ nI (k &&& (k - 1)) = 0 := hr
        apply Decidable.byContradiction
        intro hc
        exact hr (nI_ne0 (by omega) (by omega))
      refine am_run hX 5 _ _ _ _ ?_
      conv => whnf
      refine ⟨vp_in_nI (by show _ < 512; omega) (by decide), ?_⟩
      conv => whnf
      rw [nI_clamp (by omega), mm_i1, mm_ii, nI_1]
      exact ih (k + 1) (by omega) (by omega) _ _ _ (cl_next (v := 0) hk0 hI (fun _ => rfl) (fun q => absurd hr q) hG) _ _
set_option maxRecDepth 100000 in
theorem cl_cost {n : Nat} (hn1 : 1 ≤ n) (hn : n ≤ 9) (hG : ∀ i, i < 9 → G i < 65536) (h71 : ∀ i, i < 9 → M.1 71 i = nI (G i)) (h0 : M.1 81 0 = 0) : am_M (d + 4) false nm_X11_cost [aR 0, aI (nI n)] M (fun r M' => ∃ f g c, cl_I G c f g (2 ^ n) ∧ r = .inl (some (aI (nI (c (2 ^ n - 1))))) ∧ M' = mm_i (mm_i M 81 f) 82 g) := by
  have h9 : 2 ^ n ≤ 2 ^ 9 := Nat.pow_le_pow_right (by decide) hn
  have h2 : 2 ^ 1 ≤ 2 ^ n := Nat.pow_le_pow_right (by decide) hn1
  refine ⟨rfl, rfl, rfl, fun X hX => am_run hX 20 _ _ _ _ ?_⟩
  conv => whnf
  refine ⟨fun c => absurd c (nI_nlt (b := 1) hn1 (by omega)), fun _ => ?_⟩
  conv => whnf
  refine ⟨fun _ => ?_, fun c => absurd (nI_le (b := 9) hn (by decide)) c⟩
  conv => whnf
  refine am_inl ⟨rfl, rfl, rfl, fun X hX => am_run hX 2 _ _ _ _ ?_⟩
  conv => whnf
  have key := cl_out (G := G) (M := M) (n := n) hX hn1 hn hG h71 (fun f g c hI => ?_) (2 ^ n - 1) 1 (by omega) (by decide) (M.1 81) (M.1 82) (fun _ => 0) ⟨fun T hT => ?_, fun T t0 t1 => by omega⟩ none none
  · rw [mm_iz, mm_iz] at key
    exact key
  · refine ⟨_, rfl, ?_⟩
    conv => whnf
    exact ⟨trivial, f, g, c, hI, rfl, rfl⟩
  · have : T = 0 := by omega
    subst this
    rw [h0, xl0]
    rfl
set_option maxRecDepth 100000 in
theorem cl_cost0 {p : Int32} (hp : p < 1 ∨ 9 < p) : am_M (d + 4) false nm_X11_cost [aR 0, aI p] M (am_q1 (aI (-1)) M) := by
  refine ⟨rfl, rfl, rfl, fun X hX => am_run hX 20 _ _ _ _ ?_⟩
  conv => whnf
  refine ⟨fun _ => ?_, fun c => ?_⟩
  · conv => whnf
    exact ⟨trivial, rfl, rfl⟩
  · conv => whnf
    refine ⟨fun c2 => absurd (hp.resolve_left c) (Int32.not_lt.mpr c2), fun _ => ?_⟩
    conv => whnf
    exact ⟨trivial, rfl, rfl⟩
end COD
