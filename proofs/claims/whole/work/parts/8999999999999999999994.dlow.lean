/-! DENSITIES: the least power, the class -/
section DLW
variable {d : Nat} {M : mm_M} {g : Nat → Int64}
set_option maxRecDepth 100000 in
theorem cl_l107 {P : am_Q} {X : am_X} {N : Nat} {xs : Nat → R4} (hX : am_K d false nm_X6_canLower P X) (hN : N ≤ 64) (hs : M.1 105 2 = nI N) (hP : P (.inl (some (aI (if allN (fun j => dvB (xs j)) N = true then 1 else 0)))) (mm_l M 107 (cq g N xs))) : ∀ (m i : Nat), i + m = N → allN (fun j => dvB (xs j)) i = true → X 2 [some (aR 105), some (aI (nI (4 * i)))] [] (mm_l M 107 (cq g N xs)) := by
  intro m
  induction m with
  | zero =>
    intro i hi ha
    have hi : i = N := by omega
    subst hi
    refine am_run hX 12 _ _ _ _ ?_
    conv => whnf
    rw [show (mm_l M 107 (cq g i xs)).1 105 2 = nI i from hs, show (4 : Int32) = nI 4 from rfl, nI_mul]
    refine ⟨fun _ => ?_, fun c => absurd (nI_le (by omega) (by omega)) c⟩
    conv => whnf
    rw [if_pos ha] at hP
    exact ⟨rfl, hP⟩
  | succ m ih =>
    intro i hi ha
    have ih := ih (i + 1) (by omega)
    have hi2 : i < N := by omega
    refine am_run hX 6 _ _ _ _ ?_
    conv => whnf
    rw [show (mm_l M 107 (cq g N xs)).1 105 2 = nI N from hs, show (4 : Int32) = nI 4 from rfl, nI_mul]
    refine ⟨fun c => absurd c (nI_ge (by omega) (by omega)), fun _ => ?_⟩
    have e1 : nI (4 * i) + 1 = nI (4 * i + 1) := nI_1 _
    have e2 : nI (4 * i) + 2 = nI (4 * i + 2) := by rw [show (2 : Int32) = nI 2 from rfl, nI_add]
    have e3 : nI (4 * i) + 3 = nI (4 * i + 3) := by rw [show (3 : Int32) = nI 3 from rfl, nI_add]
    refine am_run hX 30 _ _ _ _ ?_
    conv => whnf
    refine ⟨vp_in_nI (by show _ < 256; omega) (by decide), ?_⟩
    conv => whnf
    rw [e2]
    refine ⟨vp_in_nI (by show _ < 256; omega) (by decide), ?_⟩
    conv => whnf
    rw [e1]
    refine ⟨vp_in_nI (by show _ < 256; omega) (by decide), ?_⟩
    conv => whnf
    rw [e3]
    refine ⟨vp_in_nI (by show _ < 256; omega) (by decide), ?_⟩
    conv => whnf
    rw [nI_clamp (n := 4 * i) (by omega), nI_clamp (n := 4 * i + 1) (by omega), nI_clamp (n := 4 * i + 2) (by omega), nI_clamp (n := 4 * i + 3) (by omega), mm_l2, cq_at0 hi2, cq_at hi2 (show 1 < 4 by decide), cq_at hi2 (show 2 < 4 by decide), cq_at hi2 (show 3 < 4 by decide), lg_0, lo2_par]
    refine ⟨fun c => ?_, fun c => ?_⟩
    · refine am_run hX 2 _ _ _ _ ?_
      conv => whnf
      rw [show nI (4 * i) + 4 = nI (4 * (i + 1)) from by rw [show (4 : Int32) = nI 4 from rfl, nI_add]; rfl]
      exact ih (by simp only [allN]; rw [ha, (dvB_iff (xs i)).mpr c]; rfl)
    · refine am_run hX 3 _ _ _ _ ?_
      conv => whnf
      rw [if_neg (fun q => c ((dvB_iff (xs i)).mp ((all_iff N).mp q i hi2)))] at hP
      exact ⟨rfl, hP⟩
set_option maxRecDepth 100000 in
theorem ct_canLow107 {N : Nat} {xs : Nat → R4} (hN : N ≤ 64) (hs : M.1 105 2 = nI N) : am_M (d + 1) false nm_X6_canLower [aR 105] (mm_l M 107 (cq g N xs)) (am_q1 (aI (if allN (fun j => dvB (xs j)) N = true then 1 else 0)) (mm_l M 107 (cq g N xs))) := by
  refine ⟨rfl, rfl, rfl, fun X hX => am_run hX 2 _ _ _ _ ?_⟩
  conv => whnf
  exact cl_l107 hX hN hs ⟨rfl, rfl⟩ N 0 (by omega) rfl
set_option maxRecDepth 100000 in
theorem lw_1107 {P : am_Q} {X : am_X} {N : Nat} {xs : Nat → R4} (hX : am_K (d + 1) false nm_X6_lower P X) (hN : N ≤ 64) (hs : M.1 105 2 = nI N) (hK : X 47 [some (aR 105), some (aI (nI (4 * N)))] [] (mm_l M 107 (cq g N (rotm (fun _ => True) rr xs N)))) : ∀ (m i : Nat), i + m = N → X 26 [some (aR 105), some (aI (nI (4 * i)))] [] (mm_l M 107 (cq g N (rotm (fun _ => True) rr xs i))) := by
  intro m
  induction m with
  | zero =>
    intro i hi
    have hi : i = N := by omega
    subst hi
    refine am_run hX 6 _ _ _ _ ?_
    conv => whnf
    rw [show (mm_l M 107 (cq g i (rotm (fun _ => True) rr xs i))).1 105 2 = nI i from hs, show (4 : Int32) = nI 4 from rfl, nI_mul]
    exact ⟨fun _ => hK, fun c => absurd (nI_le (by omega) (by omega)) c⟩
  | succ m ih =>
    intro i hi
    have ih := ih (i + 1) (by omega)
    refine am_run hX 6 _ _ _ _ ?_
    conv => whnf
    rw [show (mm_l M 107 (cq g N (rotm (fun _ => True) rr xs i))).1 105 2 = nI N from hs, show (4 : Int32) = nI 4 from rfl, nI_mul]
    refine ⟨fun c => absurd c (nI_ge (by omega) (by omega)), fun _ => ?_⟩
    refine am_run hX 5 _ _ _ _ ?_
    conv => whnf
    refine am_c0 (ct_times107 (d := d) hN (by omega)) ?_
    rw [rot_at, rot_s (S := fun _ => True) trivial]
    conv => whnf
    rw [show nI (4 * i) + 4 = nI (4 * (i + 1)) from by rw [show (4 : Int32) = nI 4 from rfl, nI_add]; rfl]
    exact ih
set_option maxRecDepth 100000 in
theorem lw_2107 {P : am_Q} {X : am_X} {N : Nat} {xs : Nat → R4} (hX : am_K (d + 1) false nm_X6_lower P X) (hN : N ≤ 64) (hs : M.1 105 2 = nI N) (hb : ∀ j, j < N → ∀ q, q < 4 → -2 ^ 63 ≤ pp (xs j) q ∧ pp (xs j) q < 2 ^ 63) (hK : ∀ l, X 75 [some (aR 105), some (aI l)] [] (mm_l M 107 (cq g N (hf xs (4 * N))))) : ∀ (m p : Nat), p + m = 4 * N → X 49 [some (aR 105), some (aI (nI p))] [] (mm_l M 107 (cq g N (hf xs p))) := by
  intro m
  induction m with
  | zero =>
    intro p hp
    have hp : p = 4 * N := by omega
    subst hp
    refine am_run hX 6 _ _ _ _ ?_
    conv => whnf
    rw [show (mm_l M 107 (cq g N (hf xs (4 * N)))).1 105 2 = nI N from hs, show (4 : Int32) = nI 4 from rfl, nI_mul]
    exact ⟨fun _ => hK _, fun c => absurd (nI_le (by omega) (by omega)) c⟩
  | succ m ih =>
    intro p hp
    have ih := ih (p + 1) (by omega)
    obtain ⟨i, q, hq, rfl⟩ : ∃ i q, q < 4 ∧ p = 4 * i + q := ⟨p / 4, p % 4, Nat.mod_lt _ (by decide), by omega⟩
    have hi : i < N := by omega
    obtain ⟨b1, b2⟩ := hb i hi q hq
    refine am_run hX 6 _ _ _ _ ?_
    conv => whnf
    rw [show (mm_l M 107 (cq g N (hf xs (4 * i + q)))).1 105 2 = nI N from hs, show (4 : Int32) = nI 4 from rfl, nI_mul]
    refine ⟨fun c => absurd c (nI_ge (by omega) (by omega)), fun _ => ?_⟩
    refine am_run hX 10 _ _ _ _ ?_
    conv => whnf
    refine ⟨vp_in_nI (by show _ < 256; omega) (by decide), ?_⟩
    conv => whnf
    refine ⟨vp_in_nI (by show _ < 256; omega) (by decide), ?_⟩
    conv => whnf
    rw [nI_clamp (n := 4 * i + q) (by omega), nI_1, mm_l2, mm_ll, cq_at hi hq, pp_hf _ _ _ hq, if_neg (by omega), lI_sh b1 b2, hf_u hi hq]
    exact ih
set_option maxRecDepth 100000 in
theorem lw_l107 {P : am_Q} {X : am_X} {N : Nat} {F : Nat × (Nat → R4)} (hX : am_K (d + 1) false nm_X6_lower P X) (hN : N ≤ 64) (hP : P (.inl none) (mm_l (mm_i M 105 (upd (upd (M.1 105) 2 (nI N)) 3 (nI F.1))) 107 (cq g N F.2))) : ∀ (k : Nat) (xs : Nat → R4), k < 2 ^ 30 → (∀ j, j < N → bd (xs j)) → lowA N k xs = F → ∀ l, X 0 [some (aR 105), l] [] (mm_l (mm_i M 105 (upd (upd (M.1 105) 2 (nI N)) 3 (nI k))) 107 (cq g N xs)) := by
  intro k
  induction k with
  | zero =>
    intro xs hk hb hF l
    refine am_run hX 5 _ _ _ _ ?_
    conv => whnf
    refine ⟨fun _ => ?_, fun c => absurd (by show (mm_l (mm_i M 105 (upd (upd (M.1 105) 2 (nI N)) 3 (nI 0))) 107 (cq g N xs)).1 105 3 ≤ 0; rw [show (mm_l (mm_i M 105 (upd (upd (M.1 105) 2 (nI N)) 3 (nI 0))) 107 (cq g N xs)).1 105 3 = nI 0 from rfl]; decide) c⟩
    conv => whnf
    subst hF
    exact ⟨trivial, hP⟩
  | succ k ih =>
    intro xs hk hb hF l
    simp only [lowA] at hF
    refine am_run hX 3 _ _ _ _ ?_
    conv => whnf
    rw [show (mm_l (mm_i M 105 (upd (upd (M.1 105) 2 (nI N)) 3 (nI (k + 1)))) 107 (cq g N xs)).1 105 3 = nI (k + 1) from rfl]
    refine ⟨fun c => absurd c (nI_nle (by omega) (by omega)), fun _ => ?_⟩
    refine am_run hX 3 _ _ _ _ ?_
    conv => whnf
    refine am_c1 (ct_canLow107 (d := d) (M := mm_i M 105 (upd (upd (M.1 105) 2 (nI N)) 3 (nI (k + 1)))) hN (by rw [mm_i1]; rfl)) ?_
    by_cases ha : allN (fun j => dvB (xs j)) N = true
    · rw [if_pos ha] at hF ⊢
      conv => whnf
      refine ⟨fun c => absurd c (by decide), fun _ => ?_⟩
      refine am_run hX 8 _ _ _ _ ?_
      conv => whnf
      rw [show (mm_l (mm_i M 105 (upd (upd (M.1 105) 2 (nI N)) 3 (nI (k + 1)))) 107 (cq g N xs)).1 105 3 = nI (k + 1) from rfl, show nI (k + 1) - 1 = nI k from by rw [show (1 : Int32) = nI 1 from rfl, nI_sub (by omega)]; rfl, show (mm_l (mm_i M 105 (upd (upd (M.1 105) 2 (nI N)) 3 (nI (k + 1)))) 107 (cq g N xs)).1 105 = upd (upd (M.1 105) 2 (nI N)) 3 (nI (k + 1)) from rfl, upd_two]
      have em : mm_i (mm_l (mm_i M 105 (upd (upd (M.1 105) 2 (nI N)) 3 (nI (k + 1)))) 107 (cq g N xs)) 105 (upd (upd (M.1 105) 2 (nI N)) 3 (nI k)) = mm_l (mm_i M 105 (upd (upd (M.1 105) 2 (nI N)) 3 (nI k))) 107 (cq g N xs) := by
        show mm_l (mm_i (mm_i M 105 (upd (upd (M.1 105) 2 (nI N)) 3 (nI (k + 1)))) 105 (upd (upd (M.1 105) 2 (nI N)) 3 (nI k))) 107 (cq g N xs) = _
        rw [mm_ii]
      rw [em]
      have key := lw_1107 (d := d) (M := mm_i M 105 (upd (upd (M.1 105) 2 (nI N)) 3 (nI k))) (g := g) (xs := xs) hX hN (by rw [mm_i1]; rfl) ?_ N 0 (by omega)
      · rw [rot_0] at key
        exact key
      · refine am_run hX 2 _ _ _ _ ?_
        conv => whnf
        have key2 := lw_2107 (d := d) (M := mm_i M 105 (upd (upd (M.1 105) 2 (nI N)) 3 (nI k))) (g := g) (xs := rotm (fun _ => True) rr xs N) hX hN (by rw [mm_i1]; rfl) (fun j hj => by rw [rot_T hj]; exact bd_rr (hb j hj)) ?_ (4 * N) 0 (by omega)
        · rw [hf_0] at key2
          exact key2
        · intro l2
          rw [cq_e (ys := fun j => hv (xs j)) fun j hj => hf_N hj]
          refine am_run hX 1 _ _ _ _ ?_
          conv => whnf
          exact ih (fun j => hv (xs j)) (by omega) (fun j hj => bd_hv (hb j hj)) hF _
    · rw [if_neg ha] at hF ⊢
      conv => whnf
      refine ⟨fun _ => ?_, fun c => absurd rfl c⟩
      refine am_run hX 2 _ _ _ _ ?_
      conv => whnf
      subst hF
      exact ⟨trivial, hP⟩
theorem ct_lower107 {N k : Nat} {xs : Nat → R4} (hN : N ≤ 64) (hk : k < 2 ^ 30) (hb : ∀ j, j < N → bd (xs j)) : am_M (d + 2) false nm_X6_lower [aR 105] (mm_l (mm_i M 105 (upd (upd (M.1 105) 2 (nI N)) 3 (nI k))) 107 (cq g N xs)) (am_q0 (mm_l (mm_i M 105 (upd (upd (M.1 105) 2 (nI N)) 3 (nI (lowA N k xs).1))) 107 (cq g N (lowA N k xs).2))) := by
  refine ⟨rfl, rfl, rfl, fun X hX => ?_⟩
  exact lw_l107 hX hN ⟨rfl, rfl⟩ k xs hk hb rfl _
end DLW
