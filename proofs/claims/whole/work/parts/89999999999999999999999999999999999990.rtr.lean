/-! ROUTE: the class keeps a layer, by threes -/
def pk4 (f : Nat → Nat) : Nat → Nat
  | 0 => 0
  | i + 1 => pk4 f i + 2 ^ (2 * i) * f i
theorem pk4_l {f : Nat → Nat} (h : ∀ j, f j < 4) : ∀ n, pk4 f n < 2 ^ (2 * n)
  | 0 => Nat.one_pos
  | n + 1 => by
    have := pk4_l h n
    have h1 := h n
    have e : 2 ^ (2 * (n + 1)) = 2 ^ (2 * n) * 4 := by rw [Nat.mul_add, Nat.pow_add]
    rw [e]
    show pk4 f n + 2 ^ (2 * n) * f n < _
    have : 2 ^ (2 * n) * f n + 2 ^ (2 * n) ≤ 2 ^ (2 * n) * 4 := by
      rw [← Nat.mul_succ]
      exact Nat.mul_le_mul_left _ h1
    omega
theorem pk4_e {f : Nat → Nat} (h : ∀ j, f j < 4) {i : Nat} : ∀ n, i < n → pk4 f n / 2 ^ (2 * i) % 4 = f i
  | 0, hi => by omega
  | n + 1, hi => by
    by_cases e : i = n
    · subst e
      show (pk4 f i + 2 ^ (2 * i) * f i) / 2 ^ (2 * i) % 4 = _
      rw [Nat.add_mul_div_left _ _ (Nat.two_pow_pos _), Nat.div_eq_of_lt (pk4_l h i), Nat.zero_add]
      exact Nat.mod_eq_of_lt (h i)
    · have ih := pk4_e h n (i := i) (by omega)
      have e2 : 2 ^ (2 * n) = 2 ^ (2 * i) * (4 * 2 ^ (2 * (n - i - 1))) := by
        rw [show 4 = 2 ^ 2 from rfl, ← Nat.pow_add, ← Nat.pow_add]
        congr 1
        omega
      show (pk4 f n + 2 ^ (2 * n) * f n) / 2 ^ (2 * i) % 4 = _
      rw [e2, Nat.mul_assoc, Nat.add_mul_div_left _ _ (Nat.two_pow_pos _), Nat.mul_assoc, Nat.add_mul_mod_self_left]
      exact ih
theorem pk4_z {f : Nat → Nat} {n : Nat} : ∀ m, (∀ j, n ≤ j → j < n + m → f j = 0) → pk4 f (n + m) = pk4 f n
  | 0, _ => rfl
  | m + 1, h => by
    show pk4 f (n + m) + 2 ^ (2 * (n + m)) * f (n + m) = _
    rw [h (n + m) (by omega) (by omega), Nat.mul_zero, Nat.add_zero]
    exact pk4_z m (fun j a b => h j a (by omega))
/-- modulo 3, or no WAY -/
def kD (v : Nat) : Nat := if v = NKn then 3 else v % 3
def kdF (g : Nat → Nat) (W i j : Nat) : Nat := if 32 * i + j < cnW W then kD (g (32 * i + j)) else 0
theorem kD_4 (v : Nat) : kD v < 4 := by
  unfold kD
  split <;> omega
theorem kdF_4 (g : Nat → Nat) (W i j : Nat) : kdF g W i j < 4 := by
  unfold kdF
  split
  · exact kD_4 _
  · decide
/-- a layer that is kept -/
def lyrM (N : mm_M) (W op : Nat) (g : Nat → Nat) : Prop := ∀ i, i < 23 → N.2 77 (23 * op + i) = nJ (pk4 (kdF g W i) 32)
def klF (op : Nat) (M N : mm_M) : Prop := N.1 = M.1 ∧ (∀ k, k ≠ 77 → N.2 k = M.2 k) ∧ ∀ a, (a < 23 * op ∨ 23 * op + 23 ≤ a) → N.2 77 a = M.2 77 a
theorem klF_r (op : Nat) (M : mm_M) : klF op M M := ⟨rfl, fun _ _ => rfl, fun _ _ => rfl⟩
section RTR
variable {d : Nat} {M : mm_M} {W op : Nat} {g : Nat → Nat}
set_option maxRecDepth 100000 in
theorem kl_j {P : am_Q} {X : am_X} {i : Nat} {N : mm_M} (hX : am_K d false nm_X7_keepLayer P X) (hW : W ≤ 6) (hN : nrw N W g) (hi : i < 23) (hK : ∀ v6 v7, X 78 [some (aR 70), some (aI (nI op)), some (aI (nI (cnW W))), some (aI (nI i)), some (aJ (nJ (pk4 (kdF g W i) 32))), none, v6, v7] [] N) : ∀ (m j : Nat) (v7 : Option am_V), j + m = 32 → X 14 [some (aR 70), some (aI (nI op)), some (aI (nI (cnW W))), some (aI (nI i)), some (aJ (nJ (pk4 (kdF g W i) j))), none, some (aI (nI j)), v7] [] N := by
  have c7 := (cnW_7 W (by omega)).1
  intro m
  induction m with
  | zero =>
    intro j v7 hj
    obtain rfl : j = 32 := by omega
    refine am_run hX 3 _ _ _ _ ?_
    conv => whnf
    exact ⟨fun _ => hK _ _, fun z => absurd (by decide) z⟩
  | succ m ih =>
    intro j v7 hj
    have j32 : j < 32 := by omega
    have e3 : (32 : Int32) * nI i + nI j = nI (32 * i + j) := by rw [show (32 : Int32) = nI 32 from rfl, nI_mul, nI_add]
    refine am_run hX 3 _ _ _ _ ?_
    conv => whnf
    refine ⟨fun z => absurd z (nI_ge (a := j) (b := 32) j32 (by decide)), fun _ => ?_⟩
    refine am_run hX 7 _ _ _ _ ?_
    conv => whnf
    rw [e3]
    by_cases c : 32 * i + j < cnW W
    · refine ⟨fun z => absurd z (nI_ge c (by omega)), fun _ => ?_⟩
      obtain ⟨n1, n2⟩ := hN _ c
      have n2 : g (32 * i + j) ≤ 1073741824 := n2
      have ek : kdF g W i j = kD (g (32 * i + j)) := if_pos c
      have hl := pk4_l (kdF_4 g W i) j
      have fin : ∀ v v7', v = nI (kdF g W i j) → X 63 [some (aR 70), some (aI (nI op)), some (aI (nI (cnW W))), some (aI (nI i)), some (aJ (nJ (pk4 (kdF g W i) j))), none, some (aI (nI j)), v7'] [aI v, aJ (nJ (pk4 (kdF g W i) j))] N := by
        intro v v7' hv
        subst hv
        have k4 := kdF_4 g W i j
        refine am_run hX 9 _ _ _ _ ?_
        conv => whnf
        rw [show (2 : Int32) * nI j = nI (2 * j) from by rw [show (2 : Int32) = nI 2 from rfl, nI_mul], nI_Jg (by omega), nJ_shl (by omega), nJ_or, Nat.mul_comm (2 ^ (2 * j)), ix_or hl, nI_1]
        exact ih (j + 1) _ (by omega)
      refine am_run hX 9 _ _ _ _ ?_
      conv => whnf
      rw [e3]
      refine ⟨vp_in_nI (by show _ < 720; omega) (by decide), ?_⟩
      conv => whnf
      rw [nI_clamp (n := 32 * i + j) (by omega), n1]
      refine am_run hX 4 _ _ _ _ ?_
      conv => whnf
      rw [show (1073741824 : Int32) = nI 1073741824 from rfl, nI_eq (by omega) (by decide)]
      refine ⟨fun z => ?_, fun z => ?_⟩
      · refine am_run hX 3 _ _ _ _ ?_
        conv => whnf
        refine ⟨by decide, ?_⟩
        conv => whnf
        refine fin _ _ ?_
        rw [ek, show (3 : Int32) = nI 3 from rfl, nI_rm (by omega) (by decide)]
        unfold kD
        rw [if_neg (show ¬ g (32 * i + j) = NKn from z)]
      · refine am_run hX 2 _ _ _ _ ?_
        conv => whnf
        refine fin _ _ ?_
        rw [ek]
        unfold kD
        rw [if_pos (show g (32 * i + j) = NKn from Decidable.byContradiction z)]
        rfl
    · refine ⟨fun _ => ?_, fun z => absurd (nI_le (by omega) (by omega)) z⟩
      have e := pk4_z (f := kdF g W i) (n := j) (m + 1) (fun k a b => by
        unfold kdF
        rw [if_neg (by omega)])
      rw [show j + (m + 1) = 32 by omega] at e
      have := hK (some (aI (nI j))) v7
      rw [e] at this
      exact this
set_option maxRecDepth 100000 in
theorem kl_i {P : am_Q} {X : am_X} (hX : am_K d false nm_X7_keepLayer P X) (hW : W ≤ 6) (hN : nrw M W g) (ho : op < 300) (hP : ∀ N, klF op M N → lyrM N W op g → P (.inl none) N) : ∀ (m i : Nat) (N : mm_M) (v4 v6 v7 : Option am_V), i + m = 23 → klF op M N → (∀ i', i' < i → N.2 77 (23 * op + i') = nJ (pk4 (kdF g W i') 32)) → X 2 [some (aR 70), some (aI (nI op)), some (aI (nI (cnW W))), some (aI (nI i)), v4, none, v6, v7] [] N := by
  intro m
  induction m with
  | zero =>
    intro i N v4 v6 v7 hi hF hL
    obtain rfl : i = 23 := by omega
    refine am_run hX 3 _ _ _ _ ?_
    conv => whnf
    refine ⟨fun _ => ?_, fun z => absurd (by decide) z⟩
    refine am_run hX 1 _ _ _ _ ?_
    conv => whnf
    exact ⟨trivial, hP N hF hL⟩
  | succ m ih =>
    intro i N v4 v6 v7 hi hF hL
    have i23 : i < 23 := by omega
    have hN' : nrw N W g := by unfold nrw at hN ⊢; rw [hF.1]; exact hN
    refine am_run hX 3 _ _ _ _ ?_
    conv => whnf
    refine ⟨fun z => absurd z (nI_ge (a := i) (b := 23) i23 (by decide)), fun _ => ?_⟩
    refine am_run hX 4 _ _ _ _ ?_
    conv => whnf
    refine kl_j (op := op) (i := i) hX hW hN' i23 (fun v6' v7' => ?_) 32 0 _ (by omega)
    refine am_run hX 9 _ _ _ _ ?_
    conv => whnf
    rw [show (23 : Int32) * nI op + nI i = nI (23 * op + i) from by rw [show (23 : Int32) = nI 23 from rfl, nI_mul, nI_add]]
    refine ⟨vp_in_nI (by show _ < 6900; omega) (by decide), ?_⟩
    rw [nI_clamp (n := 23 * op + i) (by omega)]
    generalize hN1 : mm_l N 77 _ = N1
    refine am_run hX 2 _ _ _ _ ?_
    conv => whnf
    rw [nI_1]
    refine ih (i + 1) N1 _ _ _ (by omega) ⟨by rw [← hN1]; exact hF.1, fun k hk => by rw [← hN1, mm_lne _ _ _ _ hk]; exact hF.2.1 k hk, fun a ha => ?_⟩ (fun i' hi' => ?_)
    · rw [← hN1, mm_l2, upl_ne (by omega)]
      exact hF.2.2 a ha
    · rw [← hN1, mm_l2]
      by_cases c : i' = i
      · rw [c]
        exact upl_at
      · rw [upl_ne (by omega)]
        exact hL i' (by omega)
set_option maxRecDepth 100000 in
theorem ct_kpL (hW : W ≤ 6) (hN : nrw M W g) (ho : op < 300) : am_M (d + 1) false nm_X7_keepLayer [aR 70, aI (nI op), aI (nI (cnW W))] M (fun r N => r = .inl none ∧ klF op M N ∧ lyrM N W op g) := by
  refine ⟨rfl, rfl, rfl, fun X hX => am_run hX 2 _ _ _ _ ?_⟩
  conv => whnf
  exact kl_i (M := M) (g := g) hX hW hN ho (fun N a b => ⟨rfl, a, b⟩) 23 0 M _ _ _ (by omega) (klF_r op M) (fun i' h => absurd h (Nat.not_lt_zero _))
set_option maxRecDepth 100000 in
theorem ct_kptN {r : Nat} (hW : W ≤ 6) (hr : r < cnW W) (ho : op < 300) (hL : lyrM M W op g) : am_M (d + 1) false nm_X7_keptNeed [aR 70, aI (nI op), aI (nI r)] M (am_q1 (aI (nI (kD (g r)))) M) := by
  have c7 := (cnW_7 W (by omega)).1
  have e0 := hL (r / 32) (by omega)
  have hl := pk4_l (kdF_4 g W (r / 32)) 32
  have ee := pk4_e (kdF_4 g W (r / 32)) (i := r % 32) 32 (by omega)
  have es : kdF g W (r / 32) (r % 32) = kD (g r) := by
    unfold kdF
    rw [show 32 * (r / 32) + r % 32 = r by omega, if_pos hr]
  refine ⟨rfl, rfl, rfl, fun X hX => am_run hX 20 _ _ _ _ ?_⟩
  conv => whnf
  rw [show (23 : Int32) * nI op + nI r >>> ((5 : Int32) &&& 31) = nI (23 * op + r / 32) from by rw [show (23 : Int32) = nI 23 from rfl, show (5 : Int32) = nI 5 from rfl, nI_sh (by omega) 5 (by decide), nI_mul, nI_add]]
  refine ⟨vp_in_nI (by show _ < 6900; omega) (by decide), ?_⟩
  conv => whnf
  refine ⟨trivial, ?_, rfl⟩
  rw [nI_clamp (n := 23 * op + r / 32) (by omega), e0, m31, show (2 : Int32) * nI (r % 32) = nI (2 * (r % 32)) from by rw [show (2 : Int32) = nI 2 from rfl, nI_mul], nJ_us (by omega) (by omega), nJ_32, nI_m3, ee, es]
end RTR
