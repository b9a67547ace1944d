/-! the pair commutes -/
/-- whether two PAULIS (their keys) commute -/
def cm (a b : Nat) : Prop := (pc (a / 256 &&& b) + pc (a &&& b / 256)) % 2 = 0
theorem nI_s8 {n : Nat} (h : n < 2 ^ 31) : nI n >>> ((8 : Int32) &&& 31) = nI (n / 256) := nI_sh h 8 (by decide)
theorem and_m {a b : Nat} (h : a < 256) : a &&& b % 256 = a &&& b := by
  rw [show (256 : Nat) = 2 ^ 8 from rfl, ← Nat.and_two_pow_sub_one_eq_mod, Nat.and_comm b, ← Nat.and_assoc, Nat.and_two_pow_sub_one_eq_mod, Nat.mod_eq_of_lt h]
theorem and_m2 {a b : Nat} (h : b < 256) : a % 256 &&& b = a &&& b := by
  rw [Nat.and_comm, and_m h, Nat.and_comm]
theorem pc_b (n : Nat) : pc n ≤ 32 := pcn_b 32 n
theorem irem2 {n : Nat} (h : n < 100) : nI n - nI n / 2 * 2 = nI (n % 2) := by
  have : ∀ n, n < 100 → nI n - nI n / 2 * 2 = nI (n % 2) := by decide +kernel
  exact this n h
section CMM
variable {d : Nat} {M : mm_M} {s0 s1 : Nat} {κ μ : Nat → Nat}
set_option maxRecDepth 100000 in
theorem cx_l2 {P : am_Q} {X : am_X} {a b i : Nat} (hX : am_K (d + 1) false nm_X9_allCommute P X) (hr : sm_r M a b) (hs0 : s0 ≤ 150) (hs1 : s1 ≤ 150) (e1 : M.1 96 1 = nI s1) (hk : ∀ i, i < s0 → M.1 (85 + a) i = nI (κ i) ∧ κ i < 65536) (hm : ∀ i, i < s1 → M.1 (85 + b) i = nI (μ i) ∧ μ i < 65536) (hi : i < s0) (hP0 : (∃ i j, i < s0 ∧ j < s1 ∧ ¬ cm (κ i) (μ j)) → P (.inl (some (aI 0))) M) (hK : (∀ j, j < s1 → cm (κ i) (μ j)) → ∀ l2 l3 l4, X 77 [some (aR 83), some (aI (nI i)), l2, l3, l4] [] M) : ∀ (m j : Nat), j + m = s1 → (∀ q, q < j → cm (κ i) (μ q)) → ∀ l3 l4, X 14 [some (aR 83), some (aI (nI i)), some (aI (nI j)), l3, l4] [] M := by
  obtain ⟨hab, ⟨a1, a2, a3⟩, _⟩ := hr
  intro m
  induction m with
  | zero =>
    intro j hj hq l3 l4
    have hj : j = s1 := by omega
    subst hj
    refine am_run hX 6 _ _ _ _ ?_
    conv => whnf
    refine ⟨vp_in_nI (n := 1) (N := 3) (by decide) (by decide), ?_⟩
    conv => whnf
    rw [show M.1 96 (Int32.toNatClampNeg 1) = nI j from e1]
    exact ⟨fun _ => hK hq _ _ _, fun c => absurd (nI_le (Nat.le_refl _) (by omega)) c⟩
  | succ m ih =>
    intro j hj hq l3 l4
    obtain ⟨k1, k2⟩ := hk i hi
    obtain ⟨m1, m2⟩ := hm j (by omega)
    have hx : κ i / 256 &&& μ j < 65536 := Nat.lt_of_le_of_lt Nat.and_le_right m2
    have hy : κ i &&& μ j / 256 < 65536 := Nat.lt_of_le_of_lt Nat.and_le_left k2
    refine am_run hX 6 _ _ _ _ ?_
    conv => whnf
    refine ⟨vp_in_nI (n := 1) (N := 3) (by decide) (by decide), ?_⟩
    conv => whnf
    rw [show M.1 96 (Int32.toNatClampNeg 1) = nI s1 from e1]
    refine ⟨fun c => absurd c (nI_ge (by omega) (by omega)), fun _ => ?_⟩
    rcases hab with ⟨rfl, rfl⟩ | ⟨rfl, rfl⟩ <;> (
      refine am_run hX 30 _ _ _ _ ?_
      conv => whnf
      rw [show M.1 84 (Int32.toNatClampNeg 0) = nI _ from a1]
      refine ⟨⟨vp_in_nI (n := 0) (N := 3) (by decide) (by decide), by decide⟩, ?_⟩
      conv => whnf
      refine ⟨vp_in_nI (by show i < 150; omega) (by decide), ?_⟩
      conv => whnf
      rw [show M.1 84 (Int32.toNatClampNeg 1) = nI _ from a2]
      refine ⟨⟨vp_in_nI (n := 1) (N := 3) (by decide) (by decide), by decide⟩, ?_⟩
      conv => whnf
      refine ⟨vp_in_nI (by show j < 150; omega) (by decide), ?_⟩
      conv => whnf
      rw [nI_clamp (n := i) (by omega), nI_clamp (n := j) (by omega)]
      first
      | rw [show M.1 (84 + 1 + (nI 0).toNatClampNeg) i = nI (κ i) from k1, show M.1 (84 + 1 + (nI 1).toNatClampNeg) j = nI (μ j) from m1]
      | rw [show M.1 (84 + 1 + (nI 1).toNatClampNeg) i = nI (κ i) from k1, show M.1 (84 + 1 + (nI 0).toNatClampNeg) j = nI (μ j) from m1]
      rw [nI_s8 (by omega), nI_and]
      refine am_c1 (ct_bit16 d _ hx _) ?_
      conv => whnf
      rw [nI_s8 (by omega), nI_and]
      refine am_c1 (ct_bit16 d _ hy _) ?_
      conv => whnf
      have h1 := pc_b (κ i / 256 &&& μ j)
      have h2 := pc_b (κ i &&& μ j / 256)
      rw [nI_add, nI_m1]
      refine ⟨fun hc => ?_, fun hc => ?_⟩
      · have hc : cm (κ i) (μ j) := by
          unfold cm
          apply Decidable.byContradiction
          intro h3
          exact nI_ne0 (by omega) (by omega) hc
        refine am_run hX 2 _ _ _ _ ?_
        conv => whnf
        rw [nI_1]
        refine ih (j + 1) (by omega) (fun q hq' => ?_) _ _
        by_cases e : q = j
        · rw [e]; exact hc
        · exact hq q (by omega)
      · have hc : ¬ cm (κ i) (μ j) := fun q => by
          unfold cm at q
          rw [q] at hc
          exact hc rfl
        refine am_run hX 2 _ _ _ _ ?_
        conv => whnf
        exact ⟨rfl, hP0 ⟨i, j, hi, by omega, hc⟩⟩)
set_option maxRecDepth 100000 in
theorem cx_l1 {P : am_Q} {X : am_X} {a b : Nat} (hX : am_K (d + 1) false nm_X9_allCommute P X) (hr : sm_r M a b) (hs0 : s0 ≤ 150) (hs1 : s1 ≤ 150) (e0 : M.1 96 0 = nI s0) (e1 : M.1 96 1 = nI s1) (hk : ∀ i, i < s0 → M.1 (85 + a) i = nI (κ i) ∧ κ i < 65536) (hm : ∀ i, i < s1 → M.1 (85 + b) i = nI (μ i) ∧ μ i < 65536) (hP0 : (∃ i j, i < s0 ∧ j < s1 ∧ ¬ cm (κ i) (μ j)) → P (.inl (some (aI 0))) M) (hP1 : (∀ i j, i < s0 → j < s1 → cm (κ i) (μ j)) → P (.inl (some (aI 1))) M) : ∀ (m i : Nat), i + m = s0 → (∀ i' j, i' < i → j < s1 → cm (κ i') (μ j)) → ∀ l2 l3 l4, X 2 [some (aR 83), some (aI (nI i)), l2, l3, l4] [] M := by
  intro m
  induction m with
  | zero =>
    intro i hi hq l2 l3 l4
    have hi : i = s0 := by omega
    subst hi
    refine am_run hX 8 _ _ _ _ ?_
    conv => whnf
    refine ⟨vp_in_nI (n := 0) (N := 3) (by decide) (by decide), ?_⟩
    conv => whnf
    rw [show M.1 96 (Int32.toNatClampNeg 0) = nI i from e0]
    refine ⟨fun _ => ?_, fun c => absurd (nI_le (Nat.le_refl _) (by omega)) c⟩
    conv => whnf
    exact ⟨rfl, hP1 hq⟩
  | succ m ih =>
    intro i hi hq l2 l3 l4
    refine am_run hX 6 _ _ _ _ ?_
    conv => whnf
    refine ⟨vp_in_nI (n := 0) (N := 3) (by decide) (by decide), ?_⟩
    conv => whnf
    rw [show M.1 96 (Int32.toNatClampNeg 0) = nI s0 from e0]
    refine ⟨fun c => absurd c (nI_ge (by omega) (by omega)), fun _ => ?_⟩
    refine am_run hX 2 _ _ _ _ ?_
    conv => whnf
    refine cx_l2 hX hr hs0 hs1 e1 hk hm (by omega) hP0 (fun hall l2 l3 l4 => ?_) s1 0 (by omega) (fun q hq => by omega) _ _
    refine am_run hX 2 _ _ _ _ ?_
    conv => whnf
    rw [nI_1]
    refine ih (i + 1) (by omega) (fun i' j h1 h2 => ?_) _ _ _
    by_cases e : i' = i
    · rw [e]; exact hall j h2
    · exact hq i' j (by omega) h2
/-- what commutes answers -/
def cmv (s0 s1 : Nat) (κ μ : Nat → Nat) (v : Int32) : Prop := ((∃ i j, i < s0 ∧ j < s1 ∧ ¬ cm (κ i) (μ j)) ∧ v = 0) ∨ ((∀ i j, i < s0 → j < s1 → cm (κ i) (μ j)) ∧ v = 1)
theorem cmv_u {v v' : Int32} (h : cmv s0 s1 κ μ v) (h' : cmv s0 s1 κ μ v') : v = v' := by
  rcases h with ⟨⟨i, j, h1, h2, h3⟩, e⟩ | ⟨h, e⟩ <;> rcases h' with ⟨⟨i', j', h1', h2', h3'⟩, e'⟩ | ⟨h', e'⟩
  · rw [e, e']
  · exact absurd (h' i j h1 h2) h3
  · exact absurd (h i' j' h1' h2') h3'
  · rw [e, e']
set_option maxRecDepth 100000 in
theorem cx_1 {a b : Nat} (hr : sm_r M a b) (hs0 : s0 ≤ 150) (hs1 : s1 ≤ 150) (e0 : M.1 96 0 = nI s0) (e1 : M.1 96 1 = nI s1) (hk : ∀ i, i < s0 → M.1 (85 + a) i = nI (κ i) ∧ κ i < 65536) (hm : ∀ i, i < s1 → M.1 (85 + b) i = nI (μ i) ∧ μ i < 65536) : am_M (d + 3) false nm_X11_commutes [aR 0] M (fun r M' => M' = M ∧ ∃ v, r = .inl (some (aI v)) ∧ cmv s0 s1 κ μ v) := by
  refine ⟨rfl, rfl, rfl, fun X hX => am_run hX 10 _ _ _ _ ?_⟩
  conv => whnf
  refine am_inl ⟨rfl, rfl, rfl, fun X hX => am_run hX 2 _ _ _ _ ?_⟩
  conv => whnf
  refine cx_l1 hX hr hs0 hs1 e0 e1 hk hm (fun h => ⟨_, rfl, ?_⟩) (fun h => ⟨_, rfl, ?_⟩) s0 0 (by omega) (fun i' j h => by omega) _ _ _
  · conv => whnf
    exact ⟨rfl, rfl, _, rfl, Or.inl ⟨h, rfl⟩⟩
  · conv => whnf
    exact ⟨rfl, rfl, _, rfl, Or.inr ⟨h, rfl⟩⟩
set_option maxRecDepth 100000 in
theorem ct_comm {a b : Nat} (ha : a < 65536) (hb : b < 65536) : am_M (d + 2) false nm_X12_commute [aI (nI (a / 256)), aI (nI (a % 256)), aI (nI (b / 256)), aI (nI (b % 256))] M (fun r M' => M' = M ∧ ((cm a b ∧ r = .inl (some (aI 1))) ∨ (¬ cm a b ∧ r = .inl (some (aI 0))))) := by
  have hx : a / 256 &&& b < 65536 := Nat.lt_of_le_of_lt Nat.and_le_right hb
  have hy : a &&& b / 256 < 65536 := Nat.lt_of_le_of_lt Nat.and_le_left ha
  refine ⟨rfl, rfl, rfl, fun X hX => am_run hX 30 _ _ _ _ ?_⟩
  conv => whnf
  rw [nI_and, and_m (by omega)]
  refine am_c1 (ct_count d _ (by omega) _) ?_
  conv => whnf
  rw [nI_and, and_m2 (by omega)]
  refine am_c1 (ct_count d _ (by omega) _) ?_
  conv => whnf
  refine ⟨by decide, ?_⟩
  conv => whnf
  have h1 := pc_b (a / 256 &&& b)
  have h2 := pc_b (a &&& b / 256)
  rw [nI_add, irem2 (by omega)]
  refine ⟨fun hc => ?_, fun hc => ?_⟩
  · have hc : ¬ cm a b := fun q => by
      unfold cm at q
      rw [q] at hc
      exact hc rfl
    conv => whnf
    exact ⟨rfl, rfl, Or.inr ⟨hc, rfl⟩⟩
  · have hc : cm a b := by
      unfold cm
      apply Decidable.byContradiction
      intro h3
      exact hc (nI_ne0 (by omega) (by omega))
    conv => whnf
    exact ⟨rfl, rfl, Or.inl ⟨hc, rfl⟩⟩
set_option maxRecDepth 100000 in
theorem cy_l2 {P : am_Q} {X : am_X} {i : Nat} (hX : am_K (d + 2) false nm_X12_commutes P X) (hs0 : s0 ≤ 150) (hs1 : s1 ≤ 150) (e1 : M.1 141 1 = nI s1) (hk : ∀ i, i < s0 → M.1 143 i = nI (κ i) ∧ κ i < 65536) (hm : ∀ i, i < s1 → M.1 143 (150 + i) = nI (μ i) ∧ μ i < 65536) (hi : i < s0) (hP0 : (∃ i j, i < s0 ∧ j < s1 ∧ ¬ cm (κ i) (μ j)) → P (.inl (some (aI 0))) M) (hK : (∀ j, j < s1 → cm (κ i) (μ j)) → ∀ l2, X 87 [some (aR 108), some (aI (nI i)), l2] [] M) : ∀ (m j : Nat), j + m = s1 → (∀ q, q < j → cm (κ i) (μ q)) → X 21 [some (aR 108), some (aI (nI i)), some (aI (nI (150 + j)))] [] M := by
  intro m
  induction m with
  | zero =>
    intro j hj hq
    have hj : j = s1 := by omega
    subst hj
    refine am_run hX 8 _ _ _ _ ?_
    conv => whnf
    refine ⟨vp_in_nI (n := 1) (N := 2) (by decide) (by decide), ?_⟩
    conv => whnf
    rw [show M.1 141 (Int32.toNatClampNeg 1) = nI j from e1, show (150 : Int32) = nI 150 from rfl, nI_add]
    exact ⟨fun _ => hK hq _, fun c => absurd (nI_le (Nat.le_refl _) (by omega)) c⟩
  | succ m ih =>
    intro j hj hq
    obtain ⟨k1, k2⟩ := hk i hi
    obtain ⟨m1, m2⟩ := hm j (by omega)
    refine am_run hX 8 _ _ _ _ ?_
    conv => whnf
    refine ⟨vp_in_nI (n := 1) (N := 2) (by decide) (by decide), ?_⟩
    conv => whnf
    rw [show M.1 141 (Int32.toNatClampNeg 1) = nI s1 from e1, show (150 : Int32) = nI 150 from rfl, nI_add]
    refine ⟨fun c => absurd c (nI_ge (by omega) (by omega)), fun _ => ?_⟩
    refine am_run hX 26 _ _ _ _ ?_
    conv => whnf
    refine ⟨vp_in_nI (by show i < 300; omega) (by decide), ?_⟩
    conv => whnf
    refine ⟨vp_in_nI (by show i < 300; omega) (by decide), ?_⟩
    conv => whnf
    refine ⟨vp_in_nI (by show _ < 300; omega) (by decide), ?_⟩
    conv => whnf
    refine ⟨vp_in_nI (by show _ < 300; omega) (by decide), ?_⟩
    conv => whnf
    rw [nI_clamp (n := i) (by omega), nI_clamp (n := 150 + j) (by omega), k1, m1, nI_s8 (by omega), nI_s8 (by omega), nI_m255, nI_m255]
    refine am_cq (ct_comm (d := d) k2 m2) ?_
    rintro r M' ⟨rfl, ⟨hc, rfl⟩ | ⟨hc, rfl⟩⟩
    · refine ⟨_, rfl, ?_⟩
      conv => whnf
      refine ⟨fun _ => ?_, fun c => absurd (by decide) c⟩
      refine am_run hX 2 _ _ _ _ ?_
      conv => whnf
      rw [nI_1]
      refine ih (j + 1) (by omega) (fun q hq' => ?_)
      by_cases e : q = j
      · rw [e]; exact hc
      · exact hq q (by omega)
    · refine ⟨_, rfl, ?_⟩
      conv => whnf
      refine ⟨fun c => absurd rfl c, fun _ => ?_⟩
      refine am_run hX 2 _ _ _ _ ?_
      conv => whnf
      exact ⟨rfl, hP0 ⟨i, j, hi, by omega, hc⟩⟩
set_option maxRecDepth 100000 in
theorem cy_l1 {P : am_Q} {X : am_X} (hX : am_K (d + 2) false nm_X12_commutes P X) (hs0 : s0 ≤ 150) (hs1 : s1 ≤ 150) (e0 : M.1 141 0 = nI s0) (e1 : M.1 141 1 = nI s1) (hk : ∀ i, i < s0 → M.1 143 i = nI (κ i) ∧ κ i < 65536) (hm : ∀ i, i < s1 → M.1 143 (150 + i) = nI (μ i) ∧ μ i < 65536) (hP0 : (∃ i j, i < s0 ∧ j < s1 ∧ ¬ cm (κ i) (μ j)) → P (.inl (some (aI 0))) M) (hP1 : (∀ i j, i < s0 → j < s1 → cm (κ i) (μ j)) → P (.inl (some (aI 1))) M) : ∀ (m i : Nat), i + m = s0 → (∀ i' j, i' < i → j < s1 → cm (κ i') (μ j)) → ∀ l2, X 7 [some (aR 108), some (aI (nI i)), l2] [] M := by
  intro m
  induction m with
  | zero =>
    intro i hi hq l2
    have hi : i = s0 := by omega
    subst hi
    refine am_run hX 8 _ _ _ _ ?_
    conv => whnf
    refine ⟨vp_in_nI (n := 0) (N := 2) (by decide) (by decide), ?_⟩
    conv => whnf
    rw [show M.1 141 (Int32.toNatClampNeg 0) = nI i from e0]
    refine ⟨fun _ => ?_, fun c => absurd (nI_le (Nat.le_refl _) (by omega)) c⟩
    conv => whnf
    exact ⟨rfl, hP1 hq⟩
  | succ m ih =>
    intro i hi hq l2
    refine am_run hX 6 _ _ _ _ ?_
    conv => whnf
    refine ⟨vp_in_nI (n := 0) (N := 2) (by decide) (by decide), ?_⟩
    conv => whnf
    rw [show M.1 141 (Int32.toNatClampNeg 0) = nI s0 from e0]
    refine ⟨fun c => absurd c (nI_ge (by omega) (by omega)), fun _ => ?_⟩
    refine am_run hX 2 _ _ _ _ ?_
    conv => whnf
    refine cy_l2 hX hs0 hs1 e1 hk hm (by omega) hP0 (fun hall l2 => ?_) s1 0 (by omega) (fun q hq => by omega)
    refine am_run hX 2 _ _ _ _ ?_
    conv => whnf
    rw [nI_1]
    refine ih (i + 1) (by omega) (fun i' j h1 h2 => ?_) _
    by_cases e : i' = i
    · rw [e]; exact hall j h2
    · exact hq i' j (by omega) h2
set_option maxRecDepth 100000 in
theorem cy_1 (hs0 : s0 ≤ 150) (hs1 : s1 ≤ 150) (e0 : M.1 141 0 = nI s0) (e1 : M.1 141 1 = nI s1) (hk : ∀ i, i < s0 → M.1 143 i = nI (κ i) ∧ κ i < 65536) (hm : ∀ i, i < s1 → M.1 143 (150 + i) = nI (μ i) ∧ μ i < 65536) : am_M (d + 3) false nm_X12_commutes [aR 108] M (fun r M' => M' = th0 M ∧ ∃ v, r = .inl (some (aI v)) ∧ cmv s0 s1 κ μ v) := by
  refine ⟨rfl, rfl, rfl, fun X hX => am_run hX 5 _ _ _ _ ?_⟩
  conv => whnf
  exact cy_l1 (M := th0 M) hX hs0 hs1 e0 e1 hk hm (fun h => ⟨rfl, _, rfl, Or.inl ⟨h, rfl⟩⟩) (fun h => ⟨rfl, _, rfl, Or.inr ⟨h, rfl⟩⟩) s0 0 (by omega) (fun i' j h => by omega) _
end CMM
section CMP
variable {ac : Nat → ClassId} {lo : Nat} {ad as : Nat → Nat} {b L : Nat} {xs : Nat → Int32} {hp : mm_M → Nat → xm_H} {I J : mm_M → Prop}
theorem pr_commutes (H : mm_L ac lo hp) (h1 : ∀ M, I M → ∃ a b s h s' h', sm_r M a b ∧ sm_s M a 0 s h 0 ∧ sm_s M b 150 s' h' 1 ∧ (∀ i, i < s → ∃ k, k < 65536 ∧ M.1 143 i = nI k) ∧ ∀ i, i < s' → ∃ k, k < 65536 ∧ M.1 143 (150 + i) = nI k) (hJ : ∀ M, I M → J (th0 M)) : la_I ac lo ad as b L xs hp I J nm_X11_commutes nm_X12_commutes [] := by
  refine am_la_I (us := []) H fun M hI => ?_
  obtain ⟨a, b, s, h, s', h', hr, ha, hb, q1, q2⟩ := h1 M hI
  obtain ⟨t1, _, t2, t3, _, _, t4⟩ := ha
  obtain ⟨u1, _, u2, u3, _, _, u4⟩ := hb
  have hk : ∀ i, i < s → M.1 143 i = nI (M.1 143 i).toNatClampNeg ∧ (M.1 143 i).toNatClampNeg < 65536 := fun i hi => by
    obtain ⟨k, k1, k2⟩ := q1 i hi
    rw [k2, nI_clamp (by omega)]
    exact ⟨rfl, k1⟩
  have hm : ∀ i, i < s' → M.1 143 (150 + i) = nI (M.1 143 (150 + i)).toNatClampNeg ∧ (M.1 143 (150 + i)).toNatClampNeg < 65536 := fun i hi => by
    obtain ⟨k, k1, k2⟩ := q2 i hi
    rw [k2, nI_clamp (by omega)]
    exact ⟨rfl, k1⟩
  refine am_wk (cx_1 (d := 997) (κ := fun i => (M.1 143 i).toNatClampNeg) (μ := fun i => (M.1 143 (150 + i)).toNatClampNeg) hr t1 u1 t2 u2 (fun i hi => ?_) (fun i hi => ?_)) ?_
  · have := (t4 i hi).1
    rw [Nat.zero_add] at this
    rw [this]
    exact hk i hi
  · rw [(u4 i hi).1]
    exact hm i hi
  · rintro r M1 ⟨rfl, v, rfl, hv⟩
    refine ⟨v, rfl, am_wk (cy_1 (d := 997) (κ := fun i => (M1.1 143 i).toNatClampNeg) (μ := fun i => (M1.1 143 (150 + i)).toNatClampNeg) t1 u1 t3 u3 hk hm) ?_⟩
    rintro r M2 ⟨rfl, v', rfl, hv'⟩
    exact ⟨by rw [cmv_u hv hv'], hJ M1 hI⟩
end CMP
