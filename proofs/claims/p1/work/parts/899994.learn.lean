/-! LEAST: slotOf, nearness, remember, learn -/
def trr (f : Nat → Int32) (T : Nat → Nat) : Prop := ∀ i, i < 2048 → f i = nI (T i) ∧ T i < 134217728
section LEB
variable {d : Nat} {M : mm_M}
theorem hs_i (q : Nat) : ((nI q * -1640531535).toUInt32 >>> ((21 : Int32).toUInt32 &&& Int32.toUInt32 31)).toInt32 = nI (hsN q) := by
  rw [show (-1640531535 : Int32) = nI 2654435761 from rfl, nI_mul, nI_32 (q * 2654435761)]
  exact nI_us (by omega) 21 (by decide)
set_option maxRecDepth 100000 in
theorem slot_l {P : am_Q} {X : am_X} {q R : Nat} {T : Nat → Nat} (hX : am_K d false nm_X7_slotOf P X) (hq : q < 16777216) (ht : trr (M.1 78) T) (hK : ∀ l3, X 53 [some (aR 70), some (aI (nI q)), some (aI (nI R)), l3] [] M) : ∀ (m i s : Nat), i + m = 2048 → s < 2048 → sl T q m s = R → X 10 [some (aR 70), some (aI (nI q)), some (aI (nI s)), some (aI (nI i))] [] M := by
  intro m
  induction m with
  | zero =>
    intro i s hi hs e
    have e : s = R := e
    have hi : i = 2048 := by omega
    subst hi
    subst e
    refine am_run hX 3 _ _ _ _ ?_
    conv => whnf
    exact ⟨fun _ => hK _, fun c => absurd (by decide) c⟩
  | succ m ih =>
    intro i s hi hs e
    have t := ht s hs
    refine am_run hX 3 _ _ _ _ ?_
    conv => whnf
    refine ⟨fun c => absurd c (nI_ge (b := 2048) (by omega) (by decide)), fun _ => ?_⟩
    refine am_run hX 5 _ _ _ _ ?_
    conv => whnf
    refine ⟨vp_in_nI (by show s < 2048; omega) (by decide), ?_⟩
    conv => whnf
    rw [nI_clamp (n := s) (by omega), t.1]
    refine ⟨fun c => ?_, fun c => ?_⟩
    · have z : T s = 0 := (nI_eq (b := 0) (by omega) (by decide)).mp c
      unfold sl at e
      rw [if_pos (.inl z)] at e
      rw [e]
      exact hK _
    · have z : T s ≠ 0 := fun h => c (by rw [h]; rfl)
      refine am_run hX 8 _ _ _ _ ?_
      conv => whnf
      refine ⟨vp_in_nI (by show s < 2048; omega) (by decide), ?_⟩
      conv => whnf
      rw [nI_clamp (n := s) (by omega), t.1, nI_m24]
      refine ⟨fun c => ?_, fun c => ?_⟩
      · have z : T s % 16777216 = q := (nI_eq (by omega) (by omega)).mp c
        unfold sl at e
        rw [if_pos (.inr z)] at e
        rw [e]
        exact hK _
      · have z2 : T s % 16777216 ≠ q := fun h => c (by rw [h])
        unfold sl at e
        rw [if_neg (fun h => h.elim z z2)] at e
        refine am_run hX 8 _ _ _ _ ?_
        conv => whnf
        rw [nI_1, nI_1, nI_m2047]
        exact ih (i + 1) _ (by omega) (by omega) e
set_option maxRecDepth 100000 in
theorem ct_slot {q : Nat} {T : Nat → Nat} (hq : q < 16777216) (ht : trr (M.1 78) T) : am_M (d + 1) false nm_X7_slotOf [aR 70, aI (nI q)] M (am_q1 (aI (nI (slo T q))) M) := by
  refine ⟨rfl, rfl, rfl, fun X hX => am_run hX 8 _ _ _ _ ?_⟩
  conv => whnf
  rw [hs_i]
  refine slot_l hX hq ht (fun l3 => ?_) 2048 0 (hsN q) (by omega) (hs_lt q) rfl
  refine am_run hX 2 _ _ _ _ ?_
  conv => whnf
  exact ⟨trivial, rfl, rfl⟩
set_option maxRecDepth 100000 in
theorem ct_near {q : Nat} {T : Nat → Nat} (hq : q < 16777216) (ht : trr (M.1 78) T) : am_M (d + 2) false nm_X7_nearness [aR 70, aI (nI q)] M (am_q1 (aI (nI (nrN T q))) M) := by
  have t := ht _ (slo_lt T q)
  refine ⟨rfl, rfl, rfl, fun X hX => am_run hX 20 _ _ _ _ ?_⟩
  conv => whnf
  refine am_c1 (ct_slot hq ht) ?_
  conv => whnf
  refine ⟨vp_in_nI (by show _ < 2048; exact slo_lt T q) (by decide), ?_⟩
  conv => whnf
  rw [nI_clamp (n := slo T q) (by have := slo_lt T q; omega), t.1, show nI (T (slo T q)) >>> ((24 : Int32) &&& 31) = nI (nrN T q) from nI_sh (by omega) 24 (by decide)]
  exact ⟨trivial, rfl, rfl⟩
theorem trr_u {f : Nat → Int32} {T : Nat → Nat} {s v : Nat} (h : trr f T) (hv : v < 134217728) : trr (upd f s (nI v)) (tu T s v) := fun i hi => by
  unfold upd tu
  by_cases e : i = s
  · rw [if_pos e, if_pos e]; exact ⟨rfl, hv⟩
  · rw [if_neg e, if_neg e]; exact h i hi
set_option maxRecDepth 100000 in
theorem ct_rem {q v : Nat} {T : Nat → Nat} (hq : q < 16777216) (hv : v < 8) (ht : trr (M.1 78) T) : am_M (d + 2) false nm_X7_remember [aR 70, aI (nI q), aI (nI v)] M (fun r M' => r = .inl none ∧ ∃ f, M' = mm_i M 78 f ∧ trr f (rem T q v)) := by
  have t := ht _ (slo_lt T q)
  have sl' := slo_lt T q
  refine ⟨rfl, rfl, rfl, fun X hX => am_run hX 30 _ _ _ _ ?_⟩
  conv => whnf
  refine am_c1 (ct_slot hq ht) ?_
  conv => whnf
  refine ⟨vp_in_nI (by show _ < 2048; exact slo_lt T q) (by decide), ?_⟩
  conv => whnf
  rw [nI_clamp (n := slo T q) (by omega), t.1]
  refine ⟨fun c => ?_, fun c => ?_⟩
  · conv => whnf
    refine ⟨trivial, rfl, M.1 78, (mm_iz M 78).symm, ?_⟩
    have z : ¬ T (slo T q) = 0 := fun h => c (by rw [h]; rfl)
    rw [show rem T q v = T from if_neg z]
    exact ht
  · have z : T (slo T q) = 0 := (nI_eq (b := 0) (by omega) (by decide)).mp (Decidable.byContradiction c)
    conv => whnf
    refine ⟨vp_in_nI (by show _ < 2048; exact slo_lt T q) (by decide), ?_⟩
    conv => whnf
    have e : nI q ||| nI v <<< ((24 : Int32) &&& 31) = nI (q + 16777216 * v) := by
      rw [show nI v <<< ((24 : Int32) &&& 31) = nI (v * 2 ^ 24) from nI_shl (by decide) (by show v * 16777216 < 4294967296; omega), nI_or]
      congr 1
      have := Nat.shiftLeft_add_eq_or_of_lt (show q < 2 ^ 24 from hq) v
      rw [Nat.shiftLeft_eq] at this
      rw [Nat.or_comm, ← this]; omega
    rw [nI_clamp (n := slo T q) (by omega), e]
    refine ⟨trivial, rfl, _, rfl, ?_⟩
    rw [show rem T q v = tu T (slo T q) (q + 16777216 * v) from if_pos z]
    exact trr_u ht (by omega)
set_option maxRecDepth 100000 in
theorem ln_g {P : am_Q} {X : am_X} {k b i N : Nat} (hX : am_K (d + 2) false nm_X7_learn P X) (h1 : 1 ≤ k) (h3 : k ≤ 3) (hi : i < 2048) (hb : b + 12 * N ≤ 2047) (hK : ∀ f T l3, trr f T → ph T k b (i + 1) 0 → cnt (vl T k) 2048 = N → X 80 [some (aR 70), some (aI (nI k)), some (aI (nI i)), l3] [] (mm_i M 78 f)) : ∀ (m g : Nat) (f : Nat → Int32) (T : Nat → Nat), g + m = 12 → trr f T → ph T k b i g → cnt (vl T k) 2048 = N → X 35 [some (aR 70), some (aI (nI k)), some (aI (nI i)), some (aI (nI g))] [] (mm_i M 78 f) := by
  intro m
  induction m with
  | zero =>
    intro g f T hg ht hp hN
    have hg : g = 12 := by omega
    refine am_run hX 3 _ _ _ _ ?_
    conv => whnf
    refine ⟨fun _ => hK f T _ ht (ph_i hi hp (.inl hg)) hN, fun c => absurd (by rw [hg]; decide) c⟩
  | succ m ih =>
    intro g f T hg ht hp hN
    have t := ht i hi
    refine am_run hX 3 _ _ _ _ ?_
    conv => whnf
    refine ⟨fun c => absurd c (nI_ge (b := 12) (by omega) (by decide)), fun _ => ?_⟩
    refine am_run hX 8 _ _ _ _ ?_
    conv => whnf
    refine ⟨vp_in_nI (by show i < 2048; omega) (by decide), ?_⟩
    conv => whnf
    rw [nI_clamp (n := i) (by omega), mm_i1, t.1, show nI (T i) >>> ((24 : Int32) &&& 31) = nI (T i / 16777216) from nI_sh (by omega) 24 (by decide)]
    refine ⟨fun c => ?_, fun c => ?_⟩
    · exact hK f T _ ht (ph_i hi hp (.inr fun e => c (by rw [e]))) hN
    · have e : T i / 16777216 = k := (nI_eq (by omega) (by omega)).mp (Decidable.byContradiction c)
      have ⟨p1, p2, p3⟩ := ph_g h1 h3 hi (show g < 12 by omega) (by rw [hN]; exact hb) hp e
      refine am_run hX 15 _ _ _ _ ?_
      conv => whnf
      refine ⟨vp_in_nI (by show i < 2048; omega) (by decide), ?_⟩
      conv => whnf
      rw [nI_clamp (n := i) (by omega), mm_i1, t.1, nI_m24]
      refine am_c1 (ct_gated (by omega) (by omega)) ?_
      conv => whnf
      rw [nI_1]
      refine am_cq (ct_rem (T := T) (ga_lt (by omega) (by omega)) (by omega) (by rw [mm_i1]; exact ht)) (fun r M' hr => ?_)
      obtain ⟨rfl, f', rfl, hf'⟩ := hr
      refine ⟨_, rfl, ?_⟩
      conv => whnf
      rw [nI_1, mm_ii]
      exact ih (g + 1) f' _ (by omega) hf' p1 (p2.trans hN)
set_option maxRecDepth 100000 in
theorem ln_i {P : am_Q} {X : am_X} {k b N : Nat} (hX : am_K (d + 2) false nm_X7_learn P X) (h1 : 1 ≤ k) (h3 : k ≤ 3) (hb : b + 12 * N ≤ 2047) (hK : ∀ f T l2 l3, trr f T → ph T k b 2048 0 → cnt (vl T k) 2048 = N → X 86 [some (aR 70), some (aI (nI k)), l2, l3] [] (mm_i M 78 f)) : ∀ (m i : Nat) (f : Nat → Int32) (T : Nat → Nat) (l3 : Option am_V), i + m = 2048 → trr f T → ph T k b i 0 → cnt (vl T k) 2048 = N → X 26 [some (aR 70), some (aI (nI k)), some (aI (nI i)), l3] [] (mm_i M 78 f) := by
  intro m
  induction m with
  | zero =>
    intro i f T l3 hi ht hp hN
    have hi : i = 2048 := by omega
    subst hi
    refine am_run hX 3 _ _ _ _ ?_
    conv => whnf
    exact ⟨fun _ => hK f T _ _ ht hp hN, fun c => absurd (by decide) c⟩
  | succ m ih =>
    intro i f T l3 hi ht hp hN
    refine am_run hX 3 _ _ _ _ ?_
    conv => whnf
    refine ⟨fun c => absurd c (nI_ge (b := 2048) (by omega) (by decide)), fun _ => ?_⟩
    refine am_run hX 2 _ _ _ _ ?_
    conv => whnf
    refine ln_g hX h1 h3 (show i < 2048 by omega) hb (fun f' T' l3 ht' hp' hN' => ?_) 12 0 f T (by omega) ht hp hN
    refine am_run hX 2 _ _ _ _ ?_
    conv => whnf
    rw [nI_1]
    exact ih (i + 1) f' T' l3 (by omega) ht' hp' hN'
def bB : Nat → Nat
  | 0 => 0
  | k + 1 => bB k + 12 ^ k
theorem bB_3 : ∀ k, k < 4 → bB k + 12 * 12 ^ (k - 1) ≤ 2047 := by decide
set_option maxRecDepth 100000 in
theorem ln_d {P : am_Q} {X : am_X} (hX : am_K (d + 2) false nm_X7_learn P X) (hK : ∀ f T, trr f T → tl T → P (.inl none) (mm_i M 78 f)) : ∀ (m k : Nat) (f : Nat → Int32) (T : Nat → Nat) (l2 l3 : Option am_V), k + m = 4 → 1 ≤ k → trr f T → tw T → (∀ q, isP q → dq q < k → tin T q) → (∀ j, j < 2048 → T j / 16777216 ≤ k) → cnt (oc T) 2048 ≤ bB k → cnt (vl T k) 2048 ≤ 12 ^ (k - 1) → X 19 [some (aR 70), some (aI (nI k)), l2, l3] [] (mm_i M 78 f) := by
  intro m
  induction m with
  | zero =>
    intro k f T l2 l3 hk k1 ht w1 w2 w3 w4 w5
    have hk : k = 4 := by omega
    subst hk
    refine am_run hX 3 _ _ _ _ ?_
    conv => whnf
    refine ⟨fun _ => ?_, fun c => absurd (by decide) c⟩
    refine am_run hX 2 _ _ _ _ ?_
    conv => whnf
    refine ⟨trivial, hK f T ht ⟨w1, w2, ?_⟩⟩
    have ⟨i, a, c⟩ := cnt_f (f := oc T) 2048 (Nat.lt_of_le_of_lt w4 (by decide))
    exact ⟨i, a, by simpa [oc] using c⟩
  | succ m ih =>
    intro k f T l2 l3 hk k1 ht w1 w2 w3 w4 w5
    refine am_run hX 3 _ _ _ _ ?_
    conv => whnf
    refine ⟨fun c => absurd c (nI_nlt (a := 3) (by omega) (by decide)), fun _ => ?_⟩
    refine am_run hX 2 _ _ _ _ ?_
    conv => whnf
    have z := bB_3 k (by omega)
    have z2 : 12 * cnt (vl T k) 2048 ≤ 12 * 12 ^ (k - 1) := Nat.mul_le_mul_left _ w5
    refine ln_i hX k1 (by omega) (b := bB k) (N := cnt (vl T k) 2048) (by omega) (fun f' T' l2 l3 ht' hp' hN' => ?_) 2048 0 f T _ (by omega) ht (ph_0 ⟨w1, w2, w3, w4⟩) rfl
    have ⟨v1, v2, v3, v4, v5⟩ := ph_d k1 (by omega) hp' (by rw [hN']; exact w5)
    refine am_run hX 2 _ _ _ _ ?_
    conv => whnf
    rw [nI_1]
    exact ih (k + 1) f' T' _ _ (by omega) (by omega) ht' v1 v2 v3 v4 v5
/-- what stands in the table: nothing, or all that is near -/
def le_t (M : mm_M) : Prop := (∀ i, i < 2048 → M.1 78 i = 0) ∨ ∃ T, trr (M.1 78) T ∧ tl T
set_option maxRecDepth 100000 in
theorem ct_learn (h : le_t M) : am_M (d + 3) false nm_X7_learn [aR 70] M (fun r M' => r = .inl none ∧ ∃ f T, M' = mm_i M 78 f ∧ trr f T ∧ tl T) := by
  rcases h with h | ⟨T, ht, hl⟩
  · have ht : trr (M.1 78) (fun _ => 0) := fun i hi => ⟨h i hi, by show (0 : Nat) < 134217728; decide⟩
    have ⟨e, w1, w2, w3, w4, w5⟩ := ph_s (T := fun _ => 0) (fun _ _ => rfl)
    refine ⟨rfl, rfl, rfl, fun X hX => am_run hX 4 _ _ _ _ ?_⟩
    conv => whnf
    refine am_c1 (ct_near (q := idN) (T := fun _ => 0) (by decide) ht) ?_
    conv => whnf
    refine ⟨fun _ => ?_, fun c => absurd rfl c⟩
    refine am_run hX 6 _ _ _ _ ?_
    conv => whnf
    refine am_cq (ct_rem (q := idN) (v := 1) (T := fun _ => 0) (by decide) (by decide) ht) (fun r M' hr => ?_)
    obtain ⟨rfl, f', rfl, hf'⟩ := hr
    refine ⟨_, rfl, ?_⟩
    conv => whnf
    exact ln_d hX (fun f T a b => ⟨rfl, f, T, rfl, a, b⟩) 3 1 f' _ _ _ (by omega) (by omega) hf' w1 w2 w3 w4 w5
  · refine ⟨rfl, rfl, rfl, fun X hX => am_run hX 20 _ _ _ _ ?_⟩
    conv => whnf
    refine am_c1 (ct_near (q := idN) (by decide) ht) ?_
    conv => whnf
    rw [tl_n hl isP_id, dq_id]
    refine ⟨fun c => absurd c (by decide), fun _ => ?_⟩
    conv => whnf
    exact ⟨trivial, rfl, M.1 78, T, (mm_iz M 78).symm, ht, hl⟩
end LEB
