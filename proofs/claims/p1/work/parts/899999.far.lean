/-! LEAST: the second program's goal, rankOf, behind, same0, findFar -/
def lsc (x i : Nat) : Nat → Nat
  | 0 => 0
  | m + 1 => lsc x i m + lsL (dgN x (i + 1 + m)) (dgN x i)
def rkp (x : Nat) : Nat → Nat
  | 0 => 0
  | i + 1 => rkp x i * (8 - i) + lsc x i (7 - i)
theorem lsc_le (x i : Nat) : ∀ m, lsc x i m ≤ m
  | 0 => Nat.le_refl _
  | m + 1 => by
    have a := lsc_le x i m
    have b := lsL_1 (dgN x (i + 1 + m)) (dgN x i)
    show lsc x i m + _ ≤ _
    omega
theorem rkp_8 (x : Nat) : rkp x 8 = rkN x := by
  simp only [rkp, lsc, rkN, rkD, Nat.add_eq, Nat.mul_eq]
  simp only [Nat.reduceAdd, Nat.reduceSub, lsc, Nat.zero_add, Nat.mul_one, Nat.add_zero, Nat.zero_mul]
theorem rkp_lt (x : Nat) : ∀ i, i ≤ 8 → rkp x i < 8 ^ i
  | 0, _ => by show 0 < 1; omega
  | i + 1, hi => by
    have a := rkp_lt x i (by omega)
    have b := lsc_le x i (7 - i)
    show rkp x i * (8 - i) + lsc x i (7 - i) < 8 ^ (i + 1)
    rw [Nat.pow_succ]
    have c : rkp x i * (8 - i) ≤ (8 ^ i - 1) * (8 - i) := Nat.mul_le_mul_right _ (by omega)
    have e : (8 ^ i - 1) * (8 - i) ≤ 8 ^ i * 8 - (8 - i) := by
      rw [Nat.sub_mul, Nat.one_mul]
      exact Nat.sub_le_sub_right (Nat.mul_le_mul_left _ (by omega)) _
    have g : 8 ≤ 8 ^ i * 8 := Nat.le_mul_of_pos_left _ (Nat.pow_pos (by decide))
    omega
theorem lsL_0 {a b : Nat} (h : ¬ a < b) : lsL a b = 0 := by
  unfold lsL
  cases q : Nat.blt a b
  · rfl
  · exact absurd (Nat.le_of_ble_eq_true q) h
theorem lsL_t {a b : Nat} (h : a < b) : lsL a b = 1 := by
  unfold lsL
  rw [show Nat.blt a b = true from Nat.ble_eq_true_of_le h]
  rfl
section LEG
variable {d : Nat} {M : mm_M}
set_option maxRecDepth 100000 in
theorem ct_goalp {p : Int32} {j : Int32} : am_M (d + 1) false nm_X12_goal [aI p, aI j] M (am_q1 (aI (p >>> (3 * j &&& 31) &&& 7)) M) := by
  refine ⟨rfl, rfl, rfl, fun X hX => am_run hX 20 _ _ _ _ ?_⟩
  conv => whnf
  exact ⟨trivial, rfl, rfl⟩
theorem ct_goal {x j : Nat} (hx : x < 16777216) (hj : j < 8) : am_M (d + 1) false nm_X12_goal [aI (nI x), aI (nI j)] M (am_q1 (aI (nI (dgN x j))) M) := by
  have h := ct_goalp (d := d) (M := M) (p := nI x) (j := nI j)
  rw [dg_i hx hj] at h
  exact h
set_option maxRecDepth 100000 in
theorem rk_j {P : am_Q} {X : am_X} {x i : Nat} {v : Int32} (hX : am_K (d + 1) false nm_X12_rankOf P X) (hx : x < 16777216) (hi : i < 8) (hK : ∀ l4, X 52 [some (aI (nI x)), some (aI v), some (aI (nI i)), some (aI (nI (lsc x i (7 - i)))), l4] [] M) : ∀ (n m : Nat), m + n = 7 - i → X 17 [some (aI (nI x)), some (aI v), some (aI (nI i)), some (aI (nI (lsc x i m))), some (aI (nI (i + 1 + m)))] [] M := by
  intro n
  induction n with
  | zero =>
    intro m hm
    have hm : m = 7 - i := by omega
    subst hm
    refine am_run hX 3 _ _ _ _ ?_
    conv => whnf
    exact ⟨fun _ => hK _, fun c => absurd (nI_le (a := 8) (by omega) (by omega)) c⟩
  | succ n ih =>
    intro m hm
    have ih := ih (m + 1) (by omega)
    have e : lsc x i (m + 1) = lsc x i m + lsL (dgN x (i + 1 + m)) (dgN x i) := rfl
    rw [e] at ih
    have d1 := dg_lt x (i + 1 + m)
    have d2 := dg_lt x i
    refine am_run hX 3 _ _ _ _ ?_
    conv => whnf
    refine ⟨fun c => absurd c (nI_ge (b := 8) (by omega) (by decide)), fun _ => ?_⟩
    refine am_run hX 8 _ _ _ _ ?_
    conv => whnf
    refine am_c1 (ct_goal hx (by omega)) ?_
    conv => whnf
    refine am_c1 (ct_goal hx (by omega)) ?_
    conv => whnf
    refine ⟨fun c => ?_, fun c => ?_⟩
    · have l : ¬ dgN x (i + 1 + m) < dgN x i := fun h => absurd c (nI_ge h (by omega))
      have b : lsL (dgN x (i + 1 + m)) (dgN x i) = 0 := lsL_0 l
      rw [b] at ih
      refine am_run hX 5 _ _ _ _ ?_
      conv => whnf
      rw [nI_1, show nI (lsc x i m) + 0 = nI (lsc x i m + 0) from nI_add _ 0]
      exact ih
    · have l : dgN x (i + 1 + m) < dgN x i := Nat.lt_of_not_le fun h => c (nI_le h (by omega))
      have b : lsL (dgN x (i + 1 + m)) (dgN x i) = 1 := lsL_t l
      rw [b] at ih
      refine am_run hX 6 _ _ _ _ ?_
      conv => whnf
      rw [nI_1, nI_1]
      exact ih
set_option maxRecDepth 100000 in
theorem rk_i {P : am_Q} {X : am_X} {x : Nat} (hX : am_K (d + 1) false nm_X12_rankOf P X) (hx : x < 16777216) (hK : ∀ l2 l3 l4, X 67 [some (aI (nI x)), some (aI (nI (rkp x 8))), l2, l3, l4] [] M) : ∀ (n i : Nat) (l3 l4 : Option am_V), i + n = 8 → X 4 [some (aI (nI x)), some (aI (nI (rkp x i))), some (aI (nI i)), l3, l4] [] M := by
  intro n
  induction n with
  | zero =>
    intro i l3 l4 hi
    have hi : i = 8 := by omega
    subst hi
    refine am_run hX 3 _ _ _ _ ?_
    conv => whnf
    exact ⟨fun _ => hK _ _ _, fun c => absurd (by decide) c⟩
  | succ n ih =>
    intro i l3 l4 hi
    refine am_run hX 3 _ _ _ _ ?_
    conv => whnf
    refine ⟨fun c => absurd c (nI_ge (b := 8) (by omega) (by decide)), fun _ => ?_⟩
    refine am_run hX 6 _ _ _ _ ?_
    conv => whnf
    rw [nI_1]
    refine rk_j hX hx (by omega) (fun l4 => ?_) (7 - i) 0 (by omega)
    refine am_run hX 10 _ _ _ _ ?_
    conv => whnf
    rw [show (8 : Int32) - nI i = nI (8 - i) from nI_sub (a := 8) (by omega), nI_mul, nI_add, nI_1]
    exact ih (i + 1) _ _ (by omega)
set_option maxRecDepth 100000 in
theorem ct_rank {x : Nat} (hx : x < 16777216) : am_M (d + 2) false nm_X12_rankOf [aI (nI x)] M (am_q1 (aI (nI (rkN x))) M) := by
  refine ⟨rfl, rfl, rfl, fun X hX => am_run hX 4 _ _ _ _ ?_⟩
  conv => whnf
  refine rk_i hX hx (fun l2 l3 l4 => ?_) 8 0 none none (by omega)
  refine am_run hX 2 _ _ _ _ ?_
  conv => whnf
  rw [rkp_8]
  exact ⟨trivial, rfl, rfl⟩
set_option maxRecDepth 100000 in
theorem bh_l {P : am_Q} {X : am_X} {p g : Nat} (hX : am_K (d + 1) false nm_X12_behind P X) (hp : p < 16777216) (hg : g < 12) (hK : ∀ l4, X 49 [some (aI (nI p)), some (aI (nI (g / 4))), some (aI (nI (lsC g))), some (aI (nI (bhN p g))), l4] [] M) : ∀ (n j : Nat), j + n = 8 → X 5 [some (aI (nI p)), some (aI (nI (g / 4))), some (aI (nI (lsC g))), some (aI (nI (mkp (fun j => dgN p (gtN g j)) j))), some (aI (nI j))] [] M := by
  have c8 := cg_8 g hg
  intro n
  induction n with
  | zero =>
    intro j hj
    have hj : j = 8 := by omega
    subst hj
    refine am_run hX 3 _ _ _ _ ?_
    conv => whnf
    exact ⟨fun _ => hK _, fun c => absurd (by decide) c⟩
  | succ n ih =>
    intro j hj
    have ih := ih (j + 1) (by omega)
    have g8 := gt_lt g hg j (by omega)
    have t8 := dg_lt p (gtN g j)
    have ml : mkp (fun j => dgN p (gtN g j)) j < 8 ^ j := mkp_lt (fun _ => dg_lt _ _) j
    have m2 : mkp (fun j => dgN p (gtN g j)) j < 2 ^ (3 * j) := by rw [Nat.pow_mul]; exact ml
    have b : dgN p (gtN g j) * 2 ^ (3 * j) < 2 ^ 32 := by
      calc dgN p (gtN g j) * 2 ^ (3 * j) ≤ 7 * 2 ^ 21 := Nat.mul_le_mul (by omega) (Nat.pow_le_pow_right (by decide) (by omega))
        _ < 2 ^ 32 := by decide
    have e : nI (mkp (fun j => dgN p (gtN g j)) j) ||| nI (dgN p (gtN g j)) <<< (3 * nI j &&& 31) = nI (mkp (fun j => dgN p (gtN g j)) (j + 1)) := by
      rw [show (3 : Int32) * nI j = nI (3 * j) from by rw [show (3 : Int32) = nI 3 from rfl, nI_mul], nI_shl (by omega) b, nI_or, or_sh m2, Nat.pow_mul]
      rfl
    refine am_run hX 3 _ _ _ _ ?_
    conv => whnf
    refine ⟨fun c => absurd c (nI_ge (b := 8) (by omega) (by decide)), fun _ => ?_⟩
    refine am_run hX 7 _ _ _ _ ?_
    conv => whnf
    rw [nI_and]
    have al : j &&& lsC g ≤ j := Nat.and_le_left
    refine ⟨fun c => ?_, fun c => ?_⟩
    · have z : j &&& lsC g ≠ lsC g := fun h => c (by rw [h])
      have eg : gtN g j = j := by
        unfold gtN
        rw [show Nat.beq (Nat.land j (lsC g)) (lsC g) = false from by
          cases h : Nat.beq (Nat.land j (lsC g)) (lsC g)
          · rfl
          · exact absurd (Nat.eq_of_beq_eq_true h) z]
        rfl
      rw [eg] at e
      refine am_run hX 10 _ _ _ _ ?_
      conv => whnf
      refine am_c1 (ct_goal hp (by omega)) ?_
      conv => whnf
      rw [e, nI_1]
      exact ih
    · have z : j &&& lsC g = lsC g := (nI_eq (by omega) (by omega)).mp (Decidable.byContradiction c)
      have eg : gtN g j = j ^^^ 2 ^ (g / 4) := by
        unfold gtN
        rw [show Nat.beq (Nat.land j (lsC g)) (lsC g) = true from by
          show Nat.beq (j &&& lsC g) (lsC g) = true
          rw [z]; exact Nat.beq_refl _]
        show j ^^^ (1 <<< (g / 4)) = _
        rw [Nat.shiftLeft_eq, Nat.one_mul]
      rw [eg] at e g8
      refine am_run hX 15 _ _ _ _ ?_
      conv => whnf
      rw [sh2 _ (by omega), nI_xor]
      refine am_c1 (ct_goal hp g8) ?_
      conv => whnf
      rw [e, nI_1]
      exact ih
set_option maxRecDepth 100000 in
theorem ct_beh {p g : Nat} (hp : p < 16777216) (hg : g < 12) : am_M (d + 2) false nm_X12_behind [aI (nI p), aI (nI (g / 4)), aI (nI (lsC g))] M (am_q1 (aI (nI (bhN p g))) M) := by
  refine ⟨rfl, rfl, rfl, fun X hX => am_run hX 4 _ _ _ _ ?_⟩
  conv => whnf
  refine bh_l hX hp hg (fun l4 => ?_) 8 0 (by omega)
  refine am_run hX 2 _ _ _ _ ?_
  conv => whnf
  exact ⟨trivial, rfl, rfl⟩
set_option maxRecDepth 100000 in
theorem ct_same0 : am_M (d + 1) false nm_X12_same0 [] M (am_q1 (aI (nI idN)) M) := by
  refine ⟨rfl, rfl, rfl, fun X hX => am_run hX 200 _ _ _ _ ?_⟩
  conv => whnf
  iterate 9
    first
      | (refine ⟨fun _ => ?_, fun c => absurd (by decide) c⟩; conv => whnf)
      | (refine ⟨fun c => absurd c (by decide), fun _ => ?_⟩; conv => whnf)
  refine ⟨trivial, ?_, rfl⟩
  exact congrArg (fun v => (.inl (some (aI v)) : am_R)) (by decide)
theorem nI_d8 : ∀ a, a < 24 → nI a / 8 = nI (a / 8) := by decide +kernel
theorem nI_a24 : ∀ a, a < 24 → nI a >>> (nI (a / 8) &&& 31) &&& 1 = nI (a / 2 ^ (a / 8) % 2) := by decide +kernel
/-- the flag is set, and both rows are f and l -/
def faM (M : mm_M) (f l : Nat → Int32) : mm_M := mm_i (mm_i (mm_i M 108 (upd (M.1 108) 135 1)) 193 f) 194 l
theorem fa_3 (M : mm_M) (f l : Nat → Int32) : (faM M f l).1 193 = f := by unfold faM; rw [mm_ne _ _ _ _ (by decide), mm_i1]
theorem fa_4 (M : mm_M) (f l : Nat → Int32) : (faM M f l).1 194 = l := mm_i1 _ _ _
theorem fa_f (M : mm_M) (f l g : Nat → Int32) : mm_i (faM M f l) 193 g = faM M g l := by
  unfold faM
  rw [mm_ci _ _ _ (by decide : (194 : Nat) ≠ 193), mm_ii]
theorem fa_l (M : mm_M) (f l g : Nat → Int32) : mm_i (faM M f l) 194 g = faM M f g := mm_ii _ _ _ _
theorem byt : ∀ v, v < 10 → vp_nar (if (3 : Nat) = 2 then .boolean else .byte) (nI (v + 1)).toInt8.toInt32 = nI (v + 1) := by decide +kernel
theorem byt1 : vp_nar (if (3 : Nat) = 2 then .boolean else .byte) (-1) = -1 := by decide
theorem byt0 : vp_nar (if (3 : Nat) = 2 then .boolean else .byte) 0 = 0 := by decide
def qlr (L : Nat → Nat) (t : Nat) (l : Nat → Int32) : Prop := ∀ i, i < t → l i = nI (L i)
set_option maxRecDepth 100000 in
theorem fr_g {P : am_Q} {X : am_X} {h : Nat} (hX : am_K (d + 2) false nm_X12_findFar P X) (hK : ∀ (L : Nat → Nat) (t : Nat) (f l : Nat → Int32) (l5 : Option am_V), qv L t f → qh L t h 24 → h < t → qlr L t l → X 178 [some (aR 108), some (aI (nI t)), some (aI (nI h)), some (aI (nI (dp (L h)))), some (aI (nI 24)), l5] [] (faM M f l)) : ∀ (n a : Nat) (L : Nat → Nat) (t : Nat) (f l : Nat → Int32) (l5 : Option am_V), a + n = 24 → qv L t f → qh L t h a → h < t → qlr L t l → X 86 [some (aR 108), some (aI (nI t)), some (aI (nI h)), some (aI (nI (dp (L h)))), some (aI (nI a)), l5] [] (faM M f l) := by
  intro n
  induction n with
  | zero =>
    intro a L t f l l5 ha kv kh ht hl
    have ha : a = 24 := by omega
    subst ha
    refine am_run hX 3 _ _ _ _ ?_
    conv => whnf
    exact ⟨fun _ => hK L t f l _ kv kh ht hl, fun c => absurd (by decide) c⟩
  | succ n ih =>
    intro a L t f l l5 ha kv kh ht hl
    have a24 : a < 24 := by omega
    have t4 := qv_t kv
    have ph := kv.2.2.1 h ht
    have nxt : ∀ (L' : Nat → Nat) (t' : Nat) (f' l' : Nat → Int32) (l5 : Option am_V), dp (L' h) = dp (L h) → qv L' t' f' → qh L' t' h (a + 1) → h < t' → qlr L' t' l' → X 172 [some (aR 108), some (aI (nI t')), some (aI (nI h)), some (aI (nI (dp (L h)))), some (aI (nI a)), l5] [] (faM M f' l') := fun L' t' f' l' l5 e k1 k2 k3 k4 => by
      refine am_run hX 2 _ _ _ _ ?_
      conv => whnf
      rw [nI_1, ← e]
      exact ih (a + 1) L' t' f' l' _ (by omega) k1 k2 k3 k4
    refine am_run hX 3 _ _ _ _ ?_
    conv => whnf
    refine ⟨fun c => absurd c (nI_ge (b := 24) a24 (by decide)), fun _ => ?_⟩
    refine am_run hX 9 _ _ _ _ ?_
    conv => whnf
    refine ⟨by decide, ?_⟩
    conv => whnf
    rw [nI_d8 a a24, nI_a24 a a24]
    rcases c24_a a a24 with ⟨e, ne⟩ | ⟨e, g, g12, eg⟩
    · rw [e]
      refine ⟨fun c => absurd rfl c, fun _ => ?_⟩
      refine am_run hX 1 _ _ _ _ ?_
      conv => whnf
      exact nxt L t f l _ rfl kv (qh_a kh (fun g h1 h2 => absurd h2 (ne g h1))) ht hl
    · rw [e]
      refine ⟨fun _ => ?_, fun c => absurd (by decide) c⟩
      have ⟨g1, g2, g3⟩ := c24_p g g12
      rw [eg] at g1 g2
      have hy := isP_bh g12 ph
      refine am_run hX 18 _ _ _ _ ?_
      conv => whnf
      refine ⟨vp_in_nI (by show h < 40320; omega) (by decide), ?_⟩
      conv => whnf
      refine ⟨by decide, ?_⟩
      conv => whnf
      rw [nI_clamp (n := h) (by omega), fa_4, hl h ht, nI_d8 a a24, nI_m7, g1, g2]
      refine am_c1 (ct_beh (isP_lt ph) g12) ?_
      conv => whnf
      refine am_c1 (ct_rank (bh_lt _ _)) ?_
      conv => whnf
      have rl := rk_lt (bhN (L h) g)
      refine ⟨vp_in_nI (by show _ < 40320; omega) (by decide), ?_⟩
      conv => whnf
      rw [nI_clamp (n := rkN (bhN (L h) g)) (by omega), fa_3]
      by_cases iq : inq L t (bhN (L h) g)
      · have v := kv.2.2.2.2.1 _ hy iq
        have v8 := dp_8 hy
        rw [v]
        refine ⟨fun c => absurd c (nI_pos (by omega)), fun _ => ?_⟩
        refine am_run hX 1 _ _ _ _ ?_
        conv => whnf
        exact nxt L t f l _ rfl kv (qh_a kh (fun g' h1 h2 => by rw [c24_i g' h1 g g12 (h2.trans eg.symm)]; exact iq)) ht hl
      · have v := kv.2.2.2.2.2.1 _ hy iq
        have ⟨k1, k2, k3, k4, k5⟩ := qv_n kv ht kh g12 iq
        rw [v]
        refine ⟨fun _ => ?_, fun c => absurd (by decide) c⟩
        refine am_run hX 15 _ _ _ _ ?_
        conv => whnf
        refine am_c1 (ct_rank (bh_lt _ _)) ?_
        conv => whnf
        refine ⟨vp_in_nI (by show _ < 40320; omega) (by decide), ?_⟩
        conv => whnf
        have d8 := dp_8 ph
        rw [nI_clamp (n := rkN (bhN (L h) g)) (by omega), nI_1, byt _ (by omega), fa_3, fa_f]
        refine ⟨vp_in_nI (by show t < 40320; omega) (by decide), ?_⟩
        conv => whnf
        rw [nI_clamp (n := t) (by omega), fa_4, fa_l, nI_1]
        refine nxt (tu L t (bhN (L h) g)) (t + 1) _ _ _ (by rw [k5]) k1 (qh_a k2 (fun g' h1 h2 => ?_)) (by omega) (fun i hi => ?_)
        · rw [c24_i g' h1 g g12 (h2.trans eg.symm), k5]
          exact ⟨t, by omega, tu_s _ _ _⟩
        · unfold upd tu
          by_cases c : i = t
          · rw [if_pos c, if_pos c]
          · rw [if_neg c, if_neg c]; exact hl i (by omega)
set_option maxRecDepth 100000 in
theorem fr_h {P : am_Q} {X : am_X} (hX : am_K (d + 2) false nm_X12_findFar P X) (hK : ∀ (L : Nat → Nat) (t : Nat) (f l : Nat → Int32) (Z : am_L), qv L t f → (∀ i, i < t → ∀ g, g < 12 → inq L t (bhN (L i) g)) → X 184 Z [] (faM M f l)) : ∀ (n h : Nat) (L : Nat → Nat) (t : Nat) (f l : Nat → Int32) (l3 l4 l5 : Option am_V), h + n = 40321 → qv L t f → (h < t → qh L t h 0) → (h = t → ∀ i, i < t → ∀ g, g < 12 → inq L t (bhN (L i) g)) → h ≤ t → qlr L t l → X 63 [some (aR 108), some (aI (nI t)), some (aI (nI h)), l3, l4, l5] [] (faM M f l) := by
  intro n
  induction n with
  | zero =>
    intro h L t f l l3 l4 l5 hn kv kh ke ht hl
    have := qv_t kv
    omega
  | succ n ih =>
    intro h L t f l l3 l4 l5 hn kv kh ke ht hl
    have t4 := qv_t kv
    refine am_run hX 3 _ _ _ _ ?_
    conv => whnf
    by_cases c : h = t
    · refine ⟨fun _ => hK L t f l _ kv (ke c), fun z => absurd (by rw [c]; exact nI_le (Nat.le_refl _) (by omega)) z⟩
    · have lt : h < t := by omega
      have ph := kv.2.2.1 h lt
      refine ⟨fun z => absurd z (nI_ge lt (by omega)), fun _ => ?_⟩
      refine am_run hX 11 _ _ _ _ ?_
      conv => whnf
      refine ⟨vp_in_nI (by show h < 40320; omega) (by decide), ?_⟩
      conv => whnf
      rw [nI_clamp (n := h) (by omega), fa_4, hl h lt]
      refine am_c1 (ct_rank (isP_lt ph)) ?_
      conv => whnf
      have rl := rk_lt (L h)
      refine ⟨vp_in_nI (by show _ < 40320; omega) (by decide), ?_⟩
      conv => whnf
      rw [nI_clamp (n := rkN (L h)) (by omega), fa_3, kv.2.2.2.2.1 _ ph ⟨h, lt, rfl⟩]
      refine fr_g hX (fun L' t' f' l' l5 kv' kh' ht' hl' => ?_) 24 0 L t f l _ (by omega) kv (kh lt) lt hl
      refine am_run hX 2 _ _ _ _ ?_
      conv => whnf
      rw [nI_1]
      refine ih (h + 1) L' t' f' l' _ _ _ (by omega) kv' (fun z => qh_h kv' z kh') (fun z i hi g hg => ?_) (by omega) hl'
      by_cases e : i = h
      · rw [e]; exact kh'.2.2.1 g hg (c24_lt g hg)
      · exact kh'.1 i (by omega) g hg
/-- what the second program knows: nothing yet, or every permutation's distance -/
def le_f (M : mm_M) : Prop := M.1 108 135 = 0 ∨ (M.1 108 135 = 1 ∧ ∀ p, isP p → M.1 193 (rkN p) = nI (dp p))
set_option maxRecDepth 100000 in
theorem fr_0 {P : am_Q} {X : am_X} (hX : am_K (d + 2) false nm_X12_findFar P X) (hK : ∀ l1 f, (∀ j, j < 40320 → f j = -1) → X 35 [some (aR 108), l1, none, none, none, none] [] (faM M f (M.1 194))) : ∀ (n i : Nat) (f : Nat → Int32), i + n = 40320 → (∀ j, j < i → f j = -1) → X 15 [some (aR 108), some (aI (nI i)), none, none, none, none] [] (faM M f (M.1 194)) := by
  intro n
  induction n with
  | zero =>
    intro i f hi hf
    have hi : i = 40320 := by omega
    subst hi
    refine am_run hX 3 _ _ _ _ ?_
    conv => whnf
    exact ⟨fun _ => hK _ f hf, fun c => absurd (by decide) c⟩
  | succ n ih =>
    intro i f hi hf
    refine am_run hX 3 _ _ _ _ ?_
    conv => whnf
    refine ⟨fun c => absurd c (nI_ge (b := 40320) (by omega) (by decide)), fun _ => ?_⟩
    refine am_run hX 7 _ _ _ _ ?_
    conv => whnf
    refine ⟨vp_in_nI (by show i < 40320; omega) (by decide), ?_⟩
    conv => whnf
    rw [nI_clamp (n := i) (by omega), nI_1, fa_3, fa_f, byt1]
    exact ih (i + 1) (upd f i (-1)) (by omega) (fun j hj => by
      unfold upd
      by_cases c : j = i
      · rw [if_pos c]
      · rw [if_neg c]; exact hf j (by omega))
set_option maxRecDepth 100000 in
theorem ct_far (h : le_f M) : am_M (d + 3) false nm_X12_findFar [aR 108] M (fun r M' => r = .inl none ∧ ∃ f l, M' = faM M f l ∧ ∀ p, isP p → f (rkN p) = nI (dp p)) := by
  rcases h with h | ⟨h, hf⟩
  · refine ⟨rfl, rfl, rfl, fun X hX => am_run hX 3 _ _ _ _ ?_⟩
    conv => whnf
    rw [h]
    refine ⟨fun _ => ?_, fun c => absurd rfl c⟩
    refine am_run hX 5 _ _ _ _ ?_
    conv => whnf
    refine ⟨⟨rfl, rfl⟩, ?_⟩
    conv => whnf
    have e0 : mm_i M 108 (upd (M.1 108) 135 1) = faM M (M.1 193) (M.1 194) := by
      unfold faM
      rw [show M.1 193 = (mm_i M 108 (upd (M.1 108) 135 1)).1 193 from (mm_ne _ _ _ _ (by decide)).symm, mm_iz, show M.1 194 = (mm_i M 108 (upd (M.1 108) 135 1)).1 194 from (mm_ne _ _ _ _ (by decide)).symm, mm_iz]
    rw [e0]
    refine fr_0 hX (fun l1 f hf => ?_) 40320 0 (M.1 193) (by omega) (fun j hj => absurd hj (by omega))
    refine am_run hX 18 _ _ _ _ ?_
    conv => whnf
    refine am_c1 ct_same0 ?_
    conv => whnf
    refine ⟨show vp_in (nI 0) 40320 from vp_in_nI (by decide) (by decide), ?_⟩
    conv => whnf
    rw [show (0 : Int32).toNatClampNeg = 0 from rfl, fa_4, fa_l]
    refine ⟨show vp_in (nI 0) 40320 from vp_in_nI (by decide) (by decide), ?_⟩
    conv => whnf
    rw [fa_4, up_at]
    refine am_c1 (ct_rank (by decide)) ?_
    conv => whnf
    have rl := rk_lt idN
    refine ⟨vp_in_nI (by show _ < 40320; omega) (by decide), ?_⟩
    conv => whnf
    rw [nI_clamp (n := rkN idN) (by omega), fa_3, fa_f, byt0]
    have q0 := qv_0 (L := fun _ => idN) (f := f) rfl hf
    refine fr_h hX (fun L t f' l' Z kv ke => ?_) 40321 0 (fun _ => idN) 1 _ _ _ _ _ (by omega) q0.1 (fun _ => q0.2) (fun z => absurd z (by omega)) (by omega) (fun i hi => ?_)
    · refine am_run hX 1 _ _ _ _ ?_
      conv => whnf
      exact ⟨trivial, rfl, f', l', rfl, qv_e kv ke⟩
    · rw [show i = 0 by omega]; exact up_at
  · refine ⟨rfl, rfl, rfl, fun X hX => am_run hX 10 _ _ _ _ ?_⟩
    conv => whnf
    rw [h]
    refine ⟨fun c => absurd c (by decide), fun _ => ?_⟩
    conv => whnf
    refine ⟨trivial, rfl, M.1 193, M.1 194, ?_, hf⟩
    unfold faM
    rw [show upd (M.1 108) 135 1 = M.1 108 from by rw [← h, upd_self], mm_iz, mm_iz, mm_iz]
end LEG
