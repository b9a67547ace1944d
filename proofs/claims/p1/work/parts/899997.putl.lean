/-! LEAST: pack, putGate, putLeast -/
def opN (g : Nat) : Nat := 16 * (g / 4) + 1024 * lsC g
section LEE
variable {d : Nat} {M : mm_M}
theorem or_sh {a b k : Nat} (h : a < 2 ^ k) : a ||| b * 2 ^ k = a + b * 2 ^ k := by
  have := Nat.shiftLeft_add_eq_or_of_lt h b
  rw [Nat.shiftLeft_eq] at this
  rw [Nat.or_comm, ← this, Nat.add_comm]
set_option maxRecDepth 100000 in
theorem ct_pack {a w s c : Nat} (ha : a < 16) (hw : w < 8) (hs : s < 8) (hc : c < 256) : am_M (d + 1) false nm_X0_pack [aI (nI a), aI (nI w), aI (nI s), aI (nI c)] M (am_q1 (aI (nI (a + 16 * w + 128 * s + 1024 * c))) M) := by
  refine ⟨rfl, rfl, rfl, fun X hX => am_run hX 40 _ _ _ _ ?_⟩
  conv => whnf
  refine ⟨trivial, ?_, rfl⟩
  have e : nI a ||| (nI w &&& 7) <<< ((4 : Int32) &&& 31) ||| (nI s &&& 7) <<< ((7 : Int32) &&& 31) ||| (nI c &&& 255) <<< ((10 : Int32) &&& 31) = nI (a + 16 * w + 128 * s + 1024 * c) := by
    have e1 : a ||| w * 2 ^ 4 = a + w * 16 := or_sh (k := 4) ha
    have e2 : a + w * 16 ||| s * 2 ^ 7 = a + w * 16 + s * 128 := or_sh (k := 7) (by show _ < 128; omega)
    have e3 : a + w * 16 + s * 128 ||| c * 2 ^ 10 = a + w * 16 + s * 128 + c * 1024 := or_sh (k := 10) (by show _ < 1024; omega)
    rw [nI_m7, nI_m7, nI_m255, Nat.mod_eq_of_lt hw, Nat.mod_eq_of_lt hs, Nat.mod_eq_of_lt hc, show nI w <<< ((4 : Int32) &&& 31) = nI (w * 2 ^ 4) from nI_shl (by decide) (by show w * 16 < 4294967296; omega), show nI s <<< ((7 : Int32) &&& 31) = nI (s * 2 ^ 7) from nI_shl (by decide) (by show s * 128 < 4294967296; omega), show nI c <<< ((10 : Int32) &&& 31) = nI (c * 2 ^ 10) from nI_shl (by decide) (by show c * 1024 < 4294967296; omega), nI_or, nI_or, nI_or, e1, e2, e3]
    congr 1
    omega
  exact congrArg (fun v => (.inl (some (aI v)) : am_R)) e
set_option maxRecDepth 100000 in
theorem ct_putG {g k : Nat} {F : Nat → Int32} (hg : g < 12) (hk : k < 300) (hF : F k = nI (opN g)) : am_M (d + 2) false nm_X7_putGate [aR 9, aI (nI g)] (drM M F k) (am_q0 (drM M F (k + 1))) := by
  have c8 := cg_8 g hg
  refine ⟨rfl, rfl, rfl, fun X hX => am_run hX 30 _ _ _ _ ?_⟩
  conv => whnf
  refine ⟨vp_in_nI (by show g < 12; omega) (by decide), ?_⟩
  conv => whnf
  rw [nI_clamp (n := g) (by omega), show (fun j => xp_a4.getD j 0) g = nI (lsC g) from cg_a g hg, show nI g >>> ((2 : Int32) &&& 31) = nI (g / 4) from nI_sh (by omega) 2 (by decide)]
  refine am_c1 (ct_pack (a := 0) (s := 0) (by decide) (by omega) (by decide) (by omega)) ?_
  conv => whnf
  rw [show 0 + 16 * (g / 4) + 128 * 0 + 1024 * lsC g = opN g by unfold opN; omega]
  refine am_c0 (ct_put hk hF) ?_
  conv => whnf
  exact ⟨trivial, rfl, rfl⟩
variable {T : Nat → Nat} {q : Nat}
set_option maxRecDepth 100000 in
theorem pl_a {P : am_Q} {X : am_X} (hX : am_K (d + 8) false nm_X7_putLeast P X) (hq : isP q) (ht : trr (M.1 78) T) (hl : tl T) (hK : ∀ f, (∀ j, j < dq q - 3 → f j = nI (gw j q)) → X 27 [some (aR 70), some (aR 9), some (aI (nI q)), some (aI (nI (dq q - 3))), none, none, none] [] (mm_i M 73 f)) : ∀ (m a : Nat) (f : Nat → Int32), a + m = dq q - 3 → X 6 [some (aR 70), some (aR 9), some (aI (nI q)), some (aI (nI a)), none, none, none] [] (mm_i M 73 f) := by
  have q8 := (dq_p hq).1
  intro m
  induction m with
  | zero =>
    intro a f ha
    refine am_run hX 3 _ _ _ _ ?_
    conv => whnf
    refine ⟨fun c => absurd c (nI_nlt (a := 5) (by omega) (by decide)), fun _ => ?_⟩
    refine am_run hX 6 _ _ _ _ ?_
    conv => whnf
    by_cases c : dq q < 4
    · have a0 : a = 0 := by omega
      subst a0
      refine am_c1 (try_0 (d := d + 5) (k := 0) (M := mm_i M 73 f) hq (by rw [mm_ne _ _ _ _ (by decide)]; exact ht) hl) ?_
      conv => whnf
      rw [if_pos c]
      refine ⟨fun _ => ?_, fun z => absurd (by decide) z⟩
      have := hK f (fun j hj => absurd hj (by omega))
      rw [← ha] at this
      exact this
    · have h := try_t (d := d + (5 - a)) (M := M) ht hl a q 0 f hq (by omega) (by omega) (fun z => absurd z (by omega))
      rw [show d + (5 - a) + a + 3 = d + 8 by omega] at h
      refine am_cq h (fun r M' z => ?_)
      obtain ⟨rfl, f', rfl, _, h3⟩ := z
      refine ⟨_, rfl, ?_⟩
      conv => whnf
      refine ⟨fun _ => ?_, fun z => absurd (by decide) z⟩
      have := hK f' (fun j hj => by
        have := h3 j (by omega)
        rw [Nat.zero_add] at this
        exact this)
      rw [← ha] at this
      exact this
  | succ m ih =>
    intro a f ha
    refine am_run hX 3 _ _ _ _ ?_
    conv => whnf
    refine ⟨fun c => absurd c (nI_nlt (a := 5) (by omega) (by decide)), fun _ => ?_⟩
    refine am_run hX 6 _ _ _ _ ?_
    conv => whnf
    have h := try_f (d := d + (5 - a)) (M := M) ht hl a q 0 f hq (by omega) (by omega) (fun z => absurd z (by omega))
    rw [show d + (5 - a) + a + 3 = d + 8 by omega] at h
    refine am_cq h (fun r M' z => ?_)
    obtain ⟨rfl, f', rfl, _⟩ := z
    refine ⟨_, rfl, ?_⟩
    conv => whnf
    refine ⟨fun z => absurd rfl z, fun _ => ?_⟩
    refine am_run hX 2 _ _ _ _ ?_
    conv => whnf
    rw [nI_1]
    exact ih (a + 1) f' (by omega)
theorem gw_p (hq : isP q) {i : Nat} (hi : i < dq q) : gw i q < 12 ∧ isP (rs i q) ∧ dq (rs i q) + i = dq q := by
  have a := rs_p hq i (by omega)
  exact ⟨(gre_p a.1 (by omega)).1, a⟩
set_option maxRecDepth 100000 in
theorem pl_b {P : am_Q} {X : am_X} {A : Nat} {F : Nat → Int32} (hX : am_K (d + 8) false nm_X7_putLeast P X) (hq : isP q) (hA : A ≤ dq q) (hf : ∀ j, j < A → M.1 73 j = nI (gw j q)) (hF : ∀ j, j < dq q → F j = nI (opN (gw j q))) (hK : ∀ l5, X 70 [some (aR 70), some (aR 9), some (aI (nI q)), some (aI (nI A)), some (aI (nI (rs A q))), l5, none] [] (drM M F A)) : ∀ (m i : Nat), i + m = A → X 33 [some (aR 70), some (aR 9), some (aI (nI q)), some (aI (nI A)), some (aI (nI (rs i q))), some (aI (nI i)), none] [] (drM M F i) := by
  have q8 := (dq_p hq).1
  intro m
  induction m with
  | zero =>
    intro i hi
    have hi : i = A := by omega
    subst hi
    refine am_run hX 3 _ _ _ _ ?_
    conv => whnf
    exact ⟨fun _ => hK _, fun c => absurd (nI_le (Nat.le_refl _) (by omega)) c⟩
  | succ m ih =>
    intro i hi
    have ⟨g12, p1, p2⟩ := gw_p hq (show i < dq q by omega)
    have ih := ih (i + 1) (by omega)
    rw [rs_s] at ih
    refine am_run hX 3 _ _ _ _ ?_
    conv => whnf
    refine ⟨fun c => absurd c (nI_ge (by omega) (by omega)), fun _ => ?_⟩
    refine am_run hX 15 _ _ _ _ ?_
    conv => whnf
    refine ⟨vp_in_nI (by show i < 301; omega) (by decide), ?_⟩
    conv => whnf
    rw [nI_clamp (n := i) (by omega), dr_r _ _ _ (by decide) (by decide), hf i (by omega)]
    refine am_c0 (ct_putG g12 (by omega) (hF i (by omega))) ?_
    conv => whnf
    refine ⟨vp_in_nI (by show i < 301; omega) (by decide), ?_⟩
    conv => whnf
    rw [nI_clamp (n := i) (by omega), dr_r _ _ _ (by decide) (by decide), hf i (by omega)]
    refine am_c1 (ct_gated (isP_lt p1) g12) ?_
    conv => whnf
    rw [nI_1]
    exact ih
set_option maxRecDepth 100000 in
theorem pl_g {P : am_Q} {X : am_X} {A k : Nat} (hX : am_K (d + 8) false nm_X7_putLeast P X) (hq : isP q) (hk : k < dq q) (h3 : dq q ≤ k + 3) (ht : trr (M.1 78) T) (hl : tl T) (hK : X 117 [some (aR 70), some (aR 9), some (aI (nI q)), some (aI (nI A)), some (aI (nI (rs k q))), some (aI (nI (dq q - k))), some (aI (nI (gw k q)))] [] M) : ∀ (m g : Nat), g + m = gw k q → X 88 [some (aR 70), some (aR 9), some (aI (nI q)), some (aI (nI A)), some (aI (nI (rs k q))), some (aI (nI (dq q - k))), some (aI (nI g))] [] M := by
  have ⟨g12, p1, p2⟩ := gw_p hq hk
  have ⟨_, gd, gm⟩ := gre_p p1 (by omega)
  have gd : dq (gaN (rs k q) (gw k q)) + 1 = dq (rs k q) := gd
  have gm : ∀ g', g' < gw k q → dq (rs k q) ≤ dq (gaN (rs k q) g') := gm
  intro m
  induction m with
  | zero =>
    intro g hg
    have hg : g = gw k q := by omega
    subst hg
    refine am_run hX 3 _ _ _ _ ?_
    conv => whnf
    refine ⟨fun _ => hK, fun _ => ?_⟩
    refine am_run hX 7 _ _ _ _ ?_
    conv => whnf
    refine am_c1 (ct_gated (isP_lt p1) g12) ?_
    conv => whnf
    refine am_c1 (ct_near (ga_lt g12 (isP_lt p1)) ht) ?_
    conv => whnf
    rw [tl_n hl (isP_ga g12 p1), if_pos (by omega), show dq (gaN (rs k q) (gw k q)) + 1 = dq q - k by omega]
    exact ⟨fun _ => hK, fun c => absurd rfl c⟩
  | succ m ih =>
    intro g hg
    have l := gm g (by omega)
    refine am_run hX 3 _ _ _ _ ?_
    conv => whnf
    refine ⟨fun c => absurd c (nI_ge (b := 11) (by omega) (by decide)), fun _ => ?_⟩
    refine am_run hX 7 _ _ _ _ ?_
    conv => whnf
    refine am_c1 (ct_gated (g := g) (isP_lt p1) (by omega)) ?_
    conv => whnf
    refine am_c1 (ct_near (ga_lt (by omega) (isP_lt p1)) ht) ?_
    conv => whnf
    have g8 := (dq_p (isP_ga (show g < 12 by omega) p1)).1
    have ne : (if dq (gaN (rs k q) g) < 4 then dq (gaN (rs k q) g) + 1 else 0) ≠ dq q - k := by split <;> omega
    have lt : (if dq (gaN (rs k q) g) < 4 then dq (gaN (rs k q) g) + 1 else 0) < 10 := by split <;> omega
    rw [tl_n hl (isP_ga (by omega) p1)]
    refine ⟨fun c => absurd ((nI_eq (by omega) (by omega)).mp c) ne, fun _ => ?_⟩
    refine am_run hX 2 _ _ _ _ ?_
    conv => whnf
    rw [nI_1]
    exact ih (g + 1) (by omega)
set_option maxRecDepth 100000 in
theorem pl_c {P : am_Q} {X : am_X} {A : Nat} {F : Nat → Int32} (hX : am_K (d + 8) false nm_X7_putLeast P X) (hq : isP q) (ht : trr (M.1 78) T) (hl : tl T) (hF : ∀ j, j < dq q → F j = nI (opN (gw j q))) (hK : ∀ L, X 138 L [] (drM M F (dq q))) : ∀ (m k : Nat) (l6 : Option am_V), k + m = dq q → dq q ≤ k + 3 → X 80 [some (aR 70), some (aR 9), some (aI (nI q)), some (aI (nI A)), some (aI (nI (rs k q))), some (aI (nI (dq q - k))), l6] [] (drM M F k) := by
  have q8 := (dq_p hq).1
  intro m
  induction m with
  | zero =>
    intro k l6 hk h3
    have hk : k = dq q := by omega
    subst hk
    refine am_run hX 2 _ _ _ _ ?_
    conv => whnf
    rw [show dq q - dq q = 0 by omega]
    exact ⟨fun _ => hK _, fun c => absurd (by decide) c⟩
  | succ m ih =>
    intro k l6 hk h3
    have ⟨g12, p1, p2⟩ := gw_p hq (show k < dq q by omega)
    have ih := ih (k + 1) (some (aI (nI (gw k q)))) (by omega) (by omega)
    rw [rs_s] at ih
    refine am_run hX 2 _ _ _ _ ?_
    conv => whnf
    refine ⟨fun c => absurd c (nI_nle (by omega) (by omega)), fun _ => ?_⟩
    refine am_run hX 2 _ _ _ _ ?_
    conv => whnf
    refine pl_g hX hq (show k < dq q by omega) h3 (T := T) (by rw [dr_r _ _ _ (by decide) (by decide)]; exact ht) hl ?_ (gw k q) 0 (by omega)
    refine am_run hX 9 _ _ _ _ ?_
    conv => whnf
    refine am_c0 (ct_putG g12 (by omega) (hF k (by omega))) ?_
    conv => whnf
    refine am_c1 (ct_gated (isP_lt p1) g12) ?_
    conv => whnf
    rw [show dq q - k = (dq q - (k + 1)) + 1 by omega, nI_m1']
    exact ih
set_option maxRecDepth 100000 in
theorem ct_pl {F : Nat → Int32} (hq : isP q) (h : le_t M) (hF : ∀ j, j < dq q → F j = nI (opN (gw j q))) : am_M (d + 9) false nm_X7_putLeast [aR 70, aR 9, aI (nI q)] (drM M F 0) (fun r M' => r = .inl none ∧ ∃ f p T, M' = drM (mm_i (mm_i M 78 f) 73 p) F (dq q) ∧ trr f T ∧ tl T) := by
  have q8 := (dq_p hq).1
  refine ⟨rfl, rfl, rfl, fun X hX => am_run hX 4 _ _ _ _ ?_⟩
  conv => whnf
  refine am_cq (ct_learn (d := d + 5) (M := drM M F 0) (by
    unfold le_t
    rw [dr_r _ _ _ (by decide) (by decide)]
    exact h)) (fun r M' z => ?_)
  obtain ⟨rfl, f, T, rfl, ht, hl⟩ := z
  refine ⟨_, rfl, ?_⟩
  conv => whnf
  rw [dr_c _ _ _ _ (by decide) (by decide), ← mm_iz (drM (mm_i M 78 f) F 0) 73]
  have ht' : trr ((drM (mm_i M 78 f) F 0).1 78) T := by
    rw [dr_r _ _ _ (by decide) (by decide), mm_i1]; exact ht
  refine pl_a hX hq ht' hl (fun p hp => ?_) (dq q - 3) 0 _ (by omega)
  rw [dr_c _ _ _ _ (by decide) (by decide)]
  refine am_run hX 4 _ _ _ _ ?_
  conv => whnf
  refine pl_b (A := dq q - 3) hX hq (by omega) (fun j hj => by rw [mm_i1]; exact hp j hj) hF (fun l5 => ?_) (dq q - 3) 0 (by omega)
  have r3 := rs_p hq (dq q - 3) (by omega)
  have ht2 : trr ((mm_i (mm_i M 78 f) 73 p).1 78) T := by
    rw [mm_ne _ _ _ _ (by decide), mm_i1]; exact ht
  refine am_run hX 6 _ _ _ _ ?_
  conv => whnf
  refine am_c1 (ct_near (T := T) (isP_lt r3.1) (by rw [dr_r _ _ _ (by decide) (by decide)]; exact ht2)) ?_
  conv => whnf
  rw [tl_n hl r3.1, if_pos (by omega), nI_s1 _ (by omega), show dq (rs (dq q - 3) q) + 1 - 1 = dq q - (dq q - 3) by omega]
  refine pl_c (A := dq q - 3) hX hq ht2 hl hF (fun L => ?_) (dq q - (dq q - 3)) (dq q - 3) none (by omega) (by omega)
  refine am_run hX 2 _ _ _ _ ?_
  conv => whnf
  exact ⟨trivial, rfl, f, p, T, rfl, ht, hl⟩
end LEE
