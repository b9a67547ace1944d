/-! THE REFERENCE'S isLike, nodes; THE PAIR -/
theorem red_inj {K : Nat} {X Y : R4} (h : red K X = red K Y) : X = Y := by
  have a := (red_v K X).2
  have b := (red_v K Y).2
  rw [h, b] at a
  exact a.symm
theorem red_inj2 {K : Nat} {X Y : R4} : ((red K X).1 = (red K Y).1 ∧ (red K X).2 = (red K Y).2) ↔ X = Y := by
  constructor
  · intro h
    exact red_inj (Prod.ext h.1 h.2)
  · intro h
    rw [h]
    exact ⟨rfl, rfl⟩
def v2 (M : mm_M) (q f : Nat → Int64) : mm_M := mm_l (mm_l M 152 q) 118 f
theorem v2_f (M : mm_M) (q f f' : Nat → Int64) : mm_l (v2 M q f) 118 f' = v2 M q f' := by
  unfold v2
  rw [mm_ll]
theorem v2_q (M : mm_M) (q f q' : Nat → Int64) : mm_l (v2 M q f) 152 q' = v2 M q' f := by
  unfold v2
  rw [mm_lc _ 118 152 _ _ (by decide), mm_ll]
theorem v2_z (M : mm_M) : v2 M (M.2 152) (M.2 118) = M := by
  unfold v2
  rw [mm_lz, mm_lz]
/-- the STATE as the reference has it, with its bound -/
def stRf (M : mm_M) (W k : Nat) (xs : Nat → R4) : Prop := M.1 108 71 = nI W ∧ W ≤ 8 ∧ k ≤ 60 ∧ (∀ j, j < 2 ^ W → at5 (M.2 150) (5 * j) (red k (xs j)).1 (red k (xs j)).2) ∧ ∀ j, j < 2 ^ W → nrm (xs j) ≤ 2 ^ 60
section NDR
variable {d : Nat} {M : mm_M} {g : Nat → Int64}
set_option maxRecDepth 100000 in
theorem io_l152 {P : am_Q} {X : am_X} {a : Nat} (hX : am_K d false nm_X12_isOne P X) (ha : a + 5 ≤ 10) (hP : P (.inl (some (aI (b01 (allN (fun i => decide (M.2 118 i = M.2 152 (a + i))) 5))))) M) : ∀ (m i : Nat), i + m = 5 → X 5 [some (aR 108), some (aR 152), some (aI (nI a)), some (aI (b01 (allN (fun i => decide (M.2 118 i = M.2 152 (a + i))) i))), some (aI (nI i))] [] M := by
  intro m
  induction m with
  | zero =>
    intro i hi
    have hi : i = 5 := by omega
    subst hi
    refine am_run hX 6 _ _ _ _ ?_
    conv => whnf
    refine ⟨fun _ => ?_, fun c => absurd (by decide) c⟩
    conv => whnf
    refine ⟨?_, hP⟩
    cases allN (fun i => decide (M.2 118 i = M.2 152 (a + i))) 5 <;> rfl
  | succ m ih =>
    intro i hi
    have ih := ih (i + 1) (by omega)
    simp only [allN] at ih
    refine am_run hX 3 _ _ _ _ ?_
    conv => whnf
    refine ⟨fun c => absurd c (nI_ge (a := i) (b := 5) (by omega) (by decide)), fun _ => ?_⟩
    cases hc : allN (fun i => decide (M.2 118 i = M.2 152 (a + i))) i with
    | false =>
      rw [hc, Bool.false_and] at ih
      refine am_run hX 2 _ _ _ _ ?_
      conv => whnf
      refine ⟨fun _ => ?_, fun c => absurd rfl c⟩
      refine am_run hX 4 _ _ _ _ ?_
      conv => whnf
      rw [nI_1]
      exact ih
    | true =>
      rw [hc, Bool.true_and] at ih
      refine am_run hX 2 _ _ _ _ ?_
      conv => whnf
      refine ⟨fun c => absurd c (by decide), fun _ => ?_⟩
      refine am_run hX 11 _ _ _ _ ?_
      conv => whnf
      refine ⟨vp_in_nI (by show _ < 5; omega) (by decide), ?_⟩
      conv => whnf
      rw [nI_add]
      refine ⟨vp_in_nI (by show _ < 10; omega) (by decide), ?_⟩
      conv => whnf
      rw [nI_clamp (n := i) (by omega), nI_clamp (n := a + i) (by omega), lg_0]
      refine ⟨fun c => ?_, fun c => ?_⟩
      · rw [decide_eq_false c] at ih
        refine am_run hX 4 _ _ _ _ ?_
        conv => whnf
        rw [nI_1]
        exact ih
      · rw [decide_eq_true (Decidable.byContradiction c)] at ih
        refine am_run hX 5 _ _ _ _ ?_
        conv => whnf
        rw [nI_1]
        exact ih
set_option maxRecDepth 100000 in
theorem ct_isOneK {a k l : Nat} {x y : R4} {f : Nat → Int64} (ha : a + 5 ≤ 10) (hx : bd x) (hy : bd y) (hk : k < 2 ^ 31) (hl : l < 2 ^ 31) (hh : at5 (M.2 152) a y l) : am_M (d + 1) false nm_X12_isOne [aR 108, aR 152, aI (nI a)] (mm_l M 118 (ov f x k)) (am_q1 (aI (b01 (decide (x = y ∧ k = l)))) (mm_l M 118 (ov f x k))) := by
  have e : allN (fun i => decide ((mm_l M 118 (ov f x k)).2 118 i = (mm_l M 118 (ov f x k)).2 152 (a + i))) 5 = decide (x = y ∧ k = l) := by
    rw [mm_l2, mm_lne _ 118 152 _ (by decide)]
    have := io_e (f := f) hx hy hk hl hh
    by_cases z : x = y ∧ k = l
    · rw [decide_eq_true z]
      exact this.mpr z
    · rw [decide_eq_false z]
      exact nt_f (fun q => z (this.mp q))
  refine ⟨rfl, rfl, rfl, fun X hX => am_run hX 4 _ _ _ _ ?_⟩
  conv => whnf
  exact io_l152 (M := mm_l M 118 (ov f x k)) hX ha (by rw [e]; exact ⟨rfl, rfl⟩) 5 0 (by omega)
theorem nI_ors {t l j : Nat} (hl : l < 32) (ht : t < 2 ^ l) (hj : j * 2 ^ l < 2 ^ 32) : nI t ||| nI j <<< (nI l &&& 31) = nI (t + 2 ^ l * j) := by rw [nI_shl hl hj, nI_or, ix_or ht]
theorem sr_z {W k l a j : Nat} {xs : Nat → R4} (hS : stRf M W k xs) (hl : l ≤ W) (ha : a < 2 ^ l) (hj : j < (2 ^ (W - l))) (q f : Nat → Int64) : am_M (d + 1) false nm_X12_isZeroAt [aR 108, aI (nI (a + 2 ^ l * j))] (v2 M q f) (am_q1 (aI (b01 (decide ((sub xs l a) j = (0, 0, 0, 0))))) (v2 M q f)) := by
  obtain ⟨hw, w8, k60, h5, hn⟩ := hS
  have h8 := w256 w8
  have hi := ix_lt hl ha hj
  have key := ct_isz5 (d := d) (M := v2 M q f) (show a + 2 ^ l * j < 256 by omega) (vr_bd (vr_red k (xs (a + 2 ^ l * j))) (nrm_bd (by have := hn _ hi; omega))) (h5 _ hi)
  by_cases c : (sub xs l a) j = (0, 0, 0, 0)
  · rw [if_pos (show (red k (xs (a + 2 ^ l * j))).1 = (0, 0, 0, 0) by rw [show xs (a + 2 ^ l * j) = (0, 0, 0, 0) from c, red_0])] at key
    rw [decide_eq_true c]
    exact key
  · rw [if_neg (show ¬ (red k (xs (a + 2 ^ l * j))).1 = (0, 0, 0, 0) from fun z => c (red_nz z))] at key
    rw [decide_eq_false c]
    exact key
set_option maxRecDepth 100000 in
theorem lf_l {P : am_Q} {X : am_X} {p : Nat} {W k l a b : Nat} {xs : Nat → R4} (hS : stRf M W k xs) (hl : l ≤ W) (ha : a < 2 ^ l) (hb : b < 2 ^ l) {q f : Nat → Int64} (hX : am_K (d + 1) false nm_X12_isLike P X) (hp : p < (2 ^ (W - l))) (hf : isF (sub xs l a) p) (hK : X 22 [some (aR 108), some (aI (nI l)), some (aI (nI a)), some (aI (nI b)), some (aI (nI p)), none] [] (v2 M q f)) : ∀ (m j : Nat), j + m = p → X 3 [some (aR 108), some (aI (nI l)), some (aI (nI a)), some (aI (nI b)), some (aI (nI j)), none] [] (v2 M q f) := by
  have hS0 := hS
  obtain ⟨hw, w8, k60, h5, hn⟩ := hS
  have h8 := w256 w8
  have hsh : ∀ j, j < (2 ^ (W - l)) → j * 2 ^ l < 2 ^ 32 := fun j hj => by
    have := ix_lt (t := 0) hl (Nat.two_pow_pos l) hj
    rw [Nat.mul_comm]
    omega
  intro m
  induction m with
  | zero =>
    intro j hj
    have hj : j = p := by omega
    subst hj
    refine am_run hX 8 _ _ _ _ ?_
    conv => whnf
    rw [nI_ors (by omega) ha (hsh j hp)]
    refine am_c1 (sr_z (d := d) hS0 hl ha hp q f) ?_
    rw [decide_eq_false hf.1]
    conv => whnf
    exact ⟨fun _ => hK, fun c => absurd rfl c⟩
  | succ m ih =>
    intro j hj
    have ih := ih (j + 1) (by omega)
    refine am_run hX 8 _ _ _ _ ?_
    conv => whnf
    rw [nI_ors (by omega) ha (hsh j (by omega))]
    refine am_c1 (sr_z (d := d) hS0 hl ha (show j < (2 ^ (W - l)) by omega) q f) ?_
    rw [decide_eq_true (hf.2 j (by omega))]
    conv => whnf
    refine ⟨fun c => absurd c (by decide), fun _ => ?_⟩
    refine am_run hX 2 _ _ _ _ ?_
    conv => whnf
    rw [nI_1]
    exact ih
set_option maxRecDepth 100000 in
theorem lj_l {P : am_Q} {X : am_X} {p : Nat} {W k l a b : Nat} {xs : Nat → R4} (hS : stRf M W k xs) (hl : l ≤ W) (ha : a < 2 ^ l) (hb : b < 2 ^ l) (hX : am_K (d + 2) false nm_X12_isLike P X) (hp : p < (2 ^ (W - l))) (hF : allN (alB (2 ^ (W - l)) p (sub xs l a) (sub xs l b)) (2 ^ (W - l)) = false → ∀ q f, P (.inl (some (aI 0))) (v2 M q f)) (hK : allN (alB (2 ^ (W - l)) p (sub xs l a) (sub xs l b)) (2 ^ (W - l)) = true → ∀ q f j, X 131 [some (aR 108), some (aI (nI l)), some (aI (nI a)), some (aI (nI b)), some (aI (nI p)), some (aI j)] [] (v2 M q f)) : ∀ (m j : Nat), j + m = (2 ^ (W - l)) → allN (alB (2 ^ (W - l)) p (sub xs l a) (sub xs l b)) j = true → ∀ q f, X 25 [some (aR 108), some (aI (nI l)), some (aI (nI a)), some (aI (nI b)), some (aI (nI p)), some (aI (nI j))] [] (v2 M q f) := by
  have hS0 := hS
  obtain ⟨hw, w8, k60, h5, hn⟩ := hS
  have h8 := w256 w8
  have hK8 : (2 ^ (W - l)) ≤ 2 ^ W := Nat.pow_le_pow_right (by decide) (by omega)
  have hsh : ∀ j, j < (2 ^ (W - l)) → j * 2 ^ l < 2 ^ 32 := fun j hj => by
    have := ix_lt (t := 0) hl (Nat.two_pow_pos l) hj
    rw [Nat.mul_comm]
    omega
  have ews : ∀ q f, (1 : Int32) <<< ((v2 M q f).1 108 71 - nI l &&& 31) = nI (2 ^ (W - l)) := fun q f => by
    rw [show (v2 M q f).1 108 71 = nI W from hw, nI_sub hl, sh2 _ (by omega)]
  intro m
  induction m with
  | zero =>
    intro j hj hA q f
    have hj : j = (2 ^ (W - l)) := by omega
    subst hj
    refine am_run hX 8 _ _ _ _ ?_
    conv => whnf
    rw [ews]
    exact ⟨fun _ => hK hA _ _ _, fun c => absurd (nI_le (by omega) (by omega)) c⟩
  | succ m ih =>
    intro j hj hA q f
    have ih := ih (j + 1) (by omega)
    have hjK : j < (2 ^ (W - l)) := by omega
    have i1 := ix_lt hl ha hjK
    have i2 := ix_lt hl hb hp
    have i3 := ix_lt hl hb hjK
    have i4 := ix_lt hl ha hp
    have hlm : ∀ i j, i < 2 ^ W → j < 2 ^ W → bd (mu (xs i) (xs j)) := fun i j hi hj => lm_bd (lm_le (lm_mu _ _) (by have := hn i hi; have := hn j hj; omega))
    have v1 := vr_mu (vr_red k (xs (a + 2 ^ l * j))) (vr_red k (xs (b + 2 ^ l * p)))
    have v2' := vr_mu (vr_red k (xs (b + 2 ^ l * j))) (vr_red k (xs (a + 2 ^ l * p)))
    have e1 := vr_u v1
    have e2 := vr_u v2'
    have l1 := (vr_red k (xs (a + 2 ^ l * j))).1
    have l2 := (vr_red k (xs (b + 2 ^ l * p))).1
    have l3 := (vr_red k (xs (b + 2 ^ l * j))).1
    have l4 := (vr_red k (xs (a + 2 ^ l * p))).1
    have y1 := (vr_red (k + k) (mu (xs (a + 2 ^ l * j)) (xs (b + 2 ^ l * p)))).1
    have y2 := (vr_red (k + k) (mu (xs (b + 2 ^ l * j)) (xs (a + 2 ^ l * p)))).1
    have z1 := vr_bd (vr_red (k + k) (mu (xs (a + 2 ^ l * j)) (xs (b + 2 ^ l * p)))) (hlm _ _ i1 i2)
    have z2 := vr_bd (vr_red (k + k) (mu (xs (b + 2 ^ l * j)) (xs (a + 2 ^ l * p)))) (hlm _ _ i3 i4)
    refine am_run hX 8 _ _ _ _ ?_
    conv => whnf
    rw [ews]
    refine ⟨fun c => absurd c (nI_ge (by omega) (by omega)), fun _ => ?_⟩
    refine am_run hX 55 _ _ _ _ ?_
    conv => whnf
    rw [nI_ors (by omega) ha (hsh j hjK), show (5 : Int32) = nI 5 from rfl, nI_mul]
    refine am_c0 (ct_ld150 (d := d + 1) (by omega) (h5 _ i1)) ?_
    conv => whnf
    rw [nI_ors (by omega) hb (hsh p hp), show (5 : Int32) = nI 5 from rfl, nI_mul]
    refine am_c0 (ct_mul150 (d := d) (M := v2 M q f) (by omega) (by omega) (by omega) (h5 _ i2) (vr_bd v1 (hlm _ _ i1 i2))) ?_
    rw [e1]
    conv => whnf
    refine am_c0 (ct_store152 (d := d + 1) (a := 0) (by omega)) ?_
    rw [mm_l2, mm_lne _ 118 152 _ (by decide), sv_0, v2_f, v2_q]
    conv => whnf
    rw [nI_ors (by omega) hb (hsh j hjK), show (5 : Int32) = nI 5 from rfl, nI_mul]
    refine am_c0 (ct_ld150 (d := d + 1) (by omega) (h5 _ i3)) ?_
    conv => whnf
    rw [nI_ors (by omega) ha (hsh p hp), show (5 : Int32) = nI 5 from rfl, nI_mul]
    refine am_c0 (ct_mul150 (d := d) (by omega) (by omega) (by omega) (h5 _ i4) (vr_bd v2' (hlm _ _ i3 i4))) ?_
    rw [e2]
    conv => whnf
    refine am_c1 (ct_isOneK (d := d + 1) (a := 0) (by omega) z2 z1 (by omega) (by omega) (at_ov _ _ _)) ?_
    rw [v2_f]
    have eq2 := red_inj2 (K := k + k) (X := mu (xs (b + 2 ^ l * j)) (xs (a + 2 ^ l * p))) (Y := mu (xs (a + 2 ^ l * j)) (xs (b + 2 ^ l * p)))
    by_cases c : mu (xs (b + 2 ^ l * j)) (xs (a + 2 ^ l * p)) = mu (xs (a + 2 ^ l * j)) (xs (b + 2 ^ l * p))
    · rw [decide_eq_true (eq2.mpr c)]
      conv => whnf
      refine ⟨fun _ => ?_, fun c => absurd (by decide) c⟩
      refine am_run hX 2 _ _ _ _ ?_
      conv => whnf
      rw [nI_1]
      exact ih (by simp only [allN]; rw [hA, show alB (2 ^ (W - l)) p (sub xs l a) (sub xs l b) j = true from decide_eq_true c.symm]; rfl) _ _
    · rw [decide_eq_false (fun z => c (eq2.mp z))]
      conv => whnf
      refine ⟨fun c => absurd rfl c, fun _ => ?_⟩
      refine am_run hX 3 _ _ _ _ ?_
      conv => whnf
      exact ⟨rfl, hF (nt_f fun z => c (of_decide_eq_true ((all_iff _).mp z j hjK)).symm) _ _⟩
set_option maxRecDepth 100000 in
theorem ct_isLike {W k l a b : Nat} {xs : Nat → R4} (hS : stRf M W k xs) (hl : l ≤ W) (ha : a < 2 ^ l) (hb : b < 2 ^ l) (h0 : ∃ j, j < (2 ^ (W - l)) ∧ ¬ (sub xs l a) j = (0, 0, 0, 0)) (q f : Nat → Int64) : am_M (d + 3) false nm_X12_isLike [aR 108, aI (nI l), aI (nI a), aI (nI b)] (v2 M q f) (fun r M' => (∃ t : Bool, r = .inl (some (aI (b01 t))) ∧ (t = true ↔ alk (2 ^ (W - l)) (sub xs l a) (sub xs l b))) ∧ ∃ q' f', M' = v2 M q' f') := by
  have hS0 := hS
  obtain ⟨hw, w8, k60, h5, hn⟩ := hS
  have h8 := w256 w8
  obtain ⟨j0, hj0, hne⟩ := h0
  obtain ⟨p, hpj, hf⟩ := isF_x j0 hne
  have hp : p < (2 ^ (W - l)) := by omega
  have hB := alk_B (v := (sub xs l b)) hp hf
  have hsh : p * 2 ^ l < 2 ^ 32 := by
    have := ix_lt (t := 0) hl (Nat.two_pow_pos l) hp
    rw [Nat.mul_comm]
    omega
  refine ⟨rfl, rfl, rfl, fun X hX => am_run hX 2 _ _ _ _ ?_⟩
  conv => whnf
  refine lf_l (d := d + 1) hS0 hl ha hb hX hp hf ?_ p 0 (by omega)
  refine am_run hX 2 _ _ _ _ ?_
  conv => whnf
  refine lj_l (d := d) hS0 hl ha hb hX hp (fun hA q f => ⟨⟨false, rfl, ⟨fun z => absurd z (by decide), fun z => by have := (hB.mp z).2; rw [hA] at this; exact absurd this (by decide)⟩⟩, q, f, rfl⟩) (fun hA q f j => ?_) (2 ^ (W - l)) 0 (by omega) rfl _ _
  refine am_run hX 20 _ _ _ _ ?_
  conv => whnf
  rw [nI_ors (by omega) hb hsh]
  refine am_c1 (sr_z (d := d + 1) hS0 hl hb hp q f) ?_
  by_cases c : (sub xs l b) p = (0, 0, 0, 0)
  · rw [decide_eq_true c]
    conv => whnf
    refine ⟨fun _ => ?_, fun c => absurd (by decide) c⟩
    conv => whnf
    exact ⟨rfl, ⟨false, rfl, ⟨fun z => absurd z (by decide), fun z => absurd c (hB.mp z).1⟩⟩, q, f, rfl⟩
  · rw [decide_eq_false c]
    conv => whnf
    refine ⟨fun c => absurd rfl c, fun _ => ?_⟩
    conv => whnf
    exact ⟨rfl, ⟨true, rfl, ⟨fun _ => hB.mpr ⟨c, hA⟩, fun _ => rfl⟩⟩, q, f, rfl⟩
set_option maxRecDepth 100000 in
theorem nz_1 {P : am_Q} {X : am_X} {W k l t : Nat} {xs : Nat → R4} {q f : Nat → Int64} {c : Nat} {l6 l7 l8 : Option am_V}  (hX : am_K (d + 1) false nm_X12_nodes P X) (hS : stRf M W k xs) (hl : l ≤ W) (ht : t < 2 ^ l) (hK : ∀ j, X 87 [some (aR 108), some (aI (nI l)), some (aI (nI c)), some (aI (nI t)), some (aI (b01 (allN (fun j => decide (sub xs l t j = (0, 0, 0, 0))) (2 ^ (W - l))))), some (aI j), l6, l7, l8] [] (v2 M q f)) : ∀ (m j : Nat), j + m = (2 ^ (W - l)) → X 43 [some (aR 108), some (aI (nI l)), some (aI (nI c)), some (aI (nI t)), some (aI (b01 (allN (fun j => decide (sub xs l t j = (0, 0, 0, 0))) j))), some (aI (nI j)), l6, l7, l8] [] (v2 M q f) := by
  have hS0 := hS
  obtain ⟨hw, w8, k60, h5, hn⟩ := hS
  have h8 := w256 w8
  have hK8 : (2 ^ (W - l)) ≤ 2 ^ W := Nat.pow_le_pow_right (by decide) (by omega)
  have hsh : ∀ j, j < (2 ^ (W - l)) → j * 2 ^ l < 2 ^ 32 := fun j hj => by
    have := ix_lt (t := 0) hl (Nat.two_pow_pos l) hj
    rw [Nat.mul_comm]
    omega
  have ews : (1 : Int32) <<< ((v2 M q f).1 108 71 - nI l &&& 31) = nI (2 ^ (W - l)) := by
    rw [show (v2 M q f).1 108 71 = nI W from hw, nI_sub hl, sh2 _ (by omega)]
  intro m
  induction m with
  | zero =>
    intro j hj
    have hj : j = (2 ^ (W - l)) := by omega
    subst hj
    refine am_run hX 8 _ _ _ _ ?_
    conv => whnf
    rw [ews]
    exact ⟨fun _ => hK _, fun c => absurd (nI_le (by omega) (by omega)) c⟩
  | succ m ih =>
    intro j hj
    have ih := ih (j + 1) (by omega)
    have hjK : j < (2 ^ (W - l)) := by omega
    simp only [allN] at ih
    refine am_run hX 8 _ _ _ _ ?_
    conv => whnf
    rw [ews]
    refine ⟨fun c => absurd c (nI_ge (by omega) (by omega)), fun _ => ?_⟩
    refine am_run hX 2 _ _ _ _ ?_
    conv => whnf
    cases hc : allN (fun j => decide (sub xs l t j = (0, 0, 0, 0))) j with
    | false =>
      rw [hc, Bool.false_and] at ih
      refine ⟨fun _ => ?_, fun c => absurd rfl c⟩
      refine am_run hX 4 _ _ _ _ ?_
      conv => whnf
      rw [nI_1]
      exact ih
    | true =>
      rw [hc, Bool.true_and] at ih
      refine ⟨fun c => absurd c (by decide), fun _ => ?_⟩
      refine am_run hX 8 _ _ _ _ ?_
      conv => whnf
      rw [nI_ors (by omega) ht (hsh j hjK)]
      refine am_c1 (sr_z (d := d) hS0 hl ht hjK q f) ?_
      by_cases c : sub xs l t j = (0, 0, 0, 0)
      · rw [decide_eq_true c] at ih ⊢
        conv => whnf
        refine ⟨fun c => absurd c (by decide), fun _ => ?_⟩
        refine am_run hX 5 _ _ _ _ ?_
        conv => whnf
        rw [nI_1]
        exact ih
      · rw [decide_eq_false c] at ih ⊢
        conv => whnf
        refine ⟨fun _ => ?_, fun c => absurd rfl c⟩
        refine am_run hX 4 _ _ _ _ ?_
        conv => whnf
        rw [nI_1]
        exact ih
set_option maxRecDepth 100000 in
theorem nz_2 {P : am_Q} {X : am_X} {W k l t : Nat} {xs : Nat → R4} {q f : Nat → Int64} {c x : Nat} {s : Bool} {u : Bool} (hX : am_K (d + 1) false nm_X12_nodes P X) (hS : stRf M W k xs) (hl : l ≤ W) (ht : t < 2 ^ l) (hK : ∀ j, X 156 [some (aR 108), some (aI (nI l)), some (aI (nI c)), some (aI (nI x)), some (aI (b01 u)), some (aI (b01 s)), some (aI (nI t)), some (aI (b01 (allN (fun j => decide (sub xs l t j = (0, 0, 0, 0))) (2 ^ (W - l))))), some (aI j)] [] (v2 M q f)) : ∀ (m j : Nat), j + m = (2 ^ (W - l)) → X 111 [some (aR 108), some (aI (nI l)), some (aI (nI c)), some (aI (nI x)), some (aI (b01 u)), some (aI (b01 s)), some (aI (nI t)), some (aI (b01 (allN (fun j => decide (sub xs l t j = (0, 0, 0, 0))) j))), some (aI (nI j))] [] (v2 M q f) := by
  have hS0 := hS
  obtain ⟨hw, w8, k60, h5, hn⟩ := hS
  have h8 := w256 w8
  have hK8 : (2 ^ (W - l)) ≤ 2 ^ W := Nat.pow_le_pow_right (by decide) (by omega)
  have hsh : ∀ j, j < (2 ^ (W - l)) → j * 2 ^ l < 2 ^ 32 := fun j hj => by
    have := ix_lt (t := 0) hl (Nat.two_pow_pos l) hj
    rw [Nat.mul_comm]
    omega
  have ews : (1 : Int32) <<< ((v2 M q f).1 108 71 - nI l &&& 31) = nI (2 ^ (W - l)) := by
    rw [show (v2 M q f).1 108 71 = nI W from hw, nI_sub hl, sh2 _ (by omega)]
  intro m
  induction m with
  | zero =>
    intro j hj
    have hj : j = (2 ^ (W - l)) := by omega
    subst hj
    refine am_run hX 8 _ _ _ _ ?_
    conv => whnf
    rw [ews]
    exact ⟨fun _ => hK _, fun c => absurd (nI_le (by omega) (by omega)) c⟩
  | succ m ih =>
    intro j hj
    have ih := ih (j + 1) (by omega)
    have hjK : j < (2 ^ (W - l)) := by omega
    simp only [allN] at ih
    refine am_run hX 8 _ _ _ _ ?_
    conv => whnf
    rw [ews]
    refine ⟨fun c => absurd c (nI_ge (by omega) (by omega)), fun _ => ?_⟩
    refine am_run hX 2 _ _ _ _ ?_
    conv => whnf
    cases hc : allN (fun j => decide (sub xs l t j = (0, 0, 0, 0))) j with
    | false =>
      rw [hc, Bool.false_and] at ih
      refine ⟨fun _ => ?_, fun c => absurd rfl c⟩
      refine am_run hX 4 _ _ _ _ ?_
      conv => whnf
      rw [nI_1]
      exact ih
    | true =>
      rw [hc, Bool.true_and] at ih
      refine ⟨fun c => absurd c (by decide), fun _ => ?_⟩
      refine am_run hX 8 _ _ _ _ ?_
      conv => whnf
      rw [nI_ors (by omega) ht (hsh j hjK)]
      refine am_c1 (sr_z (d := d) hS0 hl ht hjK q f) ?_
      by_cases c : sub xs l t j = (0, 0, 0, 0)
      · rw [decide_eq_true c] at ih ⊢
        conv => whnf
        refine ⟨fun c => absurd c (by decide), fun _ => ?_⟩
        refine am_run hX 5 _ _ _ _ ?_
        conv => whnf
        rw [nI_1]
        exact ih
      · rw [decide_eq_false c] at ih ⊢
        conv => whnf
        refine ⟨fun _ => ?_, fun c => absurd rfl c⟩
        refine am_run hX 4 _ _ _ _ ?_
        conv => whnf
        rw [nI_1]
        exact ih
theorem zb_nz {W l t : Nat} {xs : Nat → R4} : allN (fun j => decide (sub xs l t j = (0, 0, 0, 0))) (2 ^ (W - l)) = true ↔ ¬ nzP xs W l t := by
  rw [all_iff]
  constructor
  · rintro h ⟨j, hj, hn⟩
    exact hn (of_decide_eq_true (h j hj))
  · intro h j hj
    exact decide_eq_true (Classical.byContradiction fun z => h ⟨j, hj, z⟩)
set_option maxRecDepth 100000 in
theorem ny_l {P : am_Q} {X : am_X} {W k l c x : Nat} {xs : Nat → R4} {u : Bool} (hX : am_K (d + 3) false nm_X12_nodes P X) (hS : stRf M W k xs) (hl : l ≤ W) (hx : x < 2 ^ l) (hK : ∀ (s : Bool) y q f l7 l8, (s = true ↔ ¬ newP xs W l x) → X 185 [some (aR 108), some (aI (nI l)), some (aI (nI c)), some (aI (nI x)), some (aI (b01 u)), some (aI (b01 s)), some (aI (nI y)), l7, l8] [] (v2 M q f)) : ∀ (m y : Nat), y + m = x → ∀ (s : Bool), (s = true ↔ (¬ nzP xs W l x ∨ ∃ y', y' < y ∧ nzP xs W l y' ∧ alP xs W l y' x)) → ∀ q f l7 l8, X 94 [some (aR 108), some (aI (nI l)), some (aI (nI c)), some (aI (nI x)), some (aI (b01 u)), some (aI (b01 s)), some (aI (nI y)), l7, l8] [] (v2 M q f) := by
  have w8 := hS.2.1
  have h8 := w256 w8
  have hl8 : 2 ^ l ≤ 2 ^ W := Nat.pow_le_pow_right (by decide) hl
  intro m
  induction m with
  | zero =>
    intro y hy s hs q f l7 l8
    have hy : y = x := by omega
    subst hy
    refine am_run hX 3 _ _ _ _ ?_
    conv => whnf
    refine ⟨fun _ => hK s _ _ _ _ _ ?_, fun c => absurd (nI_le (by omega) (by omega)) c⟩
    rw [hs]
    constructor
    · rintro (h | ⟨y', h1, h2, h3⟩) z
      · exact h z.1
      · exact z.2 y' h1 h2 h3
    · intro h
      apply Classical.byContradiction
      intro z
      exact h ⟨Classical.byContradiction fun q => z (Or.inl q), fun y' a b c => z (Or.inr ⟨y', a, b, c⟩)⟩
  | succ m ih =>
    intro y hy s hs q f l7 l8
    have ih := ih (y + 1) (by omega)
    refine am_run hX 3 _ _ _ _ ?_
    conv => whnf
    refine ⟨fun c => absurd c (nI_ge (by omega) (by omega)), fun _ => ?_⟩
    refine am_run hX 2 _ _ _ _ ?_
    conv => whnf
    cases s with
    | true =>
      refine ⟨fun _ => hK true _ _ _ _ _ ⟨fun _ z => ?_, fun _ => rfl⟩, fun c => absurd (by decide) c⟩
      rcases hs.mp rfl with h | ⟨y', h1, h2, h3⟩
      · exact h z.1
      · exact z.2 y' (by omega) h2 h3
    | false =>
      refine ⟨fun c => absurd rfl c, fun _ => ?_⟩
      refine am_run hX 4 _ _ _ _ ?_
      conv => whnf
      refine nz_2 (d := d + 2) (s := false) hX hS hl (show y < 2 ^ l by omega) (fun j => ?_) (2 ^ (W - l)) 0 (by omega)
      have hz := zb_nz (W := W) (l := l) (t := y) (xs := xs)
      have nxt : ∀ (s' : Bool), (s' = true ↔ (nzP xs W l y ∧ alP xs W l y x)) → ∀ q f l7 l8, X 94 [some (aR 108), some (aI (nI l)), some (aI (nI c)), some (aI (nI x)), some (aI (b01 u)), some (aI (b01 s')), some (aI (nI (y + 1))), l7, l8] [] (v2 M q f) := fun s' hs' q f l7 l8 => ih s' (by
        rw [hs']
        constructor
        · intro h
          exact Or.inr ⟨y, by omega, h.1, h.2⟩
        · rintro (h | ⟨y', h1, h2, h3⟩)
          · exact absurd (hs.mpr (Or.inl h)) (by decide)
          · by_cases e : y' = y
            · rw [e] at h2 h3
              exact ⟨h2, h3⟩
            · exact absurd (hs.mpr (Or.inr ⟨y', by omega, h2, h3⟩)) (by decide)) q f l7 l8
      cases hA : allN (fun j => decide (sub xs l y j = (0, 0, 0, 0))) (2 ^ (W - l)) with
      | true =>
        refine am_run hX 2 _ _ _ _ ?_
        conv => whnf
        refine ⟨fun _ => ?_, fun c => absurd (by decide) c⟩
        refine am_run hX 4 _ _ _ _ ?_
        conv => whnf
        rw [nI_1]
        exact nxt false ⟨fun z => absurd z (by decide), fun z => absurd z.1 (hz.mp hA)⟩ _ _ _ _
      | false =>
        have hny : nzP xs W l y := Classical.byContradiction fun z => by
          have := hz.mpr z
          rw [hA] at this
          exact absurd this (by decide)
        refine am_run hX 2 _ _ _ _ ?_
        conv => whnf
        refine ⟨fun c => absurd rfl c, fun _ => ?_⟩
        refine am_run hX 6 _ _ _ _ ?_
        conv => whnf
        refine am_cq (ct_isLike (d := d) hS hl (show y < 2 ^ l by omega) hx hny q f) ?_
        rintro r M' ⟨⟨t, rfl, ht⟩, q', f', rfl⟩
        refine ⟨_, rfl, ?_⟩
        cases t with
        | true =>
          conv => whnf
          refine ⟨fun c => absurd c (by decide), fun _ => ?_⟩
          refine am_run hX 5 _ _ _ _ ?_
          conv => whnf
          rw [nI_1]
          exact nxt true ⟨fun _ => ⟨hny, ht.mp rfl⟩, fun _ => rfl⟩ _ _ _ _
        | false =>
          conv => whnf
          refine ⟨fun _ => ?_, fun c => absurd rfl c⟩
          refine am_run hX 4 _ _ _ _ ?_
          conv => whnf
          rw [nI_1]
          exact nxt false ⟨fun z => absurd z (by decide), fun z => ht.mpr z.2⟩ _ _ _ _
set_option maxRecDepth 100000 in
theorem nx_l {P : am_Q} {X : am_X} {W k l : Nat} {xs : Nat → R4} (hX : am_K (d + 3) false nm_X12_nodes P X) (hS : stRf M W k xs) (hl : l ≤ W) (hP : ∀ q f, P (.inl (some (aI (nI (ncP (newP xs W l) (2 ^ l)))))) (v2 M q f)) : ∀ (m x : Nat), x + m = 2 ^ l → ∀ q f l4 l5 l6 l7 l8, X 30 [some (aR 108), some (aI (nI l)), some (aI (nI (ncP (newP xs W l) x))), some (aI (nI x)), l4, l5, l6, l7, l8] [] (v2 M q f) := by
  have w8 := hS.2.1
  have h8 := w256 w8
  have hl8 : 2 ^ l ≤ 2 ^ W := Nat.pow_le_pow_right (by decide) hl
  intro m
  induction m with
  | zero =>
    intro x hx q f l4 l5 l6 l7 l8
    have hx : x = 2 ^ l := by omega
    subst hx
    refine am_run hX 8 _ _ _ _ ?_
    conv => whnf
    rw [sh2 l (by omega)]
    refine ⟨fun _ => ?_, fun c => absurd (nI_le (by omega) (by omega)) c⟩
    conv => whnf
    exact ⟨trivial, hP q f⟩
  | succ m ih =>
    intro x hx q f l4 l5 l6 l7 l8
    have ih := ih (x + 1) (by omega)
    refine am_run hX 5 _ _ _ _ ?_
    conv => whnf
    rw [sh2 l (by omega)]
    refine ⟨fun c => absurd c (nI_ge (by omega) (by omega)), fun _ => ?_⟩
    refine am_run hX 4 _ _ _ _ ?_
    conv => whnf
    refine nz_1 (d := d + 2) (t := x) hX hS hl (by omega) (fun j => ?_) (2 ^ (W - l)) 0 (by omega)
    have hz := zb_nz (W := W) (l := l) (t := x) (xs := xs)
    refine am_run hX 4 _ _ _ _ ?_
    conv => whnf
    refine ny_l (d := d) (u := allN (fun j => decide (sub xs l x j = (0, 0, 0, 0))) (2 ^ (W - l))) hX hS hl (by omega) (fun s y q f l7 l8 hs => ?_) x 0 (by omega) (allN (fun j => decide (sub xs l x j = (0, 0, 0, 0))) (2 ^ (W - l))) (by
      rw [hz]
      constructor
      · intro h
        exact Or.inl h
      · rintro (h | ⟨y', h1, _⟩)
        · exact h
        · omega) _ _ _ _
    cases s with
    | true =>
      rw [nc_f (hs.mp rfl)] at ih
      refine am_run hX 3 _ _ _ _ ?_
      conv => whnf
      refine ⟨fun c => absurd c (by decide), fun _ => ?_⟩
      refine am_run hX 6 _ _ _ _ ?_
      conv => whnf
      rw [show (0 : Int32) = nI 0 from rfl, nI_add, Nat.add_zero, nI_1]
      exact ih _ _ _ _ _ _ _
    | false =>
      have hN : newP xs W l x := Classical.byContradiction fun z => absurd (hs.mpr z) (by decide)
      rw [nc_t hN] at ih
      refine am_run hX 3 _ _ _ _ ?_
      conv => whnf
      refine ⟨fun _ => ?_, fun c => absurd rfl c⟩
      refine am_run hX 5 _ _ _ _ ?_
      conv => whnf
      rw [nI_1, nI_1]
      exact ih _ _ _ _ _ _ _
set_option maxRecDepth 100000 in
theorem nd_m1 {W k l : Nat} {xs : Nat → R4} (hS : stRf M W k xs) (h65 : M.1 108 65 = 1) (hl : l ≤ W) : am_M (d + 4) false nm_X12_nodes [aR 108, aI (nI l)] M (fun r M' => r = .inl (some (aI (nI (ncP (newP xs W l) (2 ^ l))))) ∧ ∃ q f, M' = v2 (th0 M) q f) := by
  have w8 := hS.2.1
  have hS' : stRf (th0 M) W k xs := hS
  refine ⟨rfl, rfl, rfl, fun X hX => am_run hX 6 _ _ _ _ ?_⟩
  conv => whnf
  rw [show (mm_i M 108 (upd (M.1 108) 0 0)).1 108 65 = 1 from h65]
  refine ⟨fun c => absurd c (by decide), fun _ => ?_⟩
  refine am_run hX 2 _ _ _ _ ?_
  conv => whnf
  refine ⟨fun c => absurd c (nI_pos (by omega)), fun _ => ?_⟩
  refine am_run hX 4 _ _ _ _ ?_
  conv => whnf
  rw [show (mm_i M 108 (upd (M.1 108) 0 0)).1 108 71 = nI W from hS.1]
  refine ⟨fun _ => ?_, fun c => absurd (nI_le hl (by omega)) c⟩
  refine am_run hX 4 _ _ _ _ ?_
  conv => whnf
  have key := nx_l (d := d) (M := th0 M) (l := l) hX hS' hl (fun q f => ⟨rfl, q, f, rfl⟩) (2 ^ l) 0 (by omega) ((th0 M).2 152) ((th0 M).2 118) none none none none none
  rw [v2_z] at key
  exact key
/-- what nodes does not take -/
def nd_no (M : mm_M) (p : Int32) : Prop := (M.1 17 5 = -1 ∧ M.1 108 65 = 0) ∨ ∃ c w k, ru_s M c w k ∧ (p < 0 ∨ ¬ p ≤ nI w)
set_option maxRecDepth 100000 in
theorem nd_m0 {p : Int32} (h : nd_no M p) : am_M (d + 1) false nm_X12_nodes [aR 108, aI p] M (am_q1 (aI (-1)) (th0 M)) := by
  refine ⟨rfl, rfl, rfl, fun X hX => am_run hX 40 _ _ _ _ ?_⟩
  conv => whnf
  rcases h with h | ⟨c, w, k, h, hx⟩
  · refine ⟨fun _ => ?_, fun c => absurd h.2 c⟩
    conv => whnf
    exact ⟨trivial, rfl, rfl⟩
  · rw [show (mm_i M 108 (upd (M.1 108) 0 0)).1 108 65 = 1 from h.2.2.2.2.2.1]
    refine ⟨fun c => absurd c (by decide), fun _ => ?_⟩
    conv => whnf
    refine ⟨fun _ => ?_, fun c1 => ?_⟩
    · conv => whnf
      exact ⟨trivial, rfl, rfl⟩
    · conv => whnf
      rw [show (mm_i M 108 (upd (M.1 108) 0 0)).1 108 71 = nI w from h.2.2.2.2.2.2.2.2.1]
      refine ⟨fun c2 => ?_, fun _ => ?_⟩
      · rcases hx with hx | hx
        · exact absurd hx c1
        · exact absurd c2 hx
      · conv => whnf
        exact ⟨trivial, rfl, rfl⟩
set_option maxRecDepth 100000 in
theorem nd_x0 {p : Int32} (h : nd_no M p) : am_M (d + 1) false nm_X11_nodes [aR 0, aI p] M (am_q1 (aI (-1)) M) := by
  refine ⟨rfl, rfl, rfl, fun X hX => am_run hX 40 _ _ _ _ ?_⟩
  conv => whnf
  rcases h with h | ⟨c, w, k, h, hx⟩
  · refine ⟨fun _ => ?_, fun c => absurd h.1 c⟩
    conv => whnf
    exact ⟨trivial, rfl, rfl⟩
  · have c20 := h.1
    rw [h.2.2.2.2.1]
    refine ⟨fun c => absurd c (nI_nm (by omega)), fun _ => ?_⟩
    conv => whnf
    refine ⟨fun _ => ?_, fun c1 => ?_⟩
    · conv => whnf
      exact ⟨trivial, rfl, rfl⟩
    · conv => whnf
      rw [h.2.2.2.2.2.2.2.1]
      refine ⟨fun c2 => ?_, fun _ => ?_⟩
      · rcases hx with hx | hx
        · exact absurd hx c1
        · exact absurd c2 hx
      · conv => whnf
        exact ⟨trivial, rfl, rfl⟩
set_option maxRecDepth 100000 in
theorem nd_x1 {c w k l : Nat} {xs : Nat → R4} (h : ru_s M c w k) (hS : stC M w xs) (hl : l ≤ w) : am_M (d + 6) false nm_X11_nodes [aR 0, aI (nI l)] M (fun r M' => r = .inl (some (aI (nI (ncP (newP xs w l) (2 ^ l))))) ∧ ∃ kf f, M' = mm_l (mm_i M 24 kf) 19 f) := by
  have c20 := h.1
  have w8 := h.2.2.1
  refine ⟨rfl, rfl, rfl, fun X hX => am_run hX 40 _ _ _ _ ?_⟩
  conv => whnf
  rw [h.2.2.2.2.1]
  refine ⟨fun c => absurd c (nI_nm (by omega)), fun _ => ?_⟩
  conv => whnf
  refine ⟨fun c => absurd c (nI_pos (by omega)), fun _ => ?_⟩
  conv => whnf
  rw [h.2.2.2.2.2.2.2.1]
  refine ⟨fun _ => ?_, fun c => absurd (nI_le hl (by omega)) c⟩
  conv => whnf
  refine am_cq (ct_countN (d := d) hS hl) ?_
  rintro r M' ⟨rfl, kf, f, rfl⟩
  refine ⟨_, rfl, ?_⟩
  conv => whnf
  exact ⟨trivial, rfl, kf, f, rfl⟩
end NDR
section NDP
variable {ac : Nat → ClassId} {lo : Nat} {ad as : Nat → Nat} {b L : Nat} {ys : Nat → Int32} {hp : mm_M → Nat → xm_H} {I J : mm_M → Prop}
theorem pr_nodes (H : mm_L ac lo hp) (h1 : ∀ M, I M → ru_x M) (hJ0 : ∀ M, I M → J (th0 M)) (hJ : ∀ M kf f q o, I M → J (v2 (th0 (mm_l (mm_i M 24 kf) 19 f)) q o)) (p : Int32) : la_I ac lo ad as b L ys hp I J nm_X11_nodes nm_X12_nodes [.int p] := by
  refine am_la_I (us := [aI p]) H fun M hI => ?_
  have hno : nd_no M p → am_M 1000 false nm_X11_nodes (aR 0 :: [aI p]) M (fun r M1 => ∃ v, r = .inl (some (aI v)) ∧ am_M 1000 false nm_X12_nodes (aR 108 :: [aI p]) M1 (fun r' M2 => r' = .inl (some (aI v)) ∧ J M2)) := fun hx => by
    refine am_wk (nd_x0 (d := 999) hx) fun r M1 e => ⟨-1, e.1, ?_⟩
    rw [e.2]
    exact am_wk (nd_m0 (d := 999) hx) fun r M2 e => ⟨e.1, by rw [e.2]; exact hJ0 M hI⟩
  rcases h1 M hI with h | ⟨c, w, k, xs, h, hn⟩
  · exact hno (Or.inl h)
  · by_cases hx : p < 0 ∨ ¬ p ≤ nI w
    · exact hno (Or.inr ⟨c, w, k, h, hx⟩)
    · have p0 : ¬ p < 0 := fun c => hx (Or.inl c)
      have pw : p ≤ nI w := Decidable.byContradiction fun c => hx (Or.inr c)
      obtain ⟨l, hl, rfl⟩ := nI_of p0
      have w8 := h.2.2.1
      have hlw : l ≤ w := by
        apply Decidable.byContradiction
        intro hc
        exact nI_ge (a := w) (b := l) (by omega) hl pw
      have h60 := p60 h.2.2.2.1
      have hnr : ∀ j, j < 2 ^ w → nrm (xs j) ≤ 2 ^ 60 := fun j hj => by
        have a := sI_at (F := fun i => nrm (xs i)) (2 ^ w) (fun i _ => nrm0 _) j hj
        have a : nrm (xs j) ≤ sI (fun i => nrm (xs i)) (2 ^ w) := a
        have := hn.2
        omega
      have hC : stC M w xs := ⟨h.2.2.2.2.2.2.2.2.2.1, w8, fun j hj => (hn.1 j hj).1, hnr⟩
      have hR : stRf M w k xs := ⟨h.2.2.2.2.2.2.2.2.1, w8, h.2.2.2.1, fun j hj => (at_rf (by have := (vr_red k (xs j)).1; have := h.2.2.2.1; omega)).mp (hn.1 j hj).2, hnr⟩
      refine am_wk (nd_x1 (d := 994) h hC hlw) ?_
      rintro r M1 ⟨rfl, kf, f, rfl⟩
      refine ⟨_, rfl, ?_⟩
      have hR' : stRf (mm_l (mm_i M 24 kf) 19 f) w k xs := hR
      refine am_wk (nd_m1 (d := 996) hR' (show (mm_l (mm_i M 24 kf) 19 f).1 108 65 = 1 from h.2.2.2.2.2.1) hlw) ?_
      rintro r M2 ⟨rfl, q, o, rfl⟩
      exact ⟨rfl, hJ M kf f q o hI⟩
end NDP
