/-! the pair type -/
theorem mm_ic (M : mm_M) (j k : Nat) (f g : Nat → Int32) (h : j ≠ k) : mm_i (mm_i M j f) k g = mm_i (mm_i M k g) j f := by
  unfold mm_i
  refine Prod.ext (funext fun q => ?_) rfl
  by_cases h1 : q = k
  · subst h1
    simp [Ne.symm h]
  · by_cases h2 : q = j
    · simp [h1, h2, h]
    · simp [h1, h2]
def ty_b (w : Int64) (i : Int32) : Int32 := (w.toUInt64 >>> ((8 * i).toInt64.toUInt64 &&& Int64.toUInt64 63)).toInt64.toInt32 &&& 255
def ty_c (w : Int64) (i : Int32) : Int32 := ((w >>> ((8 * i).toInt64 &&& 63)) &&& 255).toInt32
theorem ty_sh (r y : Int64) (hy : y.toBitVec.toNat &&& 63 ≤ 56) : ((r.toUInt64 >>> (y.toUInt64 &&& Int64.toUInt64 63)).toInt64.toInt32 &&& 255) = ((r >>> (y &&& 63)) &&& 255).toInt32 := by
  apply Int32.toBitVec_inj.mp
  apply BitVec.eq_of_getLsbD_eq
  intro i hi
  have hn : y.toBitVec.toNat &&& 63 < 64 := by omega
  have hm : (y.toBitVec &&& 63#64).msb = false := by
    rw [BitVec.msb_and, show (63#64).msb = false by decide]
    exact Bool.and_false _
  have hs : ((y.toBitVec &&& 63#64).smod 64#64).toNat = y.toBitVec.toNat &&& 63 := by
    rw [BitVec.smod, hm, show (64#64).msb = false by decide]
    show ((y.toBitVec &&& 63#64) % 64#64).toNat = _
    rw [BitVec.toNat_umod, BitVec.toNat_and]
    exact Nat.mod_eq_of_lt hn
  have h32 : ∀ (i : Nat) (h : i < 32), (255#32)[i] = decide (i < 8) := by decide
  simp
  rw [hs, Nat.mod_eq_of_lt hn]
  by_cases i8 : i < 8
  · simp [BitVec.getElem_signExtend, BitVec.getElem_sshiftRight, BitVec.getLsbD_eq_getElem, hi, h32 i hi, i8, show i < 64 by omega, show (y.toBitVec.toNat &&& 63) + i < 64 by omega]
  · have h9 : (255#32)[i] = false := by rw [h32 i hi]; simp [i8]
    rw [BitVec.getLsbD_eq_getElem (x := 255#32) hi, h9, Bool.and_false, Bool.and_false]
theorem ty_8 : ∀ i, i < 8 → (8 * nI i).toInt64.toBitVec.toNat &&& 63 ≤ 56 := by decide
theorem ty_e (w : Int64) (i : Nat) (hi : i < 8) : ty_b w (nI i) = ty_c w (nI i) := ty_sh w _ (ty_8 i hi)
theorem nI_bv (x : Int32) : x = nI x.toBitVec.toNat := by
  apply Int32.toBitVec_inj.mp
  simp [nI]
theorem ty_v (w : Int64) (i : Int32) : ∃ b, b < 256 ∧ ty_b w i = nI b := by
  unfold ty_b
  rw [nI_bv (w.toUInt64 >>> ((8 * i).toInt64.toUInt64 &&& Int64.toUInt64 63)).toInt64.toInt32, nI_m255]
  exact ⟨_, Nat.mod_lt _ (by decide), rfl⟩
theorem ty_ch : ∀ b, b < 256 → vp_nar .char (((nI b).toUInt32 % 65536).toInt32) = nI b := by decide +kernel
theorem ty_cv (w : Int64) (i : Int32) : vp_nar .char (((ty_b w i).toUInt32 % 65536).toInt32) = ty_b w i := by
  obtain ⟨b, hb, e⟩ := ty_v w i
  rw [e, ty_ch b hb]
def ty_k (w : Int64) (i : Nat) : Prop := ¬ ty_b w (nI i) < 32 ∧ ty_b w (nI i) ≤ 126
/-- a row behind k of n characters, from place t on -/
def ty_r (B : Int32 → Int32) (f : Nat → Int32) (t n k : Nat) : Nat → Int32 := fun j => if t ≤ j ∧ j < t + k then B (nI (n - 1 - (j - t))) else f j
theorem ty_r0 (B : Int32 → Int32) (f : Nat → Int32) (t n : Nat) : ty_r B f t n 0 = f := by
  funext j
  unfold ty_r
  rw [if_neg (by omega)]
theorem ty_rs (B : Int32 → Int32) (f : Nat → Int32) (t n k : Nat) : upd (ty_r B f t n k) (t + k) (B (nI (n - 1 - k))) = ty_r B f t n (k + 1) := by
  funext j
  unfold upd ty_r
  by_cases h : j = t + k
  · subst h
    rw [if_pos rfl, if_pos (by omega), Nat.add_sub_cancel_left]
  · rw [if_neg h]
    by_cases h2 : t ≤ j ∧ j < t + k
    · rw [if_pos h2, if_pos (by omega)]
    · rw [if_neg h2, if_neg (by omega)]
theorem nI_s1 (n : Nat) (h : 1 ≤ n) : nI n - 1 = nI (n - 1) := by
  obtain ⟨m, rfl⟩ : ∃ m, n = m + 1 := ⟨n - 1, by omega⟩
  rw [nI_pred]
  rfl
theorem nI_m1' (n : Nat) : nI (n + 1) + -1 = nI n := by
  rw [← nI_pred n]
  exact (Int32.sub_eq_add_neg _ _).symm
theorem nI_s1' (m : Nat) : nI m - 1 = nI m + -1 := Int32.sub_eq_add_neg _ _
set_option maxRecDepth 100000 in
theorem ty_X11_type_l1 {d : Nat} {w : Int64} {n : Nat} {M : mm_M} {P : am_Q} {X : am_X} (hX : am_K d false nm_X11_type P X) (hn : n ≤ 8) : ∀ (m k : Nat), k + m = n → ((∀ i, k ≤ i → i < n → ty_k w i) → ∀ l5, X 70 [some (aR 0), some (aJ w), none, some (aI (nI n)), some (aI (nI n)), l5] [] M) → (¬ (∀ i, k ≤ i → i < n → ty_k w i) → P (.inl (some (aI 0))) M) → ∀ l5, X 28 [some (aR 0), some (aJ w), none, some (aI (nI n)), some (aI (nI k)), l5] [] M := by
  intro m
  induction m with
  | zero =>
    intro k hk h1 h2 l5
    have hk : k = n := by omega
    subst hk
    refine am_run hX 3 _ _ _ _ ?_
    conv => whnf
    refine ⟨fun _ => ?_, fun c => absurd (nI_le (Nat.le_refl _) (by omega)) c⟩
    exact h1 (fun i h3 h4 => by omega) l5
  | succ m ih =>
    intro k hk h1 h2 l5
    refine am_run hX 3 _ _ _ _ ?_
    conv => whnf
    refine ⟨fun c => absurd c (nI_ge (by omega) (by omega)), fun _ => ?_⟩
    refine am_run hX 12 _ _ _ _ ?_
    conv => whnf
    refine ⟨fun c => ?_, fun c => ?_⟩
    · refine am_run hX 2 _ _ _ _ ?_
      conv => whnf
      refine ⟨rfl, h2 fun q => ?_⟩
      have q := (q k (Nat.le_refl _) (by omega)).1
      skip
      exact q c
    · refine am_run hX 3 _ _ _ _ ?_
      conv => whnf
      refine ⟨fun c2 => ?_, fun c2 => ?_⟩
      · refine am_run hX 2 _ _ _ _ ?_
        conv => whnf
        rw [nI_1]
        have hk1 : ty_k w k := by
          unfold ty_k
          skip
          exact ⟨c, c2⟩
        refine ih (k + 1) (by omega) (fun q => h1 fun i h3 h4 => ?_) (fun q => h2 fun q2 => q fun i h3 h4 => q2 i (by omega) h4) _
        by_cases e : i = k
        · rw [e]; exact hk1
        · exact q i (by omega) h4
      · refine am_run hX 2 _ _ _ _ ?_
        conv => whnf
        refine ⟨rfl, h2 fun q => ?_⟩
        have q := (q k (Nat.le_refl _) (by omega)).2
        skip
        exact c2 q
set_option maxRecDepth 100000 in
theorem ty_X11_type_l2 {d : Nat} {w : Int64} {n t : Nat} {M : mm_M} {X : am_X} (hX : am_K d false nm_X11_type (am_q1 (aI 1) (mm_i (mm_i M 1 (ty_r (ty_b w) (M.1 1) t n n)) 0 (upd (M.1 0) 14 (nI (t + n))))) X) (hn : n ≤ 8) (ht : t + n ≤ 400) : ∀ (m k : Nat), k + m = n → ∀ l5, X 75 [some (aR 0), some (aJ w), none, some (aI (nI n)), some (aI (nI m - 1)), l5] [] (mm_i (mm_i M 1 (ty_r (ty_b w) (M.1 1) t n k)) 0 (upd (M.1 0) 14 (nI (t + k)))) := by
  intro m
  induction m with
  | zero =>
    intro k hk l5
    have hk : k = n := by omega
    subst hk
    refine am_run hX 4 _ _ _ _ ?_
    conv => whnf
    refine ⟨fun _ => ?_, fun c => absurd (by decide) c⟩
    conv => whnf
    exact ⟨rfl, rfl, rfl⟩
  | succ m ih =>
    intro k hk l5
    rw [nI_pred]
    refine am_run hX 2 _ _ _ _ ?_
    conv => whnf
    refine ⟨fun c => absurd c (nI_pos (by omega)), fun _ => ?_⟩
    refine am_run hX 22 _ _ _ _ ?_
    conv => whnf
    have e14 : (mm_i (mm_i M 1 (ty_r (ty_b w) (M.1 1) t n k)) 0 (upd (M.1 0) 14 (nI (t + k)))).1 0 14 = nI (t + k) := by
      rw [mm_i1]
      simp [upd]
    rw [e14]
    refine ⟨vp_in_nI (by show t + k < 400; omega) (by decide), ?_⟩
    conv => whnf
    rw [nI_clamp (by omega)]
    have hM : mm_i (mm_i (mm_i (mm_i M 1 (ty_r (ty_b w) (M.1 1) t n k)) 0 (upd (M.1 0) 14 (nI (t + k)))) 1 (upd ((mm_i (mm_i M 1 (ty_r (ty_b w) (M.1 1) t n k)) 0 (upd (M.1 0) 14 (nI (t + k)))).1 1) (t + k) (ty_b w (nI m)))) 0 (upd ((mm_i (mm_i (mm_i M 1 (ty_r (ty_b w) (M.1 1) t n k)) 0 (upd (M.1 0) 14 (nI (t + k)))) 1 (upd ((mm_i (mm_i M 1 (ty_r (ty_b w) (M.1 1) t n k)) 0 (upd (M.1 0) 14 (nI (t + k)))).1 1) (t + k) (ty_b w (nI m)))).1 0) 14 (nI (t + k) + 1)) = (mm_i (mm_i M 1 (ty_r (ty_b w) (M.1 1) t n (k + 1))) 0 (upd (M.1 0) 14 (nI (t + (k + 1))))) := by
      have et : (mm_i (mm_i M 1 (ty_r (ty_b w) (M.1 1) t n k)) 0 (upd (M.1 0) 14 (nI (t + k)))).1 1 = ty_r (ty_b w) (M.1 1) t n k := by
        rw [mm_ne _ _ _ _ (by decide), mm_i1]
      rw [et, show m = n - 1 - k by omega, ty_rs, nI_1, mm_ic _ 0 1 _ _ (by decide), mm_ii, mm_i1, mm_ii, upd_two]
      rfl
    have ih := ih (k + 1) (by omega) l5
    rw [← hM] at ih
    rw [nI_s1' m] at ih
    have ec := ty_cv w (nI m)
    unfold ty_b at ec
    rw [ec]
    exact ih
set_option maxRecDepth 100000 in
theorem ty_X12_type_l1 {d : Nat} {w : Int64} {n : Nat} {M : mm_M} {P : am_Q} {X : am_X} (hX : am_K d false nm_X12_type P X) (hn : n ≤ 8) : ∀ (m k : Nat), k + m = n → ((∀ i, k ≤ i → i < n → ty_k w i) → ∀ l5, X 75 [some (aR 108), some (aJ w), none, some (aI (nI n)), some (aI (nI n)), l5] [] M) → (¬ (∀ i, k ≤ i → i < n → ty_k w i) → P (.inl (some (aI 0))) M) → ∀ l5, X 33 [some (aR 108), some (aJ w), none, some (aI (nI n)), some (aI (nI k)), l5] [] M := by
  intro m
  induction m with
  | zero =>
    intro k hk h1 h2 l5
    have hk : k = n := by omega
    subst hk
    refine am_run hX 3 _ _ _ _ ?_
    conv => whnf
    refine ⟨fun _ => ?_, fun c => absurd (nI_le (Nat.le_refl _) (by omega)) c⟩
    exact h1 (fun i h3 h4 => by omega) l5
  | succ m ih =>
    intro k hk h1 h2 l5
    refine am_run hX 3 _ _ _ _ ?_
    conv => whnf
    refine ⟨fun c => absurd c (nI_ge (by omega) (by omega)), fun _ => ?_⟩
    refine am_run hX 12 _ _ _ _ ?_
    conv => whnf
    refine ⟨fun c => ?_, fun c => ?_⟩
    · refine am_run hX 2 _ _ _ _ ?_
      conv => whnf
      refine ⟨rfl, h2 fun q => ?_⟩
      have q := (q k (Nat.le_refl _) (by omega)).1
      rw [ty_e w k (by omega)] at q
      exact q c
    · refine am_run hX 3 _ _ _ _ ?_
      conv => whnf
      refine ⟨fun c2 => ?_, fun c2 => ?_⟩
      · refine am_run hX 2 _ _ _ _ ?_
        conv => whnf
        rw [nI_1]
        have hk1 : ty_k w k := by
          unfold ty_k
          rw [ty_e w k (by omega)]
          exact ⟨c, c2⟩
        refine ih (k + 1) (by omega) (fun q => h1 fun i h3 h4 => ?_) (fun q => h2 fun q2 => q fun i h3 h4 => q2 i (by omega) h4) _
        by_cases e : i = k
        · rw [e]; exact hk1
        · exact q i (by omega) h4
      · refine am_run hX 2 _ _ _ _ ?_
        conv => whnf
        refine ⟨rfl, h2 fun q => ?_⟩
        have q := (q k (Nat.le_refl _) (by omega)).2
        rw [ty_e w k (by omega)] at q
        exact c2 q
set_option maxRecDepth 100000 in
theorem ty_X12_type_l2 {d : Nat} {w : Int64} {n t : Nat} {M : mm_M} {X : am_X} (hX : am_K d false nm_X12_type (am_q1 (aI 1) (mm_i (mm_i M 109 (ty_r (ty_c w) (M.1 109) t n n)) 108 (upd (M.1 108) 2 (nI (t + n))))) X) (hn : n ≤ 8) (ht : t + n ≤ 400) : ∀ (m k : Nat), k + m = n → ∀ l5, X 80 [some (aR 108), some (aJ w), none, some (aI (nI n)), some (aI (nI m - 1)), l5] [] (mm_i (mm_i M 109 (ty_r (ty_c w) (M.1 109) t n k)) 108 (upd (M.1 108) 2 (nI (t + k)))) := by
  intro m
  induction m with
  | zero =>
    intro k hk l5
    have hk : k = n := by omega
    subst hk
    refine am_run hX 4 _ _ _ _ ?_
    conv => whnf
    refine ⟨fun _ => ?_, fun c => absurd (by decide) c⟩
    conv => whnf
    exact ⟨rfl, rfl, rfl⟩
  | succ m ih =>
    intro k hk l5
    rw [nI_pred]
    refine am_run hX 2 _ _ _ _ ?_
    conv => whnf
    refine ⟨fun c => absurd c (nI_pos (by omega)), fun _ => ?_⟩
    refine am_run hX 21 _ _ _ _ ?_
    conv => whnf
    have e14 : (mm_i (mm_i M 109 (ty_r (ty_c w) (M.1 109) t n k)) 108 (upd (M.1 108) 2 (nI (t + k)))).1 108 2 = nI (t + k) := by
      rw [mm_i1]
      simp [upd]
    rw [e14]
    refine ⟨vp_in_nI (by show t + k < 400; omega) (by decide), ?_⟩
    conv => whnf
    rw [nI_clamp (by omega)]
    have hM : mm_i (mm_i (mm_i (mm_i M 109 (ty_r (ty_c w) (M.1 109) t n k)) 108 (upd (M.1 108) 2 (nI (t + k)))) 109 (upd ((mm_i (mm_i M 109 (ty_r (ty_c w) (M.1 109) t n k)) 108 (upd (M.1 108) 2 (nI (t + k)))).1 109) (t + k) (ty_c w (nI m)))) 108 (upd ((mm_i (mm_i (mm_i M 109 (ty_r (ty_c w) (M.1 109) t n k)) 108 (upd (M.1 108) 2 (nI (t + k)))) 109 (upd ((mm_i (mm_i M 109 (ty_r (ty_c w) (M.1 109) t n k)) 108 (upd (M.1 108) 2 (nI (t + k)))).1 109) (t + k) (ty_c w (nI m)))).1 108) 2 (nI (t + k) + 1)) = (mm_i (mm_i M 109 (ty_r (ty_c w) (M.1 109) t n (k + 1))) 108 (upd (M.1 108) 2 (nI (t + (k + 1))))) := by
      have et : (mm_i (mm_i M 109 (ty_r (ty_c w) (M.1 109) t n k)) 108 (upd (M.1 108) 2 (nI (t + k)))).1 109 = ty_r (ty_c w) (M.1 109) t n k := by
        rw [mm_ne _ _ _ _ (by decide), mm_i1]
      rw [et, show m = n - 1 - k by omega, ty_rs, nI_1, mm_ic _ 108 109 _ _ (by decide), mm_ii, mm_i1, mm_ii, upd_two]
      rfl
    have ih := ih (k + 1) (by omega) l5
    rw [← hM] at ih
    rw [nI_s1' m] at ih
    skip
    exact ih
/-- the tape as both have it -/
def ty_iv (M : mm_M) (t : Nat) : Prop := t ≤ 400 ∧ M.1 0 14 = nI t ∧ M.1 108 2 = nI t ∧ ∀ j, j < t → M.1 1 j = M.1 109 j ∧ ∃ b, 32 ≤ b ∧ b ≤ 126 ∧ M.1 1 j = nI b
def ty_M1 (M : mm_M) (w : Int64) (t n : Nat) : mm_M := mm_i (mm_i M 1 (ty_r (ty_b w) (M.1 1) t n n)) 0 (upd (M.1 0) 14 (nI (t + n)))
def ty_M2 (M : mm_M) (w : Int64) (t n : Nat) : mm_M := mm_i (mm_i M 109 (ty_r (ty_c w) (M.1 109) t n n)) 108 (upd (M.1 108) 2 (nI (t + n)))
/-- what is refused -/
def ty_no (w : Int64) (t : Nat) (p : Int32) : Prop := (p < 1 ∨ 8 < p) ∨ ∃ n, p = nI n ∧ 1 ≤ n ∧ n ≤ 8 ∧ (400 < t + n ∨ ¬ ∀ i, 0 ≤ i → i < n → ty_k w i)
theorem ty_sp (w : Int64) (t : Nat) (p : Int32) : ty_no w t p ∨ ∃ n, p = nI n ∧ 1 ≤ n ∧ n ≤ 8 ∧ t + n ≤ 400 ∧ ∀ i, 0 ≤ i → i < n → ty_k w i := by
  by_cases h1 : p < 1 ∨ 8 < p
  · exact Or.inl (Or.inl h1)
  · have h0 : ¬ p < 0 := fun q => h1 (Or.inl (Int32.lt_trans q (by decide)))
    obtain ⟨n, hn, rfl⟩ := nI_of h0
    have a1 : 1 ≤ n := by
      apply Decidable.byContradiction
      intro hc
      have : n = 0 := by omega
      subst this
      exact h1 (Or.inl (by decide))
    have a8 : n ≤ 8 := by
      apply Decidable.byContradiction
      intro hc
      exact h1 (Or.inr (nI_lt (a := 8) (by omega) hn))
    by_cases h4 : 400 < t + n
    · exact Or.inl (Or.inr ⟨n, rfl, a1, a8, Or.inl h4⟩)
    · by_cases hk : ∀ i, 0 ≤ i → i < n → ty_k w i
      · exact Or.inr ⟨n, rfl, a1, a8, by omega, hk⟩
      · exact Or.inl (Or.inr ⟨n, rfl, a1, a8, Or.inr hk⟩)
set_option maxRecDepth 100000 in
theorem ty_X11_type_0 {M : mm_M} {w : Int64} {t : Nat} {p : Int32} (ht : t ≤ 400) (h14 : M.1 0 14 = nI t) (h : ty_no w t p) (d : Nat) : am_M (d + 1) false nm_X11_type [aR 0, aJ w, aI p] M (am_q1 (aI 0) M) := by
  refine ⟨rfl, rfl, rfl, fun X hX => am_run hX 3 _ _ _ _ ?_⟩
  conv => whnf
  rcases h with h | ⟨n, rfl, n1, n8, h⟩
  · refine ⟨fun c => ?_, fun c => ?_⟩
    · refine am_run hX 2 _ _ _ _ ?_
      conv => whnf
      exact ⟨rfl, rfl, rfl⟩
    · refine am_run hX 5 _ _ _ _ ?_
      conv => whnf
      refine ⟨fun c => ?_, fun c2 => absurd (h.resolve_left c) c2⟩
      conv => whnf
      exact ⟨rfl, rfl, rfl⟩
  · refine ⟨fun c => absurd c (nI_nlt (b := 1) n1 (by omega)), fun _ => ?_⟩
    refine am_run hX 3 _ _ _ _ ?_
    conv => whnf
    refine ⟨fun c => absurd c (nI_nlt (a := 8) n8 (by decide)), fun _ => ?_⟩
    refine am_run hX 6 _ _ _ _ ?_
    conv => whnf
    have e14 : M.1 0 14 = nI t := h14
    rw [e14, nI_add]
    rcases h with h | h
    · refine ⟨fun c => absurd c (nI_ge (a := 400) h (by omega)), fun _ => ?_⟩
      refine am_run hX 2 _ _ _ _ ?_
      conv => whnf
      exact ⟨rfl, rfl, rfl⟩
    · refine ⟨fun _ => ?_, fun c => ?_⟩
      · refine am_run hX 2 _ _ _ _ ?_
        conv => whnf
        exact ty_X11_type_l1 hX n8 n 0 (by omega) (fun q => absurd q h) (fun _ => ⟨rfl, rfl⟩) _
      · refine am_run hX 2 _ _ _ _ ?_
        conv => whnf
        exact ⟨rfl, rfl, rfl⟩
set_option maxRecDepth 100000 in
theorem ty_X11_type_1 {M : mm_M} {w : Int64} {t n : Nat} (h14 : M.1 0 14 = nI t) (n1 : 1 ≤ n) (n8 : n ≤ 8) (ht : t + n ≤ 400) (hk : ∀ i, 0 ≤ i → i < n → ty_k w i) (d : Nat) : am_M (d + 1) false nm_X11_type [aR 0, aJ w, aI (nI n)] M (am_q1 (aI 1) (ty_M1 M w t n)) := by
  refine ⟨rfl, rfl, rfl, fun X hX => am_run hX 3 _ _ _ _ ?_⟩
  conv => whnf
  refine ⟨fun c => absurd c (nI_nlt (b := 1) n1 (by omega)), fun _ => ?_⟩
  refine am_run hX 3 _ _ _ _ ?_
  conv => whnf
  refine ⟨fun c => absurd c (nI_nlt (a := 8) n8 (by decide)), fun _ => ?_⟩
  refine am_run hX 6 _ _ _ _ ?_
  conv => whnf
  have e14 : M.1 0 14 = nI t := h14
  rw [e14, nI_add]
  refine ⟨fun _ => ?_, fun c => absurd (nI_le (b := 400) ht (by decide)) c⟩
  refine am_run hX 2 _ _ _ _ ?_
  conv => whnf
  refine ty_X11_type_l1 hX n8 n 0 (by omega) (fun _ l5 => ?_) (fun q => absurd hk q) _
  refine am_run hX 4 _ _ _ _ ?_
  conv => whnf
  have key := ty_X11_type_l2 (M := M) (t := t) hX n8 ht n 0 (by omega) l5
  rw [ty_r0, mm_iz, Nat.add_zero, ← e14, upd_self, mm_iz] at key
  exact key
set_option maxRecDepth 100000 in
theorem ty_X12_type_0 {M : mm_M} {w : Int64} {t : Nat} {p : Int32} (ht : t ≤ 400) (h14 : M.1 108 2 = nI t) (h : ty_no w t p) (d : Nat) : am_M (d + 1) false nm_X12_type [aR 108, aJ w, aI p] M (am_q1 (aI 0) (mm_i M 108 (upd (M.1 108) 0 0))) := by
  refine ⟨rfl, rfl, rfl, fun X hX => am_run hX 6 _ _ _ _ ?_⟩
  conv => whnf
  rcases h with h | ⟨n, rfl, n1, n8, h⟩
  · refine ⟨fun c => ?_, fun c => ?_⟩
    · refine am_run hX 2 _ _ _ _ ?_
      conv => whnf
      exact ⟨rfl, rfl, rfl⟩
    · refine am_run hX 5 _ _ _ _ ?_
      conv => whnf
      refine ⟨fun c => ?_, fun c2 => absurd (h.resolve_left c) c2⟩
      conv => whnf
      exact ⟨rfl, rfl, rfl⟩
  · refine ⟨fun c => absurd c (nI_nlt (b := 1) n1 (by omega)), fun _ => ?_⟩
    refine am_run hX 3 _ _ _ _ ?_
    conv => whnf
    refine ⟨fun c => absurd c (nI_nlt (a := 8) n8 (by decide)), fun _ => ?_⟩
    refine am_run hX 6 _ _ _ _ ?_
    conv => whnf
    have e14 : (mm_i M 108 (upd (M.1 108) 0 0)).1 108 2 = nI t := h14
    rw [e14, nI_add]
    rcases h with h | h
    · refine ⟨fun c => absurd c (nI_ge (a := 400) h (by omega)), fun _ => ?_⟩
      refine am_run hX 2 _ _ _ _ ?_
      conv => whnf
      exact ⟨rfl, rfl, rfl⟩
    · refine ⟨fun _ => ?_, fun c => ?_⟩
      · refine am_run hX 2 _ _ _ _ ?_
        conv => whnf
        exact ty_X12_type_l1 hX n8 n 0 (by omega) (fun q => absurd q h) (fun _ => ⟨rfl, rfl⟩) _
      · refine am_run hX 2 _ _ _ _ ?_
        conv => whnf
        exact ⟨rfl, rfl, rfl⟩
set_option maxRecDepth 100000 in
theorem ty_X12_type_1 {M : mm_M} {w : Int64} {t n : Nat} (h14 : M.1 108 2 = nI t) (n1 : 1 ≤ n) (n8 : n ≤ 8) (ht : t + n ≤ 400) (hk : ∀ i, 0 ≤ i → i < n → ty_k w i) (d : Nat) : am_M (d + 1) false nm_X12_type [aR 108, aJ w, aI (nI n)] M (am_q1 (aI 1) (ty_M2 (mm_i M 108 (upd (M.1 108) 0 0)) w t n)) := by
  refine ⟨rfl, rfl, rfl, fun X hX => am_run hX 6 _ _ _ _ ?_⟩
  conv => whnf
  refine ⟨fun c => absurd c (nI_nlt (b := 1) n1 (by omega)), fun _ => ?_⟩
  refine am_run hX 3 _ _ _ _ ?_
  conv => whnf
  refine ⟨fun c => absurd c (nI_nlt (a := 8) n8 (by decide)), fun _ => ?_⟩
  refine am_run hX 6 _ _ _ _ ?_
  conv => whnf
  have e14 : (mm_i M 108 (upd (M.1 108) 0 0)).1 108 2 = nI t := h14
  rw [e14, nI_add]
  refine ⟨fun _ => ?_, fun c => absurd (nI_le (b := 400) ht (by decide)) c⟩
  refine am_run hX 2 _ _ _ _ ?_
  conv => whnf
  refine ty_X12_type_l1 hX n8 n 0 (by omega) (fun _ l5 => ?_) (fun q => absurd hk q) _
  refine am_run hX 4 _ _ _ _ ?_
  conv => whnf
  have key := ty_X12_type_l2 (M := (mm_i M 108 (upd (M.1 108) 0 0))) (t := t) hX n8 ht n 0 (by omega) l5
  rw [ty_r0, mm_iz, Nat.add_zero, ← e14, upd_self, mm_iz] at key
  exact key
section TYP
variable {ac : Nat → ClassId} {lo : Nat} {ad as : Nat → Nat} {b L : Nat} {xs : Nat → Int32} {hp : mm_M → Nat → xm_H} {I J : mm_M → Prop}
theorem pr_type (H : mm_L ac lo hp) (h1 : ∀ M, I M → ∃ t, ty_iv M t) (hJ0 : ∀ M, I M → J (th0 M)) (hJ : ∀ M w t n, I M → ty_iv M t → 1 ≤ n → n ≤ 8 → t + n ≤ 400 → (∀ i, 0 ≤ i → i < n → ty_k w i) → J (ty_M2 (th0 (ty_M1 M w t n)) w t n)) (w : Int64) (p : Int32) : la_I ac lo ad as b L xs hp I J nm_X11_type nm_X12_type [.long w, .int p] := by
  refine am_la_I (us := [aJ w, aI p]) H fun M hI => ?_
  obtain ⟨t, h⟩ := h1 M hI
  rcases ty_sp w t p with hx | ⟨n, rfl, n1, n8, ht, hk⟩
  · refine am_wk (ty_X11_type_0 h.1 h.2.1 hx 999) fun r M1 e => ⟨0, e.1, ?_⟩
    rw [e.2]
    exact am_wk (ty_X12_type_0 h.1 h.2.2.1 hx 999) fun r M1 e => ⟨e.1, by rw [e.2]; exact hJ0 M hI⟩
  · refine am_wk (ty_X11_type_1 h.2.1 n1 n8 ht hk 999) fun r M1 e => ⟨1, e.1, ?_⟩
    rw [e.2]
    exact am_wk (ty_X12_type_1 (M := ty_M1 M w t n) h.2.2.1 n1 n8 ht hk 999) fun r M1 e => ⟨e.1, by rw [e.2]; exact hJ M w t n hI h n1 n8 ht hk⟩
/-- the tape's invariant behind it -/
theorem ty_iv_step {M : mm_M} {w : Int64} {t n : Nat} (h : ty_iv M t) (n8 : n ≤ 8) (ht : t + n ≤ 400) (hk : ∀ i, 0 ≤ i → i < n → ty_k w i) : ty_iv (ty_M2 (th0 (ty_M1 M w t n)) w t n) (t + n) := by
  refine ⟨ht, ?_, ?_, fun j hj => ?_⟩
  · simp [ty_M2, th0, ty_M1, mm_i, upd]
  · simp [ty_M2, th0, ty_M1, mm_i, upd]
  · have e1 : (ty_M2 (th0 (ty_M1 M w t n)) w t n).1 1 j = ty_r (ty_b w) (M.1 1) t n n j := by simp [ty_M2, th0, ty_M1, mm_i]
    have e2 : (ty_M2 (th0 (ty_M1 M w t n)) w t n).1 109 j = ty_r (ty_c w) (M.1 109) t n n j := by simp [ty_M2, th0, ty_M1, mm_i]
    rw [e1, e2]
    unfold ty_r
    by_cases h2 : t ≤ j ∧ j < t + n
    · rw [if_pos h2, if_pos h2]
      refine ⟨ty_e w _ (by omega), ?_⟩
      obtain ⟨b, hb, e⟩ := ty_v w (nI (n - 1 - (j - t)))
      have q := hk (n - 1 - (j - t)) (by omega) (by omega)
      unfold ty_k at q
      rw [e] at q ⊢
      refine ⟨b, ?_, ?_, rfl⟩
      · apply Decidable.byContradiction
        intro hc
        exact q.1 (nI_lt (b := 32) (by omega) (by decide))
      · apply Decidable.byContradiction
        intro hc
        exact nI_ge (a := 126) (by omega) (by omega) q.2
    · rw [if_neg h2, if_neg h2]
      exact h.2.2.2 j (by omega)
end TYP
