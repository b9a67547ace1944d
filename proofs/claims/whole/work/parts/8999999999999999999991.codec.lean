/-! CODES: what the class counts -/
def kN (p : Nat → Bool) : Nat → Nat
  | 0 => 0
  | k + 1 => kN p k + (if p k = true then 1 else 0)
theorem kN_le (p : Nat → Bool) : ∀ k, kN p k ≤ k
  | 0 => Nat.le_refl _
  | k + 1 => by
    have := kN_le p k
    show kN p k + (if p k = true then 1 else 0) ≤ k + 1
    by_cases h : p k = true
    · rw [if_pos h]; omega
    · rw [if_neg h]; omega
def lsQ : Option Nat → Nat → Bool
  | none, _ => true
  | some y, x => decide (wN 8 x < wN 8 y)
/-- the first of the least weight by its SYNDROME -/
def lsCd (sy : Nat → Nat) : Nat → Nat → Option Nat
  | 0, _ => none
  | k + 1, u => if sy k = u ∧ lsQ (lsCd sy k u) k = true then some k else lsCd sy k u
def oN : Option Nat → Int32
  | none => -1
  | some x => nI x
theorem ls_s {sy : Nat → Nat} {u y : Nat} : ∀ k, lsCd sy k u = some y → y < k ∧ sy y = u
  | 0, h => by cases h
  | k + 1, h => by
    have h : (if sy k = u ∧ lsQ (lsCd sy k u) k = true then some k else lsCd sy k u) = some y := h
    by_cases c : sy k = u ∧ lsQ (lsCd sy k u) k = true
    · rw [if_pos c] at h
      cases h
      exact ⟨by omega, c.1⟩
    · rw [if_neg c] at h
      have := ls_s k h
      exact ⟨by omega, this.2⟩
theorem ls_n {sy : Nat → Nat} {x : Nat} : ∀ k, x < k → ∃ y, lsCd sy k (sy x) = some y
  | 0, h => absurd h (Nat.not_lt_zero _)
  | k + 1, h => by
    show ∃ y, (if sy k = sy x ∧ lsQ (lsCd sy k (sy x)) k = true then some k else lsCd sy k (sy x)) = some y
    by_cases c : sy k = sy x ∧ lsQ (lsCd sy k (sy x)) k = true
    · rw [if_pos c]
      exact ⟨k, rfl⟩
    · rw [if_neg c]
      by_cases e : x < k
      · exact ls_n k e
      · have e : x = k := by omega
        subst e
        cases q : lsCd sy x (sy x) with
        | none =>
          rw [q] at c
          exact absurd ⟨rfl, rfl⟩ c
        | some y => exact ⟨y, rfl⟩
def pA (re : Nat → Int32) (w x : Nat) : Bool := decide (wN 8 x = w ∧ re x = 0)
def pB (sy : Nat → Nat) (w x : Nat) : Bool := decide (wN 8 x = w ∧ sy x = 0)
def pC (sy : Nat → Nat) (re : Nat → Int32) (m w x : Nat) : Bool := decide (wN 8 x = w ∧ ¬ re x = re ((lsCd sy m (sy x)).getD 0))
/-- the class's tables -/
def cdT (M : mm_M) (n s : Nat) (sy : Nat → Nat) (re : Nat → Int32) : Prop := M.1 46 10 = nI n ∧ M.1 46 11 = nI s ∧ 1 ≤ n ∧ n ≤ 8 ∧ s ≤ 8 ∧ ∀ x, x < 4 ^ n → M.1 51 (x % 256) ^^^ M.1 51 (256 + x / 256) = nI (sy x) ∧ sy x < 2 ^ s ∧ M.1 52 (x % 256) ^^^ M.1 52 (256 + x / 256) = re x
/-- and what it has counted -/
def cdA (M : mm_M) (n : Nat) (sy : Nat → Nat) (re : Nat → Int32) : Prop := (∀ w, w < 9 → M.1 54 w = nI (kN (pA re w) (4 ^ n)) ∧ M.1 55 w = nI (kN (pB sy w) (4 ^ n)) ∧ M.1 56 w = nI (kN (pC sy re (4 ^ n) w) (4 ^ n))) ∧ ∀ u, u < 256 → M.1 53 u = oN (lsCd sy (4 ^ n) u)
def caF (K N : mm_M) : Prop := (∀ k, k < 53 ∨ 56 < k → N.1 k = K.1 k) ∧ N.2 = K.2
theorem caF_i {K N : mm_M} {k : Nat} {f : Nat → Int32} (h : caF K N) (a : 53 ≤ k) (b : k ≤ 56) : caF K (mm_i N k f) := ⟨fun j hj => (if_neg (by omega) : (mm_i N k f).1 j = N.1 j).trans (h.1 j hj), h.2⟩
theorem cdT_F {K N : mm_M} {n s : Nat} {sy : Nat → Nat} {re : Nat → Int32} (hf : caF K N) (h : cdT K n s sy re) : cdT N n s sy re := by
  unfold cdT
  rw [hf.1 46 (by decide), hf.1 51 (by decide), hf.1 52 (by decide)]
  exact h
theorem p4 {n x : Nat} (h : n ≤ 8) (hx : x < 4 ^ n) : x < 65536 := Nat.lt_of_lt_of_le hx (Nat.pow_le_pow_right (n := 4) (by decide) h : 4 ^ n ≤ 4 ^ 8)
theorem pw2 {s x : Nat} (h : s ≤ 8) (hx : x < 2 ^ s) : x < 256 := Nat.lt_of_lt_of_le hx (Nat.pow_le_pow_right (n := 2) (by decide) h : 2 ^ s ≤ 2 ^ 8)
/-- one more: how a row of counts goes on -/
theorem up_k {f : Nat → Int32} {p : Nat → Nat → Bool} {w i b : Nat} (hf : ∀ v, v < 9 → f v = nI (kN (p v) i)) (hb : b = if p w i = true then 1 else 0) (ho : ∀ v, v ≠ w → p v i = false) (hw : w < 9) : ∀ v, v < 9 → upd f w (f w + nI b) v = nI (kN (p v) (i + 1)) := fun v hv => by
  show (if v = w then f w + nI b else f v) = nI (kN (p v) i + (if p v i = true then 1 else 0))
  by_cases e : v = w
  · rw [if_pos e, e, ← hb, hf w hw, nI_add]
  · rw [if_neg e, ho v e, hf v hv]
    rfl
section CDC
variable {d n s : Nat} {K M : mm_M} {sy : Nat → Nat} {re : Nat → Int32}
def ca1 (sy : Nat → Nat) (re : Nat → Int32) (N : mm_M) (i : Nat) : Prop := (∀ w, w < 9 → N.1 54 w = nI (kN (pA re w) i)) ∧ (∀ w, w < 9 → N.1 55 w = nI (kN (pB sy w) i)) ∧ (∀ w, w < 9 → N.1 56 w = 0) ∧ ∀ u, u < 256 → N.1 53 u = oN (lsCd sy i u)
set_option maxRecDepth 100000 in
theorem ca_l1 {Pp : am_Q} {X : am_X} (hX : am_K (d + 2) false nm_X3_countAll Pp X) (hT : cdT K n s sy re) (hK : ∀ N l2 l3 l4 l5, caF K N → ca1 sy re N (4 ^ n) → X 154 [some (aR 46), some (aI (nI (4 ^ n))), some (aI l2), l3, l4, l5] [] N) : ∀ m i N l3 l4 l5, i + m = 4 ^ n → caF K N → ca1 sy re N i → X 56 [some (aR 46), some (aI (nI (4 ^ n))), some (aI (nI i)), l3, l4, l5] [] N := by
  have n8 := hT.2.2.2.1
  have s8 := hT.2.2.2.2.1
  have m16 : 4 ^ n ≤ 65536 := (Nat.pow_le_pow_right (n := 4) (by decide) n8 : 4 ^ n ≤ 4 ^ 8)
  intro m
  induction m with
  | zero =>
    intro i N l3 l4 l5 hi hf h1
    have hi : i = 4 ^ n := by omega
    subst hi
    refine am_run hX 3 _ _ _ _ ?_
    conv => whnf
    exact ⟨fun _ => hK N _ _ _ _ hf h1, fun c => absurd (nI_le (by omega) (by omega)) c⟩
  | succ m ih =>
    intro i N l3 l4 l5 hi hf h1
    have hx : i < 65536 := by omega
    obtain ⟨x1, x2, x3⟩ := (cdT_F hf hT).2.2.2.2.2 i (by omega)
    obtain ⟨a1, a2, a3, a4⟩ := h1
    have u256 := pw2 s8 x2
    have w8 := wN_le 8 i
    have hW : vp_in (nI (wN 8 i)) 9 := vp_in_nI (by omega) (by decide)
    have hU : vp_in (nI (sy i)) 256 := vp_in_nI u256 (by decide)
    refine am_run hX 3 _ _ _ _ ?_
    conv => whnf
    refine ⟨fun c => absurd c (nI_ge (by omega) (by omega)), fun _ => ?_⟩
    refine am_run hX 3 _ _ _ _ ?_
    conv => whnf
    refine am_c1 (ct_wOf (d := d) hx) ?_
    conv => whnf
    refine am_run hX 4 _ _ _ _ ?_
    conv => whnf
    refine am_c1 (ct_lk51 (d := d + 1) hx) ?_
    rw [x1]
    conv => whnf
    -- the last step
    have k148 : ∀ N' v5, caF K N' → ca1 sy re N' (i + 1) → X 148 [some (aR 46), some (aI (nI (4 ^ n))), some (aI (nI i)), some (aI (nI (wN 8 i))), some (aI (nI (sy i))), some (aI v5)] [] N' := fun N' v5 f' h' => by
      refine am_run hX 2 _ _ _ _ ?_
      conv => whnf
      rw [nI_1]
      exact ih (i + 1) N' _ _ _ (by omega) f' h'
    have k115 : ∀ N', caF K N' → (∀ w, w < 9 → N'.1 54 w = nI (kN (pA re w) (i + 1))) → (∀ w, w < 9 → N'.1 55 w = nI (kN (pB sy w) (i + 1))) → N'.1 56 = N.1 56 → N'.1 53 = N.1 53 → X 115 [some (aR 46), some (aI (nI (4 ^ n))), some (aI (nI i)), some (aI (nI (wN 8 i))), some (aI (nI (sy i))), l5] [] N' := fun N' f' b1 b2 e56 e53 => by
      have yes : lsQ (lsCd sy i (sy i)) i = true → ∀ v5, X 140 [some (aR 46), some (aI (nI (4 ^ n))), some (aI (nI i)), some (aI (nI (wN 8 i))), some (aI (nI (sy i))), some (aI v5)] [] N' := fun ht v5 => by
        refine am_run hX 5 _ _ _ _ ?_
        conv => whnf
        refine ⟨hU, ?_⟩
        conv => whnf
        rw [nI_clamp (n := sy i) (by omega)]
        refine k148 _ _ (caF_i f' (by decide) (by decide)) ⟨b1, b2, fun w hw => ?_, fun u hu => ?_⟩
        · show N'.1 56 w = 0
          rw [e56]
          exact a3 w hw
        · show upd (N'.1 53) (sy i) (nI i) u = oN (if sy i = u ∧ lsQ (lsCd sy i u) i = true then some i else lsCd sy i u)
          unfold upd
          by_cases e : u = sy i
          · rw [if_pos e, if_pos ⟨e.symm, by rw [e]; exact ht⟩]
            rfl
          · rw [if_neg e, if_neg (fun z => e z.1.symm), e53]
            exact a4 u hu
      have nope : lsQ (lsCd sy i (sy i)) i = false → ∀ v5, X 148 [some (aR 46), some (aI (nI (4 ^ n))), some (aI (nI i)), some (aI (nI (wN 8 i))), some (aI (nI (sy i))), some (aI v5)] [] N' := fun ht v5 => by
        refine k148 N' _ f' ⟨b1, b2, fun w hw => ?_, fun u hu => ?_⟩
        · rw [e56]
          exact a3 w hw
        · show N'.1 53 u = oN (if sy i = u ∧ lsQ (lsCd sy i u) i = true then some i else lsCd sy i u)
          rw [if_neg (fun z => by rw [← z.1, ht] at z; exact absurd z.2 (by decide)), e53]
          exact a4 u hu
      refine am_run hX 5 _ _ _ _ ?_
      conv => whnf
      refine ⟨hU, ?_⟩
      conv => whnf
      rw [nI_clamp (n := sy i) (by omega), e53, a4 _ u256]
      refine am_run hX 3 _ _ _ _ ?_
      conv => whnf
      cases q : lsCd sy i (sy i) with
      | none => exact ⟨fun _ => yes (by rw [q]; rfl) _, fun c => absurd rfl c⟩
      | some y =>
        have yl := (ls_s i q).1
        refine ⟨fun c => absurd c (nI_nm (by omega)), fun _ => ?_⟩
        refine am_run hX 4 _ _ _ _ ?_
        conv => whnf
        refine am_c1 (ct_wOf (d := d) (x := y) (by omega)) ?_
        conv => whnf
        refine am_run hX 1 _ _ _ _ ?_
        conv => whnf
        have := wN_le 8 y
        by_cases c : wN 8 i < wN 8 y
        · exact ⟨fun z => absurd z (nI_ge c (by omega)), fun _ => yes (by rw [q]; exact decide_eq_true c) _⟩
        · exact ⟨fun _ => nope (by rw [q]; exact decide_eq_false c) _, fun z => absurd (nI_le (by omega) (by omega)) z⟩
    have k96 : ∀ N', caF K N' → (∀ w, w < 9 → N'.1 54 w = nI (kN (pA re w) (i + 1))) → N'.1 55 = N.1 55 → N'.1 56 = N.1 56 → N'.1 53 = N.1 53 → X 96 [some (aR 46), some (aI (nI (4 ^ n))), some (aI (nI i)), some (aI (nI (wN 8 i))), some (aI (nI (sy i))), l5] [] N' := fun N' f' b1 e55 e56 e53 => by
      have fin : ∀ b : Nat, b = (if pB sy (wN 8 i) i = true then 1 else 0) → X 113 [some (aR 46), some (aI (nI (4 ^ n))), some (aI (nI i)), some (aI (nI (wN 8 i))), some (aI (nI (sy i))), l5] [aI (nI b), aI (N'.1 55 (wN 8 i)), aI (nI (wN 8 i)), aR 55] N' := fun b hb => by
        refine am_run hX 2 _ _ _ _ ?_
        conv => whnf
        refine ⟨hW, ?_⟩
        conv => whnf
        rw [nI_clamp (n := wN 8 i) (by omega)]
        refine k115 _ (caF_i f' (by decide) (by decide)) b1 ?_ e56 e53
        show ∀ w, w < 9 → upd (N'.1 55) (wN 8 i) (N'.1 55 (wN 8 i) + nI b) w = _
        rw [e55]
        exact up_k (p := pB sy) a2 hb (fun v hv => decide_eq_false fun z => hv z.1.symm) (by omega)
      refine am_run hX 5 _ _ _ _ ?_
      conv => whnf
      refine ⟨hW, ?_⟩
      conv => whnf
      rw [nI_clamp (n := wN 8 i) (by omega)]
      refine am_run hX 2 _ _ _ _ ?_
      conv => whnf
      by_cases c : sy i = 0
      · refine ⟨fun z => absurd (by rw [c]; rfl) z, fun _ => ?_⟩
        refine am_run hX 2 _ _ _ _ ?_
        conv => whnf
        exact fin 1 (by rw [if_pos (show pB sy (wN 8 i) i = true from decide_eq_true ⟨rfl, c⟩)])
      · refine ⟨fun _ => ?_, fun z => absurd (fun q => c ((nI_eq (b := 0) (by omega) (by decide)).mp q)) z⟩
        refine am_run hX 1 _ _ _ _ ?_
        conv => whnf
        exact fin 0 (by rw [if_neg (show ¬ pB sy (wN 8 i) i = true from fun z => c (of_decide_eq_true z).2)])
    have fin : ∀ b : Nat, b = (if pA re (wN 8 i) i = true then 1 else 0) → X 94 [some (aR 46), some (aI (nI (4 ^ n))), some (aI (nI i)), some (aI (nI (wN 8 i))), some (aI (nI (sy i))), l5] [aI (nI b), aI (N.1 54 (wN 8 i)), aI (nI (wN 8 i)), aR 54] N := fun b hb => by
      refine am_run hX 2 _ _ _ _ ?_
      conv => whnf
      refine ⟨hW, ?_⟩
      conv => whnf
      rw [nI_clamp (n := wN 8 i) (by omega)]
      refine k96 _ (caF_i hf (by decide) (by decide)) ?_ rfl rfl rfl
      exact up_k (p := pA re) a1 hb (fun v hv => decide_eq_false fun z => hv z.1.symm) (by omega)
    refine am_run hX 6 _ _ _ _ ?_
    conv => whnf
    refine ⟨hW, ?_⟩
    conv => whnf
    rw [nI_clamp (n := wN 8 i) (by omega)]
    refine am_run hX 3 _ _ _ _ ?_
    conv => whnf
    refine am_c1 (ct_lk52 (d := d + 1) hx) ?_
    rw [x3]
    conv => whnf
    refine am_run hX 1 _ _ _ _ ?_
    conv => whnf
    by_cases c : re i = 0
    · refine ⟨fun z => absurd c z, fun _ => ?_⟩
      refine am_run hX 2 _ _ _ _ ?_
      conv => whnf
      exact fin 1 (by rw [if_pos (show pA re (wN 8 i) i = true from decide_eq_true ⟨rfl, c⟩)])
    · refine ⟨fun _ => ?_, fun z => absurd c z⟩
      refine am_run hX 1 _ _ _ _ ?_
      conv => whnf
      exact fin 0 (by rw [if_neg (show ¬ pA re (wN 8 i) i = true from fun z => c (of_decide_eq_true z).2)])
/-- the last row -/
def ca2 (sy : Nat → Nat) (re : Nat → Int32) (n : Nat) (N : mm_M) (i : Nat) : Prop := (∀ w, w < 9 → N.1 54 w = nI (kN (pA re w) (4 ^ n))) ∧ (∀ w, w < 9 → N.1 55 w = nI (kN (pB sy w) (4 ^ n))) ∧ (∀ w, w < 9 → N.1 56 w = nI (kN (pC sy re (4 ^ n) w) i)) ∧ ∀ u, u < 256 → N.1 53 u = oN (lsCd sy (4 ^ n) u)
set_option maxRecDepth 100000 in
theorem ca_l2 {Pp : am_Q} {X : am_X} (hX : am_K (d + 2) false nm_X3_countAll Pp X) (hT : cdT K n s sy re) (hP : ∀ N, caF K N → ca2 sy re n N (4 ^ n) → Pp (.inl none) N) : ∀ m i N l3 l4 l5, i + m = 4 ^ n → caF K N → ca2 sy re n N i → X 156 [some (aR 46), some (aI (nI (4 ^ n))), some (aI (nI i)), l3, l4, l5] [] N := by
  have n8 := hT.2.2.2.1
  have s8 := hT.2.2.2.2.1
  have m16 : 4 ^ n ≤ 65536 := (Nat.pow_le_pow_right (n := 4) (by decide) n8 : 4 ^ n ≤ 4 ^ 8)
  intro m
  induction m with
  | zero =>
    intro i N l3 l4 l5 hi hf h1
    have hi : i = 4 ^ n := by omega
    subst hi
    refine am_run hX 3 _ _ _ _ ?_
    conv => whnf
    refine ⟨fun _ => ?_, fun c => absurd (nI_le (by omega) (by omega)) c⟩
    refine am_run hX 1 _ _ _ _ ?_
    conv => whnf
    exact ⟨trivial, hP N hf h1⟩
  | succ m ih =>
    intro i N l3 l4 l5 hi hf h1
    have hx : i < 65536 := by omega
    have T := (cdT_F hf hT).2.2.2.2.2
    obtain ⟨x1, x2, x3⟩ := T i (by omega)
    obtain ⟨a1, a2, a3, a4⟩ := h1
    have u256 := pw2 s8 x2
    have w8 := wN_le 8 i
    have hW : vp_in (nI (wN 8 i)) 9 := vp_in_nI (by omega) (by decide)
    have hU : vp_in (nI (sy i)) 256 := vp_in_nI u256 (by decide)
    obtain ⟨y, hy⟩ := ls_n (sy := sy) (x := i) (4 ^ n) (by omega)
    have yl := (ls_s _ hy).1
    obtain ⟨_, _, y3⟩ := T y yl
    refine am_run hX 3 _ _ _ _ ?_
    conv => whnf
    refine ⟨fun c => absurd c (nI_ge (by omega) (by omega)), fun _ => ?_⟩
    refine am_run hX 5 _ _ _ _ ?_
    conv => whnf
    refine am_c1 (ct_lk51 (d := d + 1) hx) ?_
    rw [x1]
    conv => whnf
    refine am_run hX 2 _ _ _ _ ?_
    conv => whnf
    refine ⟨hU, ?_⟩
    conv => whnf
    rw [nI_clamp (n := sy i) (by omega), a4 _ u256, hy]
    refine am_run hX 5 _ _ _ _ ?_
    conv => whnf
    refine am_c1 (ct_wOf (d := d) hx) ?_
    conv => whnf
    refine am_run hX 2 _ _ _ _ ?_
    conv => whnf
    refine ⟨hW, ?_⟩
    conv => whnf
    rw [nI_clamp (n := wN 8 i) (by omega)]
    refine am_run hX 3 _ _ _ _ ?_
    conv => whnf
    refine am_c1 (ct_lk52 (d := d + 1) hx) ?_
    rw [x3]
    conv => whnf
    refine am_run hX 3 _ _ _ _ ?_
    conv => whnf
    refine am_c1 (ct_lk52 (d := d + 1) (x := y) (by omega)) ?_
    rw [y3]
    conv => whnf
    have fin : ∀ b : Nat, b = (if pC sy re (4 ^ n) (wN 8 i) i = true then 1 else 0) → X 201 [some (aR 46), some (aI (nI (4 ^ n))), some (aI (nI i)), some (aI (nI y)), l4, l5] [aI (nI b), aI (N.1 56 (wN 8 i)), aI (nI (wN 8 i)), aR 56] N := fun b hb => by
      refine am_run hX 4 _ _ _ _ ?_
      conv => whnf
      refine ⟨hW, ?_⟩
      conv => whnf
      rw [nI_clamp (n := wN 8 i) (by omega), nI_1]
      refine ih (i + 1) _ _ _ _ (by omega) (caF_i hf (by decide) (by decide)) ⟨a1, a2, ?_, a4⟩
      exact up_k (p := pC sy re (4 ^ n)) a3 hb (fun v hv => decide_eq_false fun z => hv z.1.symm) (by omega)
    refine am_run hX 1 _ _ _ _ ?_
    conv => whnf
    by_cases c : re i = re y
    · refine ⟨fun _ => ?_, fun z => absurd c z⟩
      refine am_run hX 1 _ _ _ _ ?_
      conv => whnf
      refine fin 0 ?_
      rw [if_neg (show ¬ pC sy re (4 ^ n) (wN 8 i) i = true from fun z => (of_decide_eq_true z).2 (by rw [hy]; exact c))]
    · refine ⟨fun z => absurd z c, fun _ => ?_⟩
      refine am_run hX 2 _ _ _ _ ?_
      conv => whnf
      refine fin 1 ?_
      rw [if_pos (show pC sy re (4 ^ n) (wN 8 i) i = true from decide_eq_true ⟨rfl, by rw [hy]; exact c⟩)]
/-- what counting may change -/
def caG (N N' : mm_M) : Prop := (∀ k, k ≠ 46 → (k < 53 ∨ 56 < k) → N'.1 k = N.1 k) ∧ (∀ j, j ≠ 17 → N'.1 46 j = N.1 46 j) ∧ N'.2 = N.2
theorem sh4 {n : Nat} (h : n ≤ 8) : (1 : Int32) <<< (nI (2 * n) &&& 31) = nI (4 ^ n) := by
  have : ∀ n, n ≤ 8 → (1 : Int32) <<< (nI (2 * n) &&& 31) = nI (4 ^ n) := by decide +kernel
  exact this n h
set_option maxRecDepth 100000 in
theorem ct_cAll (hT : cdT K n s sy re) (h17 : K.1 46 17 = 0) : am_M (d + 3) false nm_X3_countAll [aR 46] K (fun r N' => r = .inl none ∧ caG K N' ∧ N'.1 46 17 = 1 ∧ cdA N' n sy re) := by
  have n8 := hT.2.2.2.1
  refine ⟨rfl, rfl, rfl, fun X hX => am_run hX 3 _ _ _ _ ?_⟩
  conv => whnf
  rw [h17]
  refine ⟨fun _ => ?_, fun c => absurd rfl c⟩
  refine am_run hX 3 _ _ _ _ ?_
  conv => whnf
  refine ⟨⟨rfl, rfl⟩, ?_⟩
  conv => whnf
  have T1 : cdT (mm_i K 46 (upd (K.1 46) 17 1)) n s sy re := hT
  have G1 : caG K (mm_i K 46 (upd (K.1 46) 17 1)) := ⟨fun k a _ => if_neg a, fun j a => if_neg a, rfl⟩
  have e17 : (mm_i K 46 (upd (K.1 46) 17 1)).1 46 17 = 1 := rfl
  generalize mm_i K 46 (upd (K.1 46) 17 1) = N at *
  refine am_run hX 4 _ _ _ _ ?_
  conv => whnf
  refine am_c0 (ct_fi54 (d := d + 1)) ?_
  conv => whnf
  refine am_run hX 4 _ _ _ _ ?_
  conv => whnf
  refine am_c0 (ct_fi55 (d := d + 1)) ?_
  conv => whnf
  refine am_run hX 4 _ _ _ _ ?_
  conv => whnf
  refine am_c0 (ct_fi56 (d := d + 1)) ?_
  conv => whnf
  refine am_run hX 4 _ _ _ _ ?_
  conv => whnf
  refine am_c0 (ct_fi53 (d := d + 1)) ?_
  conv => whnf
  refine am_run hX 9 _ _ _ _ ?_
  conv => whnf
  have all : ∀ N1, caF N N1 → (∀ w, w < 9 → N1.1 54 w = 0) → (∀ w, w < 9 → N1.1 55 w = 0) → (∀ w, w < 9 → N1.1 56 w = 0) → (∀ u, u < 256 → N1.1 53 u = -1) → X 56 [some (aR 46), some (aI (nI (4 ^ n))), some (aI (nI 0)), none, none, none] [] N1 := fun N1 f1 b1 b2 b3 b4 => by
    refine ca_l1 (d := d) (K := N) (s := s) hX T1 (fun N2 l2 l3 l4 l5 f2 c2 => ?_) (4 ^ n) 0 N1 _ _ _ (by omega) f1 ⟨b1, b2, b3, b4⟩
    refine am_run hX 2 _ _ _ _ ?_
    conv => whnf
    refine ca_l2 (d := d) (K := N) (s := s) hX T1 (fun N3 f3 c3 => ?_) (4 ^ n) 0 N2 _ _ _ (by omega) f2 c2
    refine ⟨rfl, ⟨fun k a b => (f3.1 k b).trans (G1.1 k a b), fun j a => ?_, f3.2.trans G1.2.2⟩, ?_, fun w hw => ⟨c3.1 w hw, c3.2.1 w hw, c3.2.2.1 w hw⟩, c3.2.2.2⟩
    · rw [f3.1 46 (by decide)]
      exact G1.2.1 j a
    · rw [f3.1 46 (by decide)]
      exact e17
  have e10 : ∀ f g h k, (mm_i (mm_i (mm_i (mm_i N 54 f) 55 g) 56 h) 53 k).1 46 10 = nI n := fun f g h k => T1.1
  rw [e10, show (2 : Int32) = nI 2 from rfl, nI_mul, sh4 n8]
  refine all _ ?_ (fun w hw => if_pos hw) (fun w hw => if_pos hw) (fun w hw => if_pos hw) (fun u hu => if_pos hu)
  exact caF_i (caF_i (caF_i (caF_i ⟨fun _ _ => rfl, rfl⟩ (by decide) (by decide)) (by decide) (by decide)) (by decide) (by decide)) (by decide) (by decide)
set_option maxRecDepth 100000 in
theorem ct_cAll1 (h17 : K.1 46 17 = 1) : am_M (d + 3) false nm_X3_countAll [aR 46] K (am_q0 K) := by
  refine ⟨rfl, rfl, rfl, fun X hX => am_run hX 3 _ _ _ _ ?_⟩
  conv => whnf
  rw [h17]
  refine ⟨fun c => absurd c (by decide), fun _ => ?_⟩
  refine am_run hX 1 _ _ _ _ ?_
  conv => whnf
  exact ⟨trivial, rfl, rfl⟩
end CDC
