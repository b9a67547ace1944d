/-! code: a TAPE's rows, read char by char; the class -/
/-- what is read: letters of a row, rows, letters of this one, x's and z's of each row, its first place -/
abbrev cpS : Type := Nat × Nat × Nat × (Nat → Nat) × (Nat → Nat) × (Nat → Nat)
def cpD (c : Nat) : Nat := if c = 73 then 0 else if c = 88 then 1 else if c = 89 then 2 else if c = 90 then 3 else 4
def cpX (d : Nat) : Nat := if d = 1 ∨ d = 2 then 1 else 0
def cpZ (d : Nat) : Nat := if 2 ≤ d then 1 else 0
def cpU (f : Nat → Nat) (k v : Nat) : Nat → Nat := fun j => if j = k then v else f j
def cpF (s : cpS) : Bool := if s.2.1 = 0 then decide (0 < s.2.2.1) else decide (s.2.2.1 = s.1)
def cpL (s : cpS) : Nat := if s.2.1 = 0 then 8 else s.1
/-- one char is read -/
def cpT (c p : Nat) (s : cpS) : Option cpS :=
  if c = 44 then (if cpF s = true ∧ s.2.1 + 1 < s.2.2.1 then some (s.2.2.1, s.2.1 + 1, 0, s.2.2.2) else none)
  else if cpD c < 4 ∧ s.2.2.1 < cpL s then some (s.1, s.2.1, s.2.2.1 + 1, cpU s.2.2.2.1 s.2.1 ((if s.2.2.1 = 0 then 0 else s.2.2.2.1 s.2.1) + cpX (cpD c) * 2 ^ s.2.2.1), cpU s.2.2.2.2.1 s.2.1 ((if s.2.2.1 = 0 then 0 else s.2.2.2.2.1 s.2.1) + cpZ (cpD c) * 2 ^ s.2.2.1), if s.2.2.1 = 0 then cpU s.2.2.2.2.2 s.2.1 p else s.2.2.2.2.2)
  else none
/-- what can be -/
def cpG (s : cpS) : Prop := s.2.1 ≤ 7 ∧ s.2.2.1 ≤ 8 ∧ s.1 ≤ 8 ∧ (0 < s.2.1 → s.2.1 < s.1 ∧ s.2.2.1 ≤ s.1) ∧ ∀ j, (j < s.2.1 ∨ j = s.2.1 ∧ 0 < s.2.2.1) → s.2.2.2.1 j < 2 ^ (if j = s.2.1 then s.2.2.1 else s.1) ∧ s.2.2.2.2.1 j < 2 ^ (if j = s.2.1 then s.2.2.1 else s.1) ∧ s.2.2.2.2.2 j < 400
theorem cpX_1 (d : Nat) : cpX d ≤ 1 := by unfold cpX; split <;> omega
theorem cpZ_1 (d : Nat) : cpZ d ≤ 1 := by unfold cpZ; split <;> omega
theorem cpT_g {c p : Nat} {s s' : cpS} (hp : p < 400) (h : cpG s) (e : cpT c p s = some s') : cpG s' := by
  obtain ⟨N, r, q, x, z, pl⟩ := s
  obtain ⟨h1, h2, h3, h4, h5⟩ := h
  simp only at h1 h2 h3 h4 h5
  unfold cpT at e
  simp only at e
  split at e
  · split at e
    · rename_i hf
      cases e
      obtain ⟨hf, hr⟩ := hf
      have hN : r ≠ 0 → q = N := by
        intro hr0
        unfold cpF at hf
        simp only at hf
        rw [if_neg hr0] at hf
        exact of_decide_eq_true hf
      refine ⟨by simp only; omega, by simp, by simp only; omega, fun _ => ⟨by simp only; omega, by simp⟩, fun j hj => ?_⟩
      simp only at hj
      have hj' : j ≤ r := by omega
      have := h5 j (by omega)
      simp only
      rw [if_neg (by omega)]
      by_cases hjr : j = r
      · rw [if_pos hjr] at this
        exact this
      · rw [if_neg hjr] at this
        have h0 : r ≠ 0 := by omega
        rw [hN h0]
        exact this
    · cases e
  · split at e
    · rename_i hc
      cases e
      have hL : q < cpL (N, r, q, x, z, pl) := hc.2
      have hl8 : q < 8 ∧ (0 < r → q < N) := by
        unfold cpL at hL
        simp only at hL
        by_cases h0 : r = 0
        · rw [if_pos h0] at hL
          exact ⟨hL, fun z => by omega⟩
        · rw [if_neg h0] at hL
          exact ⟨by omega, fun _ => hL⟩
      refine ⟨h1, by simp only; omega, h3, fun q0 => ⟨(h4 q0).1, hl8.2 q0⟩, fun j hj => ?_⟩
      simp only at hj
      simp only [cpU]
      by_cases hjr : j = r
      · subst hjr
        rw [if_pos rfl, if_pos rfl, if_pos rfl]
        have a1 : (if q = 0 then 0 else x j) < 2 ^ q ∧ (if q = 0 then 0 else z j) < 2 ^ q := by
          by_cases h0 : q = 0
          · rw [if_pos h0, if_pos h0, h0]; exact ⟨by decide, by decide⟩
          · rw [if_neg h0, if_neg h0]
            have := h5 j (Or.inr ⟨rfl, by omega⟩)
            rw [if_pos rfl] at this
            exact ⟨this.1, this.2.1⟩
        have e2 : 2 ^ (q + 1) = 2 ^ q + 2 ^ q := by rw [Nat.pow_succ]; omega
        refine ⟨?_, ?_, ?_⟩
        · rw [e2]
          have := Nat.mul_le_mul_right (2 ^ q) (cpX_1 (cpD c))
          omega
        · rw [e2]
          have := Nat.mul_le_mul_right (2 ^ q) (cpZ_1 (cpD c))
          omega
        · by_cases h0 : q = 0
          · rw [if_pos h0]
            simp only [cpU, if_true]
            exact hp
          · rw [if_neg h0]
            exact (h5 j (Or.inr ⟨rfl, by omega⟩)).2.2
      · rw [if_neg hjr, if_neg hjr, if_neg hjr]
        have := h5 j (by omega)
        rw [if_neg hjr] at this
        refine ⟨this.1, this.2.1, ?_⟩
        by_cases h0 : q = 0
        · rw [if_pos h0]
          simp only [cpU, if_neg hjr]
          exact this.2.2
        · rw [if_neg h0]
          exact this.2.2
    · cases e
/-- so many chars of a TAPE are read: what is read, or the place that is wrong -/
def cpR (T : Nat → Nat) : Nat → cpS ⊕ Nat
  | 0 => .inl (0, 0, 0, fun _ => 0, fun _ => 0, fun _ => 0)
  | i + 1 => match cpR T i with
    | .inr p => .inr p
    | .inl s => if T i = 32 then .inl s else match cpT (T i) i s with
      | some s' => .inl s'
      | none => .inr i
theorem cpR_g (T : Nat → Nat) : ∀ (i : Nat) {s : cpS}, i ≤ 400 → cpR T i = .inl s → cpG s
  | 0, s, _, e => by
    cases e
    refine ⟨by decide, by decide, by decide, fun q => absurd q (by decide), fun j hj => ?_⟩
    simp only at hj
    omega
  | i + 1, s, hi, e => by
    unfold cpR at e
    cases h : cpR T i with
    | inr p => rw [h] at e; cases e
    | inl s0 =>
      rw [h] at e
      have g := cpR_g T i (by omega) h
      simp only at e
      split at e
      · cases e; exact g
      · cases h2 : cpT (T i) i s0 with
        | none => rw [h2] at e; cases e
        | some s' =>
          rw [h2] at e
          cases e
          exact cpT_g (by omega) g h2
theorem cpR_w (T : Nat → Nat) {i p : Nat} (h : cpR T i = .inr p) : ∀ m, cpR T (i + m) = .inr p
  | 0 => h
  | m + 1 => by
    have := cpR_w T h m
    show cpR T (i + m + 1) = _
    unfold cpR
    rw [this]
/-- the class has read s -/
def cgS (M : mm_M) (s : cpS) : Prop := M.1 46 12 = nI s.1 ∧ M.1 46 13 = nI s.2.1 ∧ M.1 46 14 = nI s.2.2.1 ∧ ∀ j, (j < s.2.1 ∨ j = s.2.1 ∧ 0 < s.2.2.1) → M.1 49 j = nI (s.2.2.2.1 j + 256 * s.2.2.2.2.1 j) ∧ M.1 50 j = nI (s.2.2.2.2.2 j)
/-- what reading may change -/
def cgF (M N : mm_M) : Prop := (∀ k, k ≠ 46 → k ≠ 49 → k ≠ 50 → N.1 k = M.1 k) ∧ N.2 = M.2 ∧ ∀ y, y < 12 ∨ 16 < y → N.1 46 y = M.1 46 y
theorem cgF_r (M : mm_M) : cgF M M := ⟨fun _ _ _ _ => rfl, rfl, fun _ _ => rfl⟩
theorem cgF_t {M N K : mm_M} (h : cgF M N) (g : cgF N K) : cgF M K := ⟨fun k a b c => (g.1 k a b c).trans (h.1 k a b c), g.2.1.trans h.2.1, fun y q => (g.2.2 y q).trans (h.2.2 y q)⟩
theorem cp_add {x a q : Nat} (hx : x < 2 ^ q) : x ||| a * 2 ^ q = x + a * 2 ^ q := by
  rw [Nat.or_comm, Nat.mul_comm a, ← Nat.two_pow_add_eq_or_of_lt hx, Nat.add_comm]
theorem cp_or {x z a b q : Nat} (hx : x < 2 ^ q) (hz : z < 2 ^ q) (ha : a ≤ 1) (hb : b ≤ 1) (hq : q < 8) : (x + 256 * z) ||| ((a + 256 * b) * 2 ^ q) = (x + a * 2 ^ q) + 256 * (z + b * 2 ^ q) := by
  have h7 : 2 ^ q ≤ 2 ^ 7 := Nat.pow_le_pow_right (by decide) (by omega)
  have hA : a * 2 ^ q < 256 := by
    have := Nat.mul_le_mul_right (2 ^ q) ha
    omega
  have e0 : (a + 256 * b) * 2 ^ q = a * 2 ^ q + 256 * (b * 2 ^ q) := by rw [Nat.add_mul, Nat.mul_assoc]
  have m1 : (x + 256 * z) % 2 ^ 8 = x := by omega
  have m2 : (x + 256 * z) / 2 ^ 8 = z := by omega
  have m3 : (a * 2 ^ q + 256 * (b * 2 ^ q)) % 2 ^ 8 = a * 2 ^ q := by omega
  have m4 : (a * 2 ^ q + 256 * (b * 2 ^ q)) / 2 ^ 8 = b * 2 ^ q := by omega
  rw [e0, ← Nat.mod_add_div ((x + 256 * z) ||| (a * 2 ^ q + 256 * (b * 2 ^ q))) (2 ^ 8), Nat.or_mod_two_pow, Nat.or_div_two_pow, m1, m2, m3, m4, cp_add hx, cp_add hz]
theorem cp_ix : ∀ c, c < 127 → am_ixF (nI c) xp_l1 0 = if cpD c < 4 then nI (cpD c) else -1 := by decide +kernel
section CGP
variable {d : Nat} {M : mm_M} {s : cpS}
set_option maxRecDepth 100000 in
theorem ct_full (h : cgS M s) (g : cpG s) : am_M (d + 1) false nm_X3_rowIsFull [aR 46] M (am_q1 (aI (if cpF s = true then 1 else 0)) M) := by
  obtain ⟨N, r, q, x, z, pl⟩ := s
  obtain ⟨h1, h2, h3, -⟩ := h
  obtain ⟨g1, g2, g3, -⟩ := g
  simp only at h1 h2 h3 g1 g2 g3
  refine ⟨rfl, rfl, rfl, fun X hX => am_run hX 14 _ _ _ _ ?_⟩
  conv => whnf
  rw [h2]
  refine ⟨fun c => ?_, fun c => ?_⟩
  · have r0 : ¬ r = 0 := fun e => c (by rw [e]; rfl)
    conv => whnf
    rw [h3, h1]
    refine ⟨fun e => ?_, fun e => ?_⟩
    · conv => whnf
      refine ⟨rfl, ?_, rfl⟩
      rw [if_neg]
      unfold cpF
      rw [if_neg r0]
      simp only [decide_eq_true_eq]
      exact fun y => e (by rw [y])
    · conv => whnf
      refine ⟨rfl, ?_, rfl⟩
      rw [if_pos]
      unfold cpF
      rw [if_neg r0]
      simp only [decide_eq_true_eq]
      exact (nI_eq (by omega) (by omega)).mp (Classical.not_not.mp e)
  · have r0 : r = 0 := (nI_eq (b := 0) (by omega) (by decide)).mp (Classical.not_not.mp c)
    conv => whnf
    rw [h3]
    refine ⟨fun e => ?_, fun e => ?_⟩
    · conv => whnf
      refine ⟨rfl, ?_, rfl⟩
      rw [if_neg]
      unfold cpF
      rw [if_pos r0]
      simp only [decide_eq_true_eq]
      exact fun y => nI_ge (a := 0) (b := q) y (by omega) e
    · conv => whnf
      refine ⟨rfl, ?_, rfl⟩
      rw [if_pos]
      unfold cpF
      rw [if_pos r0]
      simp only [decide_eq_true_eq]
      rcases Nat.lt_or_ge 0 q with y | y
      · exact y
      · exact absurd (nI_le (b := 0) y (by decide)) e
set_option maxRecDepth 100000 in
theorem ct_vd {k : Nat} (hk : k < 4) : am_M (d + 1) false nm_X3_vectorOfDigit [aI (nI k)] M (am_q1 (aI (nI (cpX k + 256 * cpZ k))) M) := by
  refine ⟨rfl, rfl, rfl, fun X hX => am_run hX 20 _ _ _ _ ?_⟩
  rcases (by omega : k = 0 ∨ k = 1 ∨ k = 2 ∨ k = 3) with rfl | rfl | rfl | rfl
  · conv => whnf
    refine ⟨fun c => absurd c (by decide), fun _ => ?_⟩
    conv => whnf
    refine ⟨fun _ => ?_, fun c => absurd (by decide) c⟩
    conv => whnf
    refine ⟨fun _ => ?_, fun c => absurd (by decide) c⟩
    conv => whnf
    exact ⟨trivial, by decide, rfl⟩
  · conv => whnf
    refine ⟨fun _ => ?_, fun c => absurd (by decide) c⟩
    conv => whnf
    refine ⟨fun _ => ?_, fun c => absurd (by decide) c⟩
    conv => whnf
    exact ⟨trivial, by decide, rfl⟩
  · conv => whnf
    refine ⟨fun c => absurd c (by decide), fun _ => ?_⟩
    conv => whnf
    refine ⟨fun c => absurd rfl c, fun _ => ?_⟩
    conv => whnf
    refine ⟨fun c => absurd c (by decide), fun _ => ?_⟩
    conv => whnf
    exact ⟨trivial, by decide, rfl⟩
  · conv => whnf
    refine ⟨fun c => absurd c (by decide), fun _ => ?_⟩
    conv => whnf
    refine ⟨fun _ => ?_, fun c => absurd (by decide) c⟩
    conv => whnf
    refine ⟨fun c => absurd c (by decide), fun _ => ?_⟩
    conv => whnf
    exact ⟨trivial, by decide, rfl⟩
set_option maxRecDepth 100000 in
theorem rdB {P : am_Q} {X : am_X} {K : mm_M} {r q k x0 z0 : Nat} {l1 l2 : Option am_V} (hX : am_K (d + 5) false nm_X3_readOne P X) (e13 : K.1 46 13 = nI r) (e14 : K.1 46 14 = nI q) (hr : r < 8) (hq : q < 8) (e49 : K.1 49 r = nI (x0 + 256 * z0)) (hx : x0 < 2 ^ q) (hz : z0 < 2 ^ q) (hk : k < 4) (hP : P (.inl (some (aI 1))) (mm_i (mm_i K 49 (upd (K.1 49) r (nI ((x0 + cpX k * 2 ^ q) + 256 * (z0 + cpZ k * 2 ^ q))))) 46 (upd (K.1 46) 14 (nI (q + 1))))) : X 125 [some (aR 46), l1, l2, some (aI (nI k))] [] K := by
  have h7 : 2 ^ q ≤ 2 ^ 7 := Nat.pow_le_pow_right (by decide) (by omega)
  have hb1 := cpX_1 k
  have hb2 := cpZ_1 k
  have hsm : (cpX k + 256 * cpZ k) * 2 ^ q < 2 ^ 32 := by
    have : (cpX k + 256 * cpZ k) * 2 ^ q ≤ 257 * 2 ^ 7 := Nat.mul_le_mul (by omega) h7
    omega
  refine am_run hX 25 _ _ _ _ ?_
  conv => whnf
  rw [e13]
  refine ⟨vp_in_nI (by show r < 8; omega) (by decide), ?_⟩
  conv => whnf
  rw [nI_clamp (n := r) (by omega), e49]
  refine am_c1 (ct_vd (d := d + 4) hk) ?_
  conv => whnf
  rw [e14, nI_shl (by omega) hsm, nI_or, cp_or hx hz hb1 hb2 hq]
  refine ⟨vp_in_nI (by show r < 8; omega) (by decide), ?_⟩
  conv => whnf
  rw [nI_clamp (n := r) (by omega)]
  refine ⟨rfl, ?_⟩
  have e2 : (mm_i K 49 (upd (K.1 49) r (nI ((x0 + cpX k * 2 ^ q) + 256 * (z0 + cpZ k * 2 ^ q))))).1 46 = K.1 46 := mm_ne _ _ _ _ (by decide)
  rw [e2, e14, nI_1]
  exact hP
/-- what readOne leaves -/
def roQ (M : mm_M) (c p : Nat) (s : cpS) : am_Q := fun r M' => match cpT c p s with
  | some s' => r = .inl (some (aI 1)) ∧ cgS M' s' ∧ cgF M M' ∧ M'.1 46 15 = M.1 46 15 ∧ M'.1 46 16 = M.1 46 16
  | none => r = .inl (some (aI 0)) ∧ M' = M
set_option maxRecDepth 100000 in
theorem ct_readOne {c p : Nat} (h : cgS M s) (g : cpG s) (hc : c < 127) (hp : p < 400) : am_M (d + 6) false nm_X3_readOne [aR 46, aI (nI c), aI (nI p)] M (roQ M c p s) := by
  have hfull := ct_full (d := d + 4) h g
  obtain ⟨N, r, q, x, z, pl⟩ := s
  obtain ⟨h1, h2, h3, h4⟩ := h
  obtain ⟨g1, g2, g3, g4, g5⟩ := g
  simp only at h1 h2 h3 h4 g1 g2 g3 g4 g5
  refine ⟨rfl, rfl, rfl, fun X hX => am_run hX 3 _ _ _ _ ?_⟩
  conv => whnf
  refine ⟨fun c0 => ?_, fun c0 => ?_⟩
  · have hne : ¬ c = 44 := fun e => c0 (by rw [e]; rfl)
    refine am_run hX 18 _ _ _ _ ?_
    conv => whnf
    refine ⟨by omega, ?_⟩
    conv => whnf
    rw [cp_ix c hc]
    by_cases hd : cpD c < 4
    · rw [if_pos hd]
      refine ⟨fun y => absurd y (nI_pos (by omega)), fun _ => ?_⟩
      conv => whnf
      rw [h3, h2]
      have hno : ¬ q < cpL (N, r, q, x, z, pl) → roQ M c p (N, r, q, x, z, pl) (.inl (some (aI 0))) M := by
        intro hl
        unfold roQ cpT
        rw [if_neg hne, if_neg (fun y => hl y.2)]
        exact ⟨rfl, rfl⟩
      have hyes : q < cpL (N, r, q, x, z, pl) → q < 8 → X 98 [some (aR 46), some (aI (nI c)), some (aI (nI p)), some (aI (nI (cpD c)))] [] M := by
        intro hl hq8
        have eT : cpT c p (N, r, q, x, z, pl) = some (N, r, q + 1, cpU x r ((if q = 0 then 0 else x r) + cpX (cpD c) * 2 ^ q), cpU z r ((if q = 0 then 0 else z r) + cpZ (cpD c) * 2 ^ q), if q = 0 then cpU pl r p else pl) := by
          unfold cpT
          rw [if_neg hne, if_pos ⟨hd, hl⟩]
        refine am_run hX 3 _ _ _ _ ?_
        conv => whnf
        rw [h3]
        refine ⟨fun q0 => ?_, fun q0 => ?_⟩
        · have q0 : ¬ q = 0 := fun e => q0 (by rw [e]; rfl)
          rw [if_neg q0, if_neg q0, if_neg q0] at eT
          have h5 := h4 r (Or.inr ⟨rfl, by omega⟩)
          have g6 := g5 r (Or.inr ⟨rfl, by omega⟩)
          rw [if_pos rfl] at g6
          refine rdB (d := d) hX h2 h3 (by omega) hq8 h5.1 g6.1 g6.2.1 hd ?_
          unfold roQ
          rw [eT]
          refine ⟨rfl, ⟨h1, h2, rfl, fun j hj => ?_⟩, ⟨fun k a b c => ?_, rfl, fun y hy => ?_⟩, rfl, rfl⟩
          · simp only at hj
            show upd (M.1 49) r _ j = _ ∧ M.1 50 j = _
            simp only [upd, cpU]
            by_cases hjr : j = r
            · rw [if_pos hjr, if_pos hjr, if_pos hjr, hjr]
              exact ⟨rfl, h5.2⟩
            · rw [if_neg hjr, if_neg hjr, if_neg hjr]
              exact h4 j (by omega)
          · rw [mm_ne _ _ _ _ a, mm_ne _ _ _ _ b]
          · rw [mm_i1]
            exact if_neg (by omega)
        · have q0 : q = 0 := (nI_eq (b := 0) (by omega) (by decide)).mp (Classical.not_not.mp q0)
          rw [if_pos q0, if_pos q0, if_pos q0] at eT
          refine am_run hX 12 _ _ _ _ ?_
          conv => whnf
          rw [h2]
          refine ⟨vp_in_nI (by show r < 8; omega) (by decide), ?_⟩
          conv => whnf
          have e13 : (mm_i M 49 (upd (M.1 49) (nI r).toNatClampNeg 0)).1 46 13 = nI r := h2
          rw [e13]
          refine ⟨vp_in_nI (by show r < 8; omega) (by decide), ?_⟩
          rw [nI_clamp (n := r) (by omega)]
          refine rdB (d := d) (x0 := 0) (z0 := 0) (r := r) (q := q) hX h2 h3 (by omega) hq8 ?_ (Nat.two_pow_pos _) (Nat.two_pow_pos _) hd ?_
          · show upd (M.1 49) r 0 r = _
            unfold upd
            rw [if_pos rfl]
            rfl
          unfold roQ
          rw [eT]
          refine ⟨rfl, ⟨h1, h2, rfl, fun j hj => ?_⟩, ⟨fun k a b c => ?_, rfl, fun y hy => ?_⟩, rfl, rfl⟩
          · simp only at hj
            show upd (upd (M.1 49) r 0) r _ j = _ ∧ upd (M.1 50) r (nI p) j = _
            simp only [upd, cpU]
            by_cases hjr : j = r
            · rw [if_pos hjr, if_pos hjr, if_pos hjr, if_pos hjr, if_pos hjr]
              exact ⟨rfl, rfl⟩
            · rw [if_neg hjr, if_neg hjr, if_neg hjr, if_neg hjr, if_neg hjr, if_neg hjr]
              exact h4 j (by omega)
          · rw [mm_ne _ _ _ _ a, mm_ne _ _ _ _ b, mm_ne _ _ _ _ c, mm_ne _ _ _ _ b]
          · rw [mm_i1]
            exact if_neg (by omega)
      refine ⟨fun r0 => ?_, fun r0 => ?_⟩
      · have r0 : ¬ r = 0 := fun e => r0 (by rw [e]; rfl)
        have eL : cpL (N, r, q, x, z, pl) = N := if_neg r0
        conv => whnf
        rw [h1]
        refine ⟨fun y => ?_, fun y => ?_⟩
        · conv => whnf
          refine ⟨rfl, hno ?_⟩
          rw [eL]
          intro w
          exact nI_ge w (by omega) y
        · conv => whnf
          rw [h2]
          refine ⟨fun _ => ?_, fun w => absurd (nI_lt (a := r) (b := 8) (by omega) (by decide)) w⟩
          have hl : q < N := by
            rcases Nat.lt_or_ge q N with w | w
            · exact w
            · exact absurd (nI_le w (by omega)) y
          exact hyes (by rw [eL]; exact hl) (by omega)
      · have r0 : r = 0 := (nI_eq (b := 0) (by omega) (by decide)).mp (Classical.not_not.mp r0)
        have eL : cpL (N, r, q, x, z, pl) = 8 := if_pos r0
        conv => whnf
        refine ⟨fun y => ?_, fun y => ?_⟩
        · conv => whnf
          refine ⟨rfl, hno ?_⟩
          rw [eL]
          intro w
          exact nI_ge (b := 8) w (by decide) y
        · conv => whnf
          rw [h2]
          refine ⟨fun _ => ?_, fun w => absurd (nI_lt (a := r) (b := 8) (by omega) (by decide)) w⟩
          have hl : q < 8 := by
            rcases Nat.lt_or_ge q 8 with w | w
            · exact w
            · exact absurd (nI_le (a := 8) w (by omega)) y
          exact hyes (by rw [eL]; exact hl) hl
    · rw [if_neg hd]
      refine ⟨fun _ => ?_, fun y => absurd (by decide) y⟩
      conv => whnf
      refine ⟨rfl, ?_⟩
      unfold roQ cpT
      rw [if_neg hne, if_neg (fun y => hd y.1)]
      exact ⟨rfl, rfl⟩
  · have he : c = 44 := (nI_eq (b := 44) (by omega) (by decide)).mp (Classical.not_not.mp c0)
    refine am_run hX 30 _ _ _ _ ?_
    conv => whnf
    refine am_c1 hfull ?_
    by_cases hf : cpF (N, r, q, x, z, pl) = true
    · rw [if_pos hf]
      conv => whnf
      refine ⟨fun y => absurd y (by decide), fun _ => ?_⟩
      conv => whnf
      rw [h2, h3, nI_1]
      refine ⟨fun y => ?_, fun y => ?_⟩
      · have hl : r + 1 < q := by
          rcases Nat.lt_or_ge (r + 1) q with w | w
          · exact w
          · exact absurd y (nI_nlt w (by omega))
        conv => whnf
        refine ⟨rfl, ?_⟩
        unfold roQ cpT
        rw [if_pos he, if_pos ⟨hf, hl⟩]
        refine ⟨rfl, ⟨h3, ?_, rfl, fun j hj => ?_⟩, ⟨fun k a b c => ?_, rfl, fun y hy => ?_⟩, rfl, rfl⟩
        · show M.1 46 13 + 1 = _
          rw [h2, nI_1]
        · simp only at hj
          exact h4 j (by omega)
        · rw [mm_ne _ _ _ _ a, mm_ne _ _ _ _ a, mm_ne _ _ _ _ a]
        · rw [mm_i1, mm_i1, mm_i1]
          unfold upd
          rw [if_neg (by omega), if_neg (by omega), if_neg (by omega)]
      · conv => whnf
        refine ⟨rfl, ?_⟩
        unfold roQ cpT
        rw [if_pos he, if_neg (fun w => y (nI_lt w.2 (by omega)))]
        exact ⟨rfl, rfl⟩
    · rw [if_neg hf]
      conv => whnf
      refine ⟨fun _ => ?_, fun y => absurd rfl y⟩
      conv => whnf
      refine ⟨rfl, ?_⟩
      unfold roQ cpT
      rw [if_pos he, if_neg (fun w => hf w.1)]
      exact ⟨rfl, rfl⟩
set_option maxRecDepth 100000 in
theorem ct_tellF {k p : Int32} : am_M (d + 1) false nm_X3_tellFault [aR 46, aI k, aI p] M (am_q0 (mm_i M 46 (upd (upd (M.1 46) 15 k) 16 p))) := by
  refine ⟨rfl, rfl, rfl, fun X hX => am_run hX 10 _ _ _ _ ?_⟩
  conv => whnf
  refine ⟨trivial, rfl, ?_⟩
  rw [mm_i1, mm_ii]
theorem cgF_f {N : mm_M} {k p : Int32} (h : cgF M N) : cgF M (mm_i N 46 (upd (upd (N.1 46) 15 k) 16 p)) := by
  refine ⟨fun j a b c => by rw [mm_ne _ _ _ _ a]; exact h.1 j a b c, h.2.1, fun y hy => ?_⟩
  rw [mm_i1]
  unfold upd
  rw [if_neg (by omega), if_neg (by omega)]
  exact h.2.2 y hy
set_option maxRecDepth 100000 in
theorem rdL {P : am_Q} {X : am_X} {T : Nat → Nat} {t : Nat} (hX : am_K (d + 6) false nm_X3_read P X) (ht : t ≤ 400) (hT : ∀ j, j < t → M.1 1 j = nI (T j) ∧ T j < 127) (K1 : ∀ N s, cgF M N → cgS N s → cpR T t = .inl s → N.1 46 15 = 0 → N.1 46 16 = 0 → X 70 [some (aR 46), some (aR 1), some (aI (nI t)), some (aI (nI t))] [] N) (K2 : ∀ i N p, cgF M N → cpR T t = .inr p → N.1 46 15 = 1 → N.1 46 16 = nI p → X 70 [some (aR 46), some (aR 1), some (aI (nI t)), some (aI (nI i))] [] N) : ∀ (m i : Nat) (N : mm_M) (s : cpS), i + m = t → cgF M N → cgS N s → cpR T i = .inl s → N.1 46 15 = 0 → N.1 46 16 = 0 → X 27 [some (aR 46), some (aR 1), some (aI (nI t)), some (aI (nI i))] [] N := by
  intro m
  induction m with
  | zero =>
    intro i N s e hF hS hR h15 h16
    obtain rfl : i = t := by omega
    refine am_run hX 3 _ _ _ _ ?_
    conv => whnf
    exact ⟨fun _ => K1 N s hF hS hR h15 h16, fun c => absurd (nI_le (Nat.le_refl _) (by omega)) c⟩
  | succ m ih =>
    intro i N s e hF hS hR h15 h16
    obtain ⟨eT, hT7⟩ := hT i (by omega)
    have e1 : N.1 1 (nI i).toNatClampNeg = nI (T i) := by
      rw [nI_clamp (by omega), hF.1 1 (by decide) (by decide) (by decide)]
      exact eT
    have hR1 : cpR T (i + 1) = (if T i = 32 then .inl s else match cpT (T i) i s with
      | some s' => .inl s'
      | none => .inr i : cpS ⊕ Nat) := by
      conv => lhs; unfold cpR
      rw [hR]
    refine am_run hX 11 _ _ _ _ ?_
    conv => whnf
    refine ⟨fun c => absurd c (nI_ge (by omega) (by omega)), fun _ => ?_⟩
    conv => whnf
    rw [h15]
    refine ⟨fun c => absurd rfl c, fun _ => ?_⟩
    conv => whnf
    refine ⟨vp_in_nI (by show i < 400; omega) (by decide), ?_⟩
    conv => whnf
    rw [e1]
    refine ⟨fun c => ?_, fun c => ?_⟩
    · have c0 : T i = 32 := (nI_eq (b := 32) (by omega) (by decide)).mp c
      rw [if_pos c0] at hR1
      refine am_run hX 2 _ _ _ _ ?_
      conv => whnf
      rw [nI_1]
      exact ih (i + 1) N s (by omega) hF hS hR1 h15 h16
    · have c0 : ¬ T i = 32 := fun e => c (by rw [e]; rfl)
      rw [if_neg c0] at hR1
      refine am_run hX 7 _ _ _ _ ?_
      conv => whnf
      refine ⟨vp_in_nI (by show i < 400; omega) (by decide), ?_⟩
      conv => whnf
      rw [e1]
      refine am_cq (ct_readOne (d := d) (M := N) (s := s) (p := i) hS (cpR_g T i (by omega) hR) hT7 (by omega)) fun r N' q => ?_
      unfold roQ at q
      cases hc : cpT (T i) i s with
      | some s' =>
        rw [hc] at q hR1
        obtain ⟨q1, q2, q3, q4, q5⟩ := q
        refine ⟨_, q1, ?_⟩
        conv => whnf
        refine ⟨fun _ => ?_, fun c => absurd (by decide) c⟩
        refine am_run hX 2 _ _ _ _ ?_
        conv => whnf
        rw [nI_1]
        exact ih (i + 1) N' s' (by omega) (cgF_t hF q3) q2 hR1 (q4.trans h15) (q5.trans h16)
      | none =>
        rw [hc] at q hR1
        obtain ⟨q1, q2⟩ := q
        subst q2
        refine ⟨_, q1, ?_⟩
        conv => whnf
        refine ⟨fun c => absurd rfl c, fun _ => ?_⟩
        refine am_run hX 9 _ _ _ _ ?_
        conv => whnf
        refine am_c0 (ct_tellF (d := d + 5)) ?_
        conv => whnf
        have hR2 : cpR T t = .inr i := by
          have := cpR_w T hR1 m
          rw [show i + 1 + m = t by omega] at this
          exact this
        have hK := K2 (i + 1) (mm_i N' 46 (upd (upd (N'.1 46) 15 1) 16 (nI i))) i (cgF_f hF) hR2 rfl rfl
        rw [nI_1]
        refine ⟨fun _ => hK, fun _ => ?_⟩
        refine am_run hX 3 _ _ _ _ ?_
        conv => whnf
        exact ⟨fun _ => hK, fun c => absurd (show ¬ (1 : Int32) = 0 by decide) c⟩
/-- a whole TAPE is read -/
def cpE (T : Nat → Nat) (t : Nat) : cpS ⊕ Nat := match cpR T t with
  | .inr p => .inr p
  | .inl s => if cpF s = true then .inl s else .inr t
set_option maxRecDepth 100000 in
theorem rdM {P : am_Q} {X : am_X} {T : Nat → Nat} {t : Nat} (hX : am_K (d + 6) false nm_X3_read P X) (ht : t ≤ 400) (hT : ∀ j, j < t → M.1 1 j = nI (T j) ∧ T j < 127) (K1 : ∀ N s, cgF M N → cgS N s → cpE T t = .inl s → N.1 46 15 = 0 → N.1 46 16 = 0 → ∀ l3, X 97 [some (aR 46), some (aR 1), some (aI (nI t)), l3] [] N) (K2 : ∀ N p, cgF M N → cpE T t = .inr p → N.1 46 15 = 1 → N.1 46 16 = nI p → ∀ l3, X 119 [some (aR 46), some (aR 1), some (aI (nI t)), l3] [] N) (N : mm_M) (hF : cgF M N) (hS : cgS N (0, 0, 0, fun _ => 0, fun _ => 0, fun _ => 0)) (h15 : N.1 46 15 = 0) (h16 : N.1 46 16 = 0) : X 27 [some (aR 46), some (aR 1), some (aI (nI t)), some (aI (nI 0))] [] N := by
  refine rdL (d := d) hX ht hT (fun N s hF hS hR h15 h16 => ?_) (fun i N p hF hR h15 h16 => ?_) t 0 N _ (by omega) hF hS rfl h15 h16
  · refine am_run hX 6 _ _ _ _ ?_
    conv => whnf
    rw [h15]
    refine ⟨fun c => absurd rfl c, fun _ => ?_⟩
    conv => whnf
    refine am_c1 (ct_full (d := d + 5) hS (cpR_g T t ht hR)) ?_
    by_cases hf : cpF s = true
    · have hE : cpE T t = .inl s := by
        unfold cpE
        rw [hR]
        exact if_pos hf
      rw [if_pos hf]
      conv => whnf
      refine ⟨fun _ => ?_, fun c => absurd (by decide) c⟩
      refine am_run hX 3 _ _ _ _ ?_
      conv => whnf
      rw [h15]
      exact ⟨fun c => absurd rfl c, fun _ => K1 N s hF hS hE h15 h16 _⟩
    · have hE : cpE T t = .inr t := by
        unfold cpE
        rw [hR]
        exact if_neg hf
      rw [if_neg hf]
      conv => whnf
      refine ⟨fun c => absurd rfl c, fun _ => ?_⟩
      refine am_run hX 7 _ _ _ _ ?_
      conv => whnf
      refine am_c0 (ct_tellF (d := d + 5)) ?_
      conv => whnf
      refine ⟨fun _ => ?_, fun c => absurd (show ¬ (1 : Int32) = 0 by decide) c⟩
      exact K2 (mm_i N 46 (upd (upd (N.1 46) 15 1) 16 (nI t))) t (cgF_f hF) hE rfl rfl _
  · have hE : cpE T t = .inr p := by
      unfold cpE
      rw [hR]
    refine am_run hX 3 _ _ _ _ ?_
    conv => whnf
    rw [h15]
    refine ⟨fun _ => ?_, fun c => absurd (by decide) c⟩
    refine am_run hX 3 _ _ _ _ ?_
    conv => whnf
    rw [h15]
    exact ⟨fun _ => K2 N p hF hE h15 h16 _, fun c => absurd (by decide) c⟩
end CGP
