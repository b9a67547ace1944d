/-! THE PAIR equal -/
/-- the powers that are left behind so many starts -/
def amq (W : Nat) (op : Nat → bk_X) (S : Nat) (op' : Nat → bk_X) (S' : Nat) : Nat → Nat
  | 0 => 255
  | s + 1 => pvw (fun p => allN (eqB (clm W op s S) (clm W op' s S') p) (2 ^ W)) (amq W op S op' S' s) 8
theorem amq_lt (W : Nat) (op : Nat → bk_X) (S : Nat) (op' : Nat → bk_X) (S' : Nat) : ∀ s, amq W op S op' S' s < 256
  | 0 => by
    show 255 < 256
    decide
  | s + 1 => pvw_lt _ _ 8 (Nat.le_refl _)
theorem amq_s {W S S' s : Nat} {op op' : Nat → bk_X} : (if (lowA (2 ^ W) (au W op s S).1 (au W op s S).2).1 = (lowA (2 ^ W) (au W op' s S').1 (au W op' s S').2).1 then pvw (fun e => allN (tuB (lowA (2 ^ W) (au W op s S).1 (au W op s S).2).2 (lowA (2 ^ W) (au W op' s S').1 (au W op' s S').2).2 e) (4 * 2 ^ W)) (amq W op S op' S' s) 8 else 0) = amq W op S op' S' (s + 1) := by
  have hT : ∀ e, allN (eqB (clm W op s S) (clm W op' s S') e) (2 ^ W) = true ↔ ((lowA (2 ^ W) (au W op s S).1 (au W op s S).2).1 = (lowA (2 ^ W) (au W op' s S').1 (au W op' s S').2).1 ∧ ∀ j, j < 2 ^ W → (lowA (2 ^ W) (au W op s S).1 (au W op s S).2).2 j = t8n e ((lowA (2 ^ W) (au W op' s S').1 (au W op' s S').2).2 j)) := fun e => by
    rw [← low_eq, all_iff]
    constructor
    · intro h j hj
      exact of_decide_eq_true (h j hj)
    · intro h j hj
      exact decide_eq_true (h j hj)
  show _ = pvw (fun p => allN (eqB (clm W op s S) (clm W op' s S') p) (2 ^ W)) (amq W op S op' S' s) 8
  by_cases hk : (lowA (2 ^ W) (au W op s S).1 (au W op s S).2).1 = (lowA (2 ^ W) (au W op' s S').1 (au W op' s S').2).1
  · rw [if_pos hk]
    refine pvw_e fun e he => ?_
    have h1 := tu_iff (xs := (lowA (2 ^ W) (au W op s S).1 (au W op s S).2).2) (ys := (lowA (2 ^ W) (au W op' s S').1 (au W op' s S').2).2) (N := 2 ^ W) he
    cases q : allN (eqB (clm W op s S) (clm W op' s S') e) (2 ^ W) with
    | true => exact h1.mpr ((hT e).mp q).2
    | false =>
      refine nt_f fun z => ?_
      have h2 := (hT e).mpr ⟨hk, h1.mp z⟩
      rw [q] at h2
      exact absurd h2 (by decide)
  · rw [if_neg hk]
    exact (pvw_f fun e _ => nt_f fun z => hk ((hT e).mp z).1).symm
/-- only the two rows are other ones -/
def eqk (M M' : mm_M) : Prop := (∀ k, k ≠ 33 → k ≠ 36 → M'.1 k = M.1 k) ∧ ∀ k, k ≠ 35 → k ≠ 38 → M'.2 k = M.2 k
theorem eqk_r (M : mm_M) : eqk M M := ⟨fun _ _ _ => rfl, fun _ _ _ => rfl⟩
theorem eqk_t {A B C : mm_M} (h : eqk A B) (h' : eqk B C) : eqk A C := ⟨fun k a b => (h'.1 k a b).trans (h.1 k a b), fun k a b => (h'.2 k a b).trans (h.2 k a b)⟩
theorem eqk_33 (M : mm_M) (B : Nat → Int32) (C : Nat → Int64) : eqk M (mm_l (mm_i M 33 B) 35 C) := by
  refine ⟨fun k a b => ?_, fun k a b => ?_⟩
  · show (if k = 33 then B else M.1 k) = M.1 k
    rw [if_neg a]
  · show (if k = 35 then C else M.2 k) = M.2 k
    rw [if_neg a]
theorem eqk_36 (M : mm_M) (B : Nat → Int32) (C : Nat → Int64) : eqk M (mm_l (mm_i M 36 B) 38 C) := by
  refine ⟨fun k a b => ?_, fun k a b => ?_⟩
  · show (if k = 36 then B else M.1 k) = M.1 k
    rw [if_neg b]
  · show (if k = 38 then C else M.2 k) = M.2 k
    rw [if_neg b]
theorem cir_k {M M' : mm_M} {n c W S : Nat} {op : Nat → bk_X} (h : eqk M M') (hc : cir M n c W S op) : cir M' n c W S op := by
  unfold cir bk_iv bk_c bk_o at *
  rw [h.1 9 (by decide) (by decide), h.1 10 (by decide) (by decide), h.1 11 (by decide) (by decide), h.1 12 (by decide) (by decide), h.1 110 (by decide) (by decide), h.1 111 (by decide) (by decide), h.1 112 (by decide) (by decide), h.1 113 (by decide) (by decide), h.1 114 (by decide) (by decide), h.1 115 (by decide) (by decide), h.1 116 (by decide) (by decide), h.1 117 (by decide) (by decide), h.1 108 (by decide) (by decide)]
  exact hc
/-- what equal does not take -/
def eq_no (M : mm_M) (n : Nat) (p q : Int32) : Prop := (p < 0 ∨ nI n ≤ p) ∨ (q < 0 ∨ nI n ≤ q) ∨ ∃ c e W S op W' S' op', p = nI c ∧ q = nI e ∧ cir M n c W S op ∧ cir M n e W' S' op' ∧ (W ≠ W' ∨ 5 < W ∨ allN (fun j => pureB (op j)) S = false ∨ allN (fun j => pureB (op' j)) S' = false)
/-- what it answers, what is told of it -/
def eqV (W : Nat) (op : Nat → bk_X) (S : Nat) (op' : Nat → bk_X) (S' : Nat) (s : Nat) : Int32 := if amq W op S op' S' s = 0 then - nI s else nI (lw (amq W op S op' S' s))
section EQL2
variable {d : Nat} {M : mm_M}
set_option maxRecDepth 100000 in
theorem eq_x0 {n : Nat} {p q : Int32} (h : bk_iv M n) (hno : eq_no M n p q) (hc : ∀ c, c < n → ∃ W S op, cir M n c W S op) : am_M (d + 5) false nm_X11_equal [aR 0, aI p, aI q] M (am_q1 (aI (-1)) M) := by
  have hn := h.1
  refine ⟨rfl, rfl, rfl, fun X hX => am_run hX 60 _ _ _ _ ?_⟩
  conv => whnf
  refine am_c1 (bk_has (d := d + 3) p) ?_
  rw [h.2.1]
  rcases bk_no (p := p) hn with c1 | ⟨c, cn, rfl⟩
  · rw [if_pos c1]
    conv => whnf
    refine ⟨fun _ => ?_, fun c => absurd rfl c⟩
    conv => whnf
    exact ⟨trivial, rfl, rfl⟩
  rw [if_neg (bk_yes hn cn)]
  conv => whnf
  refine ⟨fun c => absurd c (by decide), fun _ => ?_⟩
  conv => whnf
  refine am_c1 (bk_has (d := d + 3) q) ?_
  rw [h.2.1]
  rcases bk_no (p := q) hn with c2 | ⟨e, en, rfl⟩
  · rw [if_pos c2]
    conv => whnf
    refine ⟨fun _ => ?_, fun c => absurd rfl c⟩
    conv => whnf
    exact ⟨trivial, rfl, rfl⟩
  rw [if_neg (bk_yes hn en)]
  conv => whnf
  refine ⟨fun c => absurd c (by decide), fun _ => ?_⟩
  rcases hno with z | z | ⟨c', e', W, S, op, W', S', op', e1, e2, hC, hE, hx⟩
  · exact absurd z (bk_yes hn cn)
  · exact absurd z (bk_yes hn en)
  have hc20 := hC.2.1
  have he20 := hE.2.1
  have hcc : c' = c := ((nI_eq (by omega) (by omega)).mp e1).symm
  have hee : e' = e := ((nI_eq (by omega) (by omega)).mp e2).symm
  subst hcc
  subst hee
  have w8 := hC.2.2.1.2.1
  have w8' := hE.2.2.1.2.1
  conv => whnf
  refine ⟨vp_in_nI (by show c' < 20; omega) (by decide), ?_⟩
  conv => whnf
  refine ⟨vp_in_nI (by show e' < 20; omega) (by decide), ?_⟩
  conv => whnf
  rw [nI_clamp (n := c') (by omega), nI_clamp (n := e') (by omega), hC.2.2.1.2.2.2.1, hE.2.2.1.2.2.2.1, nI_eq (by omega) (by omega)]
  refine ⟨fun _ => ?_, fun c3 => ?_⟩
  · conv => whnf
    exact ⟨trivial, rfl, rfl⟩
  have c3 : W = W' := Decidable.byContradiction c3
  conv => whnf
  refine ⟨vp_in_nI (by show c' < 20; omega) (by decide), ?_⟩
  conv => whnf
  rw [nI_clamp (n := c') (by omega), hC.2.2.1.2.2.2.1]
  by_cases c4 : W ≤ 5
  · refine ⟨fun _ => ?_, fun c => absurd (nI_le (b := 5) c4 (by decide)) c⟩
    conv => whnf
    refine am_c1 (ct_isGates (d := d) hC) ?_
    by_cases c5 : allN (fun j => pureB (op j)) S = true
    · rw [if_pos c5]
      conv => whnf
      refine ⟨fun c => absurd c (by decide), fun _ => ?_⟩
      conv => whnf
      refine am_c1 (ct_isGates (d := d) hE) ?_
      rcases hx with hx | hx | hx | hx
      · exact absurd c3 hx
      · exact absurd c4 (by omega)
      · rw [c5] at hx
        exact absurd hx (by decide)
      · rw [if_neg (by rw [hx]; decide)]
        conv => whnf
        refine ⟨fun c => absurd rfl c, fun _ => ?_⟩
        conv => whnf
        exact ⟨trivial, rfl, rfl⟩
    · rw [if_neg c5]
      conv => whnf
      refine ⟨fun _ => ?_, fun c => absurd rfl c⟩
      conv => whnf
      exact ⟨trivial, rfl, rfl⟩
  · refine ⟨fun c => absurd c (nI_ge (a := 5) (b := W) (by omega) (by omega)), fun _ => ?_⟩
    conv => whnf
    exact ⟨trivial, rfl, rfl⟩
theorem low_b {N k : Nat} {xs : Nat → R4} (h : ∀ j, j < N → bd (xs j)) : (lowA N k xs).1 ≤ k ∧ ∀ j, j < N → bd ((lowA N k xs).2 j) := by
  refine ⟨?_, fun j hj => vr_bd ((low_v N k xs).1 j hj) (h j hj)⟩
  have : ∀ (k : Nat) (xs : Nat → R4), (lowA N k xs).1 ≤ k := by
    intro k
    induction k with
    | zero => intro xs; exact Nat.le_refl _
    | succ k ih =>
      intro xs
      simp only [lowA]
      by_cases h : allN (fun j => dvB (xs j)) N = true
      · rw [if_pos h]
        exact Nat.le_succ_of_le (ih _)
      · rw [if_neg h]
        exact Nat.le_refl _
  exact this k xs
set_option maxRecDepth 100000 in
theorem eq_xl {P : am_Q} {X : am_X} {n c e W S S' : Nat} {op op' : Nat → bk_X} (hX : am_K (d + 6) false nm_X11_equal P X) (hC : cir M n c W S op) (hE : cir M n e W S' op') (w5 : W ≤ 5) (hp : ∀ j, j < S → (op j).1 < 9) (hp' : ∀ j, j < S' → (op' j).1 < 9) (hP : ∀ M' s, eqk M M' → s ≤ 2 ^ W → (∀ i, i < s → ¬ (amq W op S op' S' i) = 0) → ((amq W op S op' S' s) = 0 ∨ s = 2 ^ W) → P (.inl (some (aI (if (amq W op S op' S' s) = 0 then 0 else 1)))) (mm_i M' 0 (upd (M'.1 0) 17 (eqV W op S op' S' s)))) : ∀ (m s : Nat), s + m = 2 ^ W → (∀ i, i ≤ s → ¬ (amq W op S op' S' i) = 0) → ∀ M', eqk M M' → X 89 [some (aR 0), some (aI (nI c)), some (aI (nI e)), some (aI (nI (amq W op S op' S' s))), some (aI (nI s))] [] M' := by
  have hN : 2 ^ W ≤ 32 := by
    have : 2 ^ W ≤ 2 ^ 5 := Nat.pow_le_pow_right (by decide) w5
    omega
  have hn20 := hC.1.1
  have hc20 := hC.2.1
  intro m
  induction m with
  | zero =>
    intro s hs h0 M' hk
    have hs : s = 2 ^ W := by omega
    have hC' := cir_k hk hC
    have hl := amq_lt W op S op' S' s
    have hnz := h0 s (Nat.le_refl _)
    refine am_run hX 9 _ _ _ _ ?_
    conv => whnf
    refine ⟨vp_in_nI (by show c < 20; omega) (by decide), ?_⟩
    conv => whnf
    rw [nI_clamp (n := c) (by omega), hC'.2.2.1.2.2.2.1, sh2 W (by omega)]
    refine ⟨fun _ => ?_, fun c => absurd (nI_le (by omega) (by omega)) c⟩
    refine am_run hX 10 _ _ _ _ ?_
    conv => whnf
    refine am_c1 (ct_low (d := d + 4) (S := (amq W op S op' S' s)) (by omega) (by omega)) ?_
    conv => whnf
    refine ⟨trivial, ?_⟩
    have key := hP M' s hk (by omega) (fun i hi => h0 i (by omega)) (Or.inr hs)
    unfold eqV at key
    rw [if_neg hnz, if_neg hnz] at key
    exact key
  | succ m ih =>
    intro s hs h0 M' hk
    have hC' := cir_k hk hC
    have hl := amq_lt W op S op' S' s
    refine am_run hX 9 _ _ _ _ ?_
    conv => whnf
    refine ⟨vp_in_nI (by show c < 20; omega) (by decide), ?_⟩
    conv => whnf
    rw [nI_clamp (n := c) (by omega), hC'.2.2.1.2.2.2.1, sh2 W (by omega)]
    refine ⟨fun c => absurd c (nI_ge (by omega) (by omega)), fun _ => ?_⟩
    refine am_run hX 21 _ _ _ _ ?_
    conv => whnf
    refine am_c0 (ct_fillC35 (d := d + 1) hC' w5 (by omega) hp) ?_
    have k1 := eqk_33 M' (upd (upd (M'.1 33) 2 (nI (2 ^ W))) 3 (nI (lowA (2 ^ W) (au W op s S).1 (au W op s S).2).1)) (cq (fun j => if j < 128 then 0 else M'.2 35 j) (2 ^ W) (lowA (2 ^ W) (au W op s S).1 (au W op s S).2).2)
    have f2 : (mm_l (mm_i M' 33 (upd (upd (M'.1 33) 2 (nI (2 ^ W))) 3 (nI (lowA (2 ^ W) (au W op s S).1 (au W op s S).2).1))) 35 (cq (fun j => if j < 128 then 0 else M'.2 35 j) (2 ^ W) (lowA (2 ^ W) (au W op s S).1 (au W op s S).2).2)).1 33 2 = nI (2 ^ W) := rfl
    have f3 : (mm_l (mm_i M' 33 (upd (upd (M'.1 33) 2 (nI (2 ^ W))) 3 (nI (lowA (2 ^ W) (au W op s S).1 (au W op s S).2).1))) 35 (cq (fun j => if j < 128 then 0 else M'.2 35 j) (2 ^ W) (lowA (2 ^ W) (au W op s S).1 (au W op s S).2).2)).1 33 3 = nI (lowA (2 ^ W) (au W op s S).1 (au W op s S).2).1 := rfl
    have f4 : ∀ j, j < 2 ^ W → ∀ q, q < 4 → (mm_l (mm_i M' 33 (upd (upd (M'.1 33) 2 (nI (2 ^ W))) 3 (nI (lowA (2 ^ W) (au W op s S).1 (au W op s S).2).1))) 35 (cq (fun j => if j < 128 then 0 else M'.2 35 j) (2 ^ W) (lowA (2 ^ W) (au W op s S).1 (au W op s S).2).2)).2 35 (4 * j + q) = lI (pp ((lowA (2 ^ W) (au W op s S).1 (au W op s S).2).2 j) q) := fun j hj q hq => by
      rw [mm_l2]
      exact cq_at hj hq
    generalize mm_l (mm_i M' 33 (upd (upd (M'.1 33) 2 (nI (2 ^ W))) 3 (nI (lowA (2 ^ W) (au W op s S).1 (au W op s S).2).1))) 35 (cq (fun j => if j < 128 then 0 else M'.2 35 j) (2 ^ W) (lowA (2 ^ W) (au W op s S).1 (au W op s S).2).2) = M1 at *
    have hE1 := cir_k (eqk_t hk k1) hE
    conv => whnf
    refine am_c0 (ct_fillC38 (d := d + 1) hE1 w5 (by omega) hp') ?_
    have k2 := eqk_36 M1 (upd (upd (M1.1 36) 2 (nI (2 ^ W))) 3 (nI (lowA (2 ^ W) (au W op' s S').1 (au W op' s S').2).1)) (cq (fun j => if j < 128 then 0 else M1.2 38 j) (2 ^ W) (lowA (2 ^ W) (au W op' s S').1 (au W op' s S').2).2)
    have g2 : (mm_l (mm_i M1 36 (upd (upd (M1.1 36) 2 (nI (2 ^ W))) 3 (nI (lowA (2 ^ W) (au W op' s S').1 (au W op' s S').2).1))) 38 (cq (fun j => if j < 128 then 0 else M1.2 38 j) (2 ^ W) (lowA (2 ^ W) (au W op' s S').1 (au W op' s S').2).2)).1 33 2 = nI (2 ^ W) := f2
    have g3 : (mm_l (mm_i M1 36 (upd (upd (M1.1 36) 2 (nI (2 ^ W))) 3 (nI (lowA (2 ^ W) (au W op' s S').1 (au W op' s S').2).1))) 38 (cq (fun j => if j < 128 then 0 else M1.2 38 j) (2 ^ W) (lowA (2 ^ W) (au W op' s S').1 (au W op' s S').2).2)).1 33 3 = nI (lowA (2 ^ W) (au W op s S).1 (au W op s S).2).1 := f3
    have g4 : ∀ j, j < 2 ^ W → ∀ q, q < 4 → (mm_l (mm_i M1 36 (upd (upd (M1.1 36) 2 (nI (2 ^ W))) 3 (nI (lowA (2 ^ W) (au W op' s S').1 (au W op' s S').2).1))) 38 (cq (fun j => if j < 128 then 0 else M1.2 38 j) (2 ^ W) (lowA (2 ^ W) (au W op' s S').1 (au W op' s S').2).2)).2 35 (4 * j + q) = lI (pp ((lowA (2 ^ W) (au W op s S).1 (au W op s S).2).2 j) q) := f4
    have g5 : (mm_l (mm_i M1 36 (upd (upd (M1.1 36) 2 (nI (2 ^ W))) 3 (nI (lowA (2 ^ W) (au W op' s S').1 (au W op' s S').2).1))) 38 (cq (fun j => if j < 128 then 0 else M1.2 38 j) (2 ^ W) (lowA (2 ^ W) (au W op' s S').1 (au W op' s S').2).2)).1 36 3 = nI (lowA (2 ^ W) (au W op' s S').1 (au W op' s S').2).1 := rfl
    have g6 : ∀ j, j < 2 ^ W → ∀ q, q < 4 → (mm_l (mm_i M1 36 (upd (upd (M1.1 36) 2 (nI (2 ^ W))) 3 (nI (lowA (2 ^ W) (au W op' s S').1 (au W op' s S').2).1))) 38 (cq (fun j => if j < 128 then 0 else M1.2 38 j) (2 ^ W) (lowA (2 ^ W) (au W op' s S').1 (au W op' s S').2).2)).2 38 (4 * j + q) = lI (pp ((lowA (2 ^ W) (au W op' s S').1 (au W op' s S').2).2 j) q) := fun j hj q hq => by
      rw [mm_l2]
      exact cq_at hj hq
    generalize mm_l (mm_i M1 36 (upd (upd (M1.1 36) 2 (nI (2 ^ W))) 3 (nI (lowA (2 ^ W) (au W op' s S').1 (au W op' s S').2).1))) 38 (cq (fun j => if j < 128 then 0 else M1.2 38 j) (2 ^ W) (lowA (2 ^ W) (au W op' s S').1 (au W op' s S').2).2) = M2 at *
    have bx := au_bd (a := s) (fun j hj => (hC.2.2.2.1 j hj).1) hC.2.2.2.2 (Nat.le_refl S)
    have by' := au_bd (a := s) (fun j hj => (hE.2.2.2.1 j hj).1) hE.2.2.2.2 (Nat.le_refl S')
    have kx := (au_ok (a := s) (fun j hj => (hC.2.2.2.1 j hj).1) S (Nat.le_refl _)).2
    have ky := (au_ok (a := s) (fun j hj => (hE.2.2.2.1 j hj).1) S' (Nat.le_refl _)).2
    have x60 := hC.2.2.2.2
    have y60 := hE.2.2.2.2
    obtain ⟨lx, bx⟩ := low_b (k := (au W op s S).1) bx
    obtain ⟨ly, by'⟩ := low_b (k := (au W op' s S').1) by'
    conv => whnf
    refine am_c1 (ct_powers (d := d + 4) (N := 2 ^ W) (am := (amq W op S op' S' s)) hN hl (by omega) (by omega) g3 g5 g2 (fun j hj => ⟨bx j hj, g4 j hj⟩) (fun j hj => ⟨by' j hj, g6 j hj⟩)) ?_
    rw [amq_s]
    have hl1 := amq_lt W op S op' S' (s + 1)
    conv => whnf
    rw [show (0 : Int32) = nI 0 from rfl, nI_eq (by omega) (by decide)]
    refine ⟨fun hz => ?_, fun hz => ?_⟩
    · refine am_run hX 2 _ _ _ _ ?_
      conv => whnf
      rw [nI_1]
      refine ih (s + 1) (by omega) (fun i hi => ?_) _ (eqk_t (eqk_t hk k1) k2)
      by_cases q : i = s + 1
      · rw [q]
        exact hz
      · exact h0 i (by omega)
    · have hz : (amq W op S op' S' (s + 1)) = 0 := Decidable.byContradiction hz
      refine am_run hX 10 _ _ _ _ ?_
      conv => whnf
      refine ⟨trivial, ?_⟩
      have key := hP M2 (s + 1) (eqk_t (eqk_t hk k1) k2) (by omega) (fun i hi => h0 i (by omega)) (Or.inl hz)
      unfold eqV at key
      rw [if_pos hz, if_pos hz] at key
      rw [show (-1 : Int32) - nI s = - nI (s + 1) from by rw [← nI_1, Int32.neg_add, Int32.sub_eq_add_neg, Int32.sub_eq_add_neg, Int32.add_comm]]
      exact key
end EQL2
