/-! THE REFERENCE'S powersOf, aside; WHAT IS EQUAL -/
/-- only the work rows, the width and 'group known' are other ones -/
def eqj (M M' : mm_M) : Prop := (∀ k, k ≠ 108 → M'.1 k = M.1 k) ∧ (∀ j, j ≠ 71 → j ≠ 74 → M'.1 108 j = M.1 108 j) ∧ ∀ k, k ≠ 118 → k ≠ 119 → k ≠ 150 → k ≠ 152 → k ≠ 160 → M'.2 k = M.2 k
theorem eqj_r (M : mm_M) : eqj M M := ⟨fun _ _ => rfl, fun _ _ _ => rfl, fun _ _ _ _ _ _ => rfl⟩
theorem eqj_t {A B C : mm_M} (h : eqj A B) (h' : eqj B C) : eqj A C := ⟨fun k hk => (h'.1 k hk).trans (h.1 k hk), fun j a b => (h'.2.1 j a b).trans (h.2.1 j a b), fun k a b c e g => (h'.2.2 k a b c e g).trans (h.2.2 k a b c e g)⟩
theorem eqj_wd (M : mm_M) (W : Nat) (q o f s : Nat → Int64) : eqj M (v4 (wd M W) q o f s) := by
  refine ⟨fun k hk => ?_, fun j a b => ?_, fun k a b c e _ => ?_⟩
  · show (wd M W).1 k = _
    unfold wd mm_i
    dsimp only
    rw [if_neg hk]
  · show (wd M W).1 108 j = _
    unfold wd
    rw [mm_i1]
    unfold upd
    rw [if_neg b, if_neg a]
  · unfold v4 mm_l wd mm_i
    dsimp only
    rw [if_neg c, if_neg a, if_neg b, if_neg e]
theorem eqj_co (M : mm_M) (s : Nat → Int64) : eqj M (mm_l M 160 s) := by
  refine ⟨fun _ _ => rfl, fun _ _ _ => rfl, fun k _ _ _ _ e => ?_⟩
  unfold mm_l
  dsimp only
  rw [if_neg e]
theorem eqj_w (M : mm_M) (q o f s : Nat → Int64) : eqj M (v4 M q o f s) := by
  refine ⟨fun _ _ => rfl, fun _ _ _ => rfl, fun k a b c e _ => ?_⟩
  unfold v4 mm_l
  dsimp only
  rw [if_neg c, if_neg a, if_neg b, if_neg e]
theorem cir_j {M M' : mm_M} {n c W S : Nat} {op : Nat → bk_X} (h : eqj M M') (hc : cir M n c W S op) : cir M' n c W S op := by
  unfold cir bk_iv bk_c bk_o at *
  rw [h.1 9 (by decide), h.1 10 (by decide), h.1 11 (by decide), h.1 12 (by decide), h.1 110 (by decide), h.1 111 (by decide), h.1 112 (by decide), h.1 113 (by decide), h.1 114 (by decide), h.1 115 (by decide), h.1 116 (by decide), h.1 117 (by decide), h.2.1 6 (by decide) (by decide)]
  exact hc
theorem tb_pvw (T : Nat → Bool) (am : Nat) : ∀ e j, (pvw T am e).testBit j = (decide (j < e) && (am.testBit j && T j))
  | 0, j => by
    show Nat.testBit 0 j = _
    rw [Nat.zero_testBit]
    simp
  | e + 1, j => by
    have ih := tb_pvw T am e j
    simp only [pvw]
    by_cases c : am / 2 ^ e % 2 = 1 ∧ T e = true
    · rw [if_pos c, Nat.testBit_or, ih, tb2]
      by_cases hj : e = j
      · subst hj
        have c1 : am.testBit e = true := by rw [Nat.testBit_eq_decide_div_mod_eq]; exact decide_eq_true c.1
        rw [c1, c.2]
        simp
      · have : decide (j < e + 1) = decide (j < e) := by
          by_cases q : j < e
          · rw [decide_eq_true q, decide_eq_true (by omega)]
          · rw [decide_eq_false q, decide_eq_false (by omega)]
        rw [this, decide_eq_false hj, Bool.or_false]
    · rw [if_neg c, ih]
      by_cases hj : e = j
      · subst hj
        have c1 : (am.testBit e && T e) = false := by
          cases q1 : am.testBit e with
          | false => rfl
          | true =>
            cases q2 : T e with
            | false => rfl
            | true =>
              rw [Nat.testBit_eq_decide_div_mod_eq] at q1
              exact absurd ⟨of_decide_eq_true q1, q2⟩ c
        rw [c1, Bool.and_false, Bool.and_false]
      · have : decide (j < e + 1) = decide (j < e) := by
          by_cases q : j < e
          · rw [decide_eq_true q, decide_eq_true (by omega)]
          · rw [decide_eq_false q, decide_eq_false (by omega)]
        rw [this]
theorem pvw_a {T : Nat → Bool} {am : Nat} (h : am < 256) : am &&& pvw T 255 8 = pvw T am 8 := by
  apply Nat.eq_of_testBit_eq
  intro j
  rw [Nat.testBit_and, tb_pvw, tb_pvw]
  by_cases hj : j < 8
  · have : Nat.testBit 255 j = true := by
      have : ∀ j, j < 8 → Nat.testBit 255 j = true := by decide
      exact this j hj
    rw [this, decide_eq_true hj]
    simp
  · rw [decide_eq_false hj]
    simp
theorem pvw_e {T T' : Nat → Bool} {am : Nat} (h : ∀ e, e < 8 → T e = T' e) : pvw T am 8 = pvw T' am 8 := by
  apply Nat.eq_of_testBit_eq
  intro j
  rw [tb_pvw, tb_pvw]
  by_cases hj : j < 8
  · rw [h j hj]
  · rw [decide_eq_false hj]
    rfl
theorem pvw_f {T : Nat → Bool} {am : Nat} (h : ∀ e, e < 8 → T e = false) : pvw T am 8 = 0 := by
  apply Nat.eq_of_testBit_eq
  intro j
  rw [tb_pvw, Nat.zero_testBit]
  by_cases hj : j < 8
  · rw [h j hj]
    simp
  · rw [decide_eq_false hj]
    rfl
/-! the least common power -/
theorem low_v (N : Nat) : ∀ (k : Nat) (xs : Nat → R4), (∀ j, j < N → vr k (xs j) (lowA N k xs).1 ((lowA N k xs).2 j)) ∧ ((lowA N k xs).1 = 0 ∨ ∃ j, j < N ∧ ¬ dv ((lowA N k xs).2 j))
  | 0, xs => ⟨fun j _ => ⟨Nat.le_refl _, rfl⟩, Or.inl rfl⟩
  | k + 1, xs => by
    simp only [lowA]
    by_cases h : allN (fun j => dvB (xs j)) N = true
    · rw [if_pos h]
      obtain ⟨h1, h2⟩ := low_v N k (fun j => hv (xs j))
      refine ⟨fun j hj => ?_, h2⟩
      obtain ⟨a, b⟩ := h1 j hj
      have hd := (dvB_iff (xs j)).mp ((all_iff N).mp h j hj)
      refine ⟨by omega, ?_⟩
      rw [show k + 1 - (lowA N k (fun j => hv (xs j))).1 = (k - (lowA N k (fun j => hv (xs j))).1) + 1 by omega]
      show rr (rn _ _) = _
      rw [b, rr_hv hd]
    · rw [if_neg h]
      refine ⟨fun j _ => ⟨Nat.le_refl _, by rw [Nat.sub_self]; rfl⟩, Or.inr ?_⟩
      apply Classical.byContradiction
      intro hc
      refine h ((all_iff N).mpr fun j hj => ?_)
      apply (dvB_iff (xs j)).mpr
      apply Classical.byContradiction
      intro hd
      exact hc ⟨j, hj, hd⟩
theorem red_nd {k : Nat} {x : R4} (h : ¬ dv x) : red k x = (x, k) := by
  have hz : ¬ x = (0, 0, 0, 0) := fun e => h (by rw [e]; exact ⟨rfl, rfl⟩)
  cases k with
  | zero => rfl
  | succ k =>
    simp only [red]
    rw [if_neg hz, if_neg (fun q => h ((dvB_iff x).mp q))]
theorem t8n_dv (x : R4) : ∀ n, dv (t8n n x) ↔ dv x
  | 0 => Iff.rfl
  | n + 1 => (t8_dv (t8n n x)).trans (t8n_dv x n)
/-- equal up to a power: by the least common power, or each for itself -/
theorem low_eq {N k l e : Nat} {xs ys : Nat → R4} : (∀ j, j < N → t8n e (red l (ys j)).1 = (red k (xs j)).1 ∧ (red l (ys j)).2 = (red k (xs j)).2) ↔ ((lowA N k xs).1 = (lowA N l ys).1 ∧ ∀ j, j < N → (lowA N k xs).2 j = t8n e ((lowA N l ys).2 j)) := by
  obtain ⟨v1, d1⟩ := low_v N k xs
  obtain ⟨v2, d2⟩ := low_v N l ys
  generalize lowA N k xs = A at *
  generalize lowA N l ys = B at *
  have hq : ∀ j, j < N → ((t8n e (red l (ys j)).1 = (red k (xs j)).1 ∧ (red l (ys j)).2 = (red k (xs j)).2) ↔ red B.1 (t8n e (B.2 j)) = red A.1 (A.2 j)) := fun j hj => by
    rw [red_t8n, vr_u (v1 j hj), vr_u (v2 j hj)]
    constructor
    · rintro ⟨a, b⟩
      exact Prod.ext a b
    · intro h
      have h1 := congrArg Prod.fst h
      have h2 := congrArg Prod.snd h
      exact ⟨h1, h2⟩
  constructor
  · intro h
    have h : ∀ j, j < N → red B.1 (t8n e (B.2 j)) = red A.1 (A.2 j) := fun j hj => (hq j hj).mp (h j hj)
    have hk : A.1 ≤ B.1 := by
      rcases d1 with d1 | ⟨j, hj, hd⟩
      · omega
      · have h1 := h j hj
        rw [red_nd hd] at h1
        have := (red_v B.1 (t8n e (B.2 j))).1
        rw [h1] at this
        exact this
    have hl : B.1 ≤ A.1 := by
      rcases d2 with d2 | ⟨j, hj, hd⟩
      · omega
      · have h1 := h j hj
        rw [red_nd (fun q => hd ((t8n_dv _ e).mp q))] at h1
        have := (red_v A.1 (A.2 j)).1
        rw [← h1] at this
        exact this
    have hkl : A.1 = B.1 := by omega
    refine ⟨hkl, fun j hj => ?_⟩
    have h1 := h j hj
    rw [← hkl] at h1
    have a := (red_v A.1 (A.2 j)).2
    have b := (red_v A.1 (t8n e (B.2 j))).2
    rw [h1] at b
    rw [← a, ← b]
  · rintro ⟨hkl, h⟩ j hj
    rw [hq j hj, ← hkl, h j hj]
section EQP
variable {d : Nat} {M : mm_M} {g : Nat → Int64}
set_option maxRecDepth 100000 in
theorem pw_l {P : am_Q} {X : am_X} {c e a W N : Nat} {A B : Nat → R4 × Nat} {q o : Nat → Int64} (hX : am_K (d + 1) false nm_X12_powersOf P X) (w5 : W ≤ 5) (eN : N = 2 ^ W) (hw : M.1 108 71 = nI W) (hB : ∀ j, j < N → bd (B j).1 ∧ (B j).2 < 2 ^ 31) (hA : ∀ j, j < N → bd (A j).1 ∧ (A j).2 < 2 ^ 31 ∧ at5 (M.2 160) (5 * j) (A j).1 (A j).2) (hP : ∀ f, P (.inl (some (aI (nI (pvw (fun p => allN (eqB A B p) N) 255 8))))) (v4 M q o f (c5 g N B))) : ∀ (m p : Nat), p + m = 8 → ∀ f l6 l7, X 54 [some (aR 108), some (aI (nI c)), some (aI (nI e)), some (aI (nI a)), some (aI (nI (pvw (fun p => allN (eqB A B p) N) 255 p))), some (aI (nI p)), l6, l7] [] (v4 M q o f (c5 g N B)) := by
  have h255 : ∀ p, p < 8 → 255 / 2 ^ p % 2 = 1 := by decide
  intro m
  induction m with
  | zero =>
    intro p hp f l6 l7
    have hp : p = 8 := by omega
    subst hp
    refine am_run hX 6 _ _ _ _ ?_
    conv => whnf
    refine ⟨fun _ => ?_, fun c => absurd (by decide) c⟩
    conv => whnf
    exact ⟨trivial, hP _⟩
  | succ m ih =>
    intro p hp f l6 l7
    have ih := ih (p + 1) (by omega)
    simp only [pvw] at ih
    refine am_run hX 3 _ _ _ _ ?_
    conv => whnf
    refine ⟨fun c => absurd c (nI_ge (a := p) (b := 8) (by omega) (by decide)), fun _ => ?_⟩
    refine am_run hX 4 _ _ _ _ ?_
    conv => whnf
    refine pj_l (d := d) (A := A) hX w5 eN (by omega) hw hB hA (fun f' j => ?_) N 0 (by omega) _
    cases hT : allN (eqB A B p) N with
    | true =>
      rw [if_pos ⟨h255 p (by omega), hT⟩] at ih
      refine am_run hX 3 _ _ _ _ ?_
      conv => whnf
      refine ⟨fun c => absurd c (by decide), fun _ => ?_⟩
      refine am_run hX 8 _ _ _ _ ?_
      conv => whnf
      rw [sh2 p (by omega), nI_or, nI_1]
      exact ih _ _ _
    | false =>
      rw [if_neg (fun z => by rw [hT] at z; exact absurd z.2 (by decide))] at ih
      refine am_run hX 3 _ _ _ _ ?_
      conv => whnf
      refine ⟨fun _ => ?_, fun c => absurd rfl c⟩
      refine am_run hX 5 _ _ _ _ ?_
      conv => whnf
      rw [show (0 : Int32) = nI 0 from rfl, nI_or, Nat.or_zero, nI_1]
      exact ih _ _ _
/-- each ROOT of a circuit's column, told over its least power -/
def clm (W : Nat) (op : Nat → bk_X) (a S : Nat) (j : Nat) : R4 × Nat := red (au W op a S).1 ((au W op a S).2 j)
set_option maxRecDepth 100000 in
theorem ct_powOf {n c e W S S' a : Nat} {op op' : Nat → bk_X} (h : cir M n c W S op) (h' : cir M n e W S' op') (w5 : W ≤ 5) (ha : a < 2 ^ W) (hp : ∀ j, j < S → (op j).1 < 9) (hp' : ∀ j, j < S' → (op' j).1 < 9) : am_M (d + 7) false nm_X12_powersOf [aR 108, aI (nI c), aI (nI e), aI (nI a)] M (fun r M' => r = .inl (some (aI (nI (pvw (fun p => allN (eqB (clm W op a S) (clm W op' a S') p) (2 ^ W)) 255 8)))) ∧ eqj M M') := by
  have hN : 2 ^ W ≤ 32 := by
    have : 2 ^ W ≤ 2 ^ 5 := Nat.pow_le_pow_right (by decide) w5
    omega
  have hops := h.2.2.2.1
  have hops' := h'.2.2.2.1
  have hA : ∀ j, j < 2 ^ W → bd (clm W op a S j).1 ∧ (clm W op a S j).2 < 2 ^ 31 := fun j hj => by
    have b := au_bd (a := a) (fun j hj => (hops j hj).1) h.2.2.2.2 (Nat.le_refl S) j hj
    have k := (au_ok (a := a) (fun j hj => (hops j hj).1) S (Nat.le_refl _)).2
    have k6 := h.2.2.2.2
    have l := (vr_red (au W op a S).1 ((au W op a S).2 j)).1
    exact ⟨vr_bd (vr_red _ _) b, by show (red (au W op a S).1 ((au W op a S).2 j)).2 < 2 ^ 31; omega⟩
  have hB : ∀ j, j < 2 ^ W → bd (clm W op' a S' j).1 ∧ (clm W op' a S' j).2 < 2 ^ 31 := fun j hj => by
    have b := au_bd (a := a) (fun j hj => (hops' j hj).1) h'.2.2.2.2 (Nat.le_refl S') j hj
    have k := (au_ok (a := a) (fun j hj => (hops' j hj).1) S' (Nat.le_refl _)).2
    have k6 := h'.2.2.2.2
    have l := (vr_red (au W op' a S').1 ((au W op' a S').2 j)).1
    exact ⟨vr_bd (vr_red _ _) b, by show (red (au W op' a S').1 ((au W op' a S').2 j)).2 < 2 ^ 31; omega⟩
  have hn20 := h.1.1
  have hcn := h.2.1
  refine ⟨rfl, rfl, rfl, fun X hX => am_run hX 6 _ _ _ _ ?_⟩
  conv => whnf
  refine am_cq (ct_runAll (d := d) h ha hp) ?_
  rintro r M1 ⟨rfl, q, o, f, rfl⟩
  refine ⟨none, rfl, ?_⟩
  conv => whnf
  have j1 := eqj_wd M W q o f (c5 (zs0 M) (2 ^ W) (fun j => red (au W op a S).1 ((au W op a S).2 j)))
  have c1 := cir_j j1 h
  have d1 := cir_j j1 h'
  have e150 : (v4 (wd M W) q o f (c5 (zs0 M) (2 ^ W) (fun j => red (au W op a S).1 ((au W op a S).2 j)))).2 150 = c5 (zs0 M) (2 ^ W) (clm W op a S) := rfl
  generalize v4 (wd M W) q o f (c5 (zs0 M) (2 ^ W) (fun j => red (au W op a S).1 ((au W op a S).2 j))) = M1 at *
  have key := co_l (d := d + 6) (M := M1) (c := c) (e := e) (a := a) hX (by omega) w5 c1.2.2.1.2.2.2.2.1 ?_ (5 * 2 ^ W) 0 (by omega)
  · have ez : (fun j => if j < 0 then M1.2 150 j else M1.2 160 j) = M1.2 160 := by
      funext j
      rw [if_neg (by omega)]
    rw [ez, mm_lz] at key
    exact key
  · have j2 := eqj_co M1 (fun j => if j < 5 * 2 ^ W then M1.2 150 j else M1.2 160 j)
    have d2 := cir_j j2 d1
    have e160 : ∀ j, j < 2 ^ W → at5 ((mm_l M1 160 (fun j => if j < 5 * 2 ^ W then M1.2 150 j else M1.2 160 j)).2 160) (5 * j) (clm W op a S j).1 (clm W op a S j).2 := fun j hj => by
      rw [mm_l2, e150]
      obtain ⟨a0, a1, a2, a3, a4⟩ := c5_5 (g := zs0 M) (ys := clm W op a S) hj
      exact ⟨(if_pos (by omega)).trans a0, (if_pos (by omega)).trans a1, (if_pos (by omega)).trans a2, (if_pos (by omega)).trans a3, (if_pos (by omega)).trans a4⟩
    generalize mm_l M1 160 (fun j => if j < 5 * 2 ^ W then M1.2 150 j else M1.2 160 j) = M2 at *
    refine am_run hX 8 _ _ _ _ ?_
    conv => whnf
    refine am_cq (ct_runAll (d := d) d2 ha hp') ?_
    rintro r M3 ⟨rfl, q', o', f', rfl⟩
    refine ⟨none, rfl, ?_⟩
    conv => whnf
    refine pw_l (d := d + 5) (M := wd M2 W) (W := W) (N := 2 ^ W) (A := clm W op a S) (B := clm W op' a S') hX w5 rfl (by unfold wd; rw [mm_i1]; rfl) hB (fun j hj => ⟨(hA j hj).1, (hA j hj).2, e160 j hj⟩) (fun f => ⟨rfl, ?_⟩) 8 0 (by omega) _ _ _
    exact eqj_t (eqj_t j1 j2) (eqj_wd M2 W q' o' f _)
end EQP
section EQA
variable {d : Nat} {M : mm_M}
set_option maxRecDepth 100000 in
theorem as_l0 {P : am_Q} {X : am_X} (hX : am_K d false nm_X12_aside P X) (hP : P (.inl none) (mm_l M 161 (fun j => if j < 1280 then M.2 150 j else M.2 161 j))) : ∀ (m i : Nat), i + m = 1280 → X 2 [some (aR 108), some (aI 0), some (aI (nI i))] [] (mm_l M 161 (fun j => if j < i then M.2 150 j else M.2 161 j)) := by
  intro m
  induction m with
  | zero =>
    intro i hi
    have hi : i = 1280 := by omega
    subst hi
    refine am_run hX 5 _ _ _ _ ?_
    conv => whnf
    refine ⟨fun _ => ?_, fun c => absurd (by decide) c⟩
    conv => whnf
    exact ⟨trivial, hP⟩
  | succ m ih =>
    intro i hi
    refine am_run hX 3 _ _ _ _ ?_
    conv => whnf
    refine ⟨fun c => absurd c (nI_ge (a := i) (b := 1280) (by omega) (by decide)), fun _ => ?_⟩
    refine am_run hX 2 _ _ _ _ ?_
    conv => whnf
    refine ⟨fun _ => ?_, fun c => absurd rfl c⟩
    refine am_run hX 10 _ _ _ _ ?_
    conv => whnf
    refine ⟨vp_in_nI (by show _ < 1280; omega) (by decide), ?_⟩
    conv => whnf
    refine ⟨vp_in_nI (by show _ < 1280; omega) (by decide), ?_⟩
    conv => whnf
    rw [nI_clamp (n := i) (by omega), nI_1, mm_l2, mm_ll, mm_lne _ 161 150 _ (by decide)]
    have e : vp_updL (fun j => if j < i then M.2 150 j else M.2 161 j) i (M.2 150 i) = fun j => if j < i + 1 then M.2 150 j else M.2 161 j := by
      funext j
      unfold vp_updL
      by_cases h : j = i
      · rw [if_pos h, if_pos (by omega), h]
      · rw [if_neg h]
        dsimp only
        by_cases h2 : j < i
        · rw [if_pos h2, if_pos (by omega)]
        · rw [if_neg h2, if_neg (by omega)]
    rw [e]
    exact ih (i + 1) (by omega)
set_option maxRecDepth 100000 in
theorem ct_aside0 : am_M (d + 1) false nm_X12_aside [aR 108, aI 0] M (am_q0 (mm_l M 161 (fun j => if j < 1280 then M.2 150 j else M.2 161 j))) := by
  refine ⟨rfl, rfl, rfl, fun X hX => am_run hX 2 _ _ _ _ ?_⟩
  conv => whnf
  have key := as_l0 (M := M) hX ⟨rfl, rfl⟩ 1280 0 (by omega)
  have e : (fun j => if j < 0 then M.2 150 j else M.2 161 j) = M.2 161 := by
    funext j
    rw [if_neg (by omega)]
  rw [e, mm_lz] at key
  exact key
set_option maxRecDepth 100000 in
theorem as_l1 {P : am_Q} {X : am_X} (hX : am_K d false nm_X12_aside P X) (hP : P (.inl none) (mm_l M 150 (fun j => if j < 1280 then M.2 161 j else M.2 150 j))) : ∀ (m i : Nat), i + m = 1280 → X 2 [some (aR 108), some (aI 1), some (aI (nI i))] [] (mm_l M 150 (fun j => if j < i then M.2 161 j else M.2 150 j)) := by
  intro m
  induction m with
  | zero =>
    intro i hi
    have hi : i = 1280 := by omega
    subst hi
    refine am_run hX 5 _ _ _ _ ?_
    conv => whnf
    refine ⟨fun _ => ?_, fun c => absurd (by decide) c⟩
    conv => whnf
    exact ⟨trivial, hP⟩
  | succ m ih =>
    intro i hi
    refine am_run hX 3 _ _ _ _ ?_
    conv => whnf
    refine ⟨fun c => absurd c (nI_ge (a := i) (b := 1280) (by omega) (by decide)), fun _ => ?_⟩
    refine am_run hX 2 _ _ _ _ ?_
    conv => whnf
    refine ⟨fun c => absurd c (by decide), fun _ => ?_⟩
    refine am_run hX 11 _ _ _ _ ?_
    conv => whnf
    refine ⟨vp_in_nI (by show _ < 1280; omega) (by decide), ?_⟩
    conv => whnf
    refine ⟨vp_in_nI (by show _ < 1280; omega) (by decide), ?_⟩
    conv => whnf
    rw [nI_clamp (n := i) (by omega), nI_1, mm_l2, mm_ll, mm_lne _ 150 161 _ (by decide)]
    have e : vp_updL (fun j => if j < i then M.2 161 j else M.2 150 j) i (M.2 161 i) = fun j => if j < i + 1 then M.2 161 j else M.2 150 j := by
      funext j
      unfold vp_updL
      by_cases h : j = i
      · rw [if_pos h, if_pos (by omega), h]
      · rw [if_neg h]
        dsimp only
        by_cases h2 : j < i
        · rw [if_pos h2, if_pos (by omega)]
        · rw [if_neg h2, if_neg (by omega)]
    rw [e]
    exact ih (i + 1) (by omega)
set_option maxRecDepth 100000 in
theorem ct_aside1 : am_M (d + 1) false nm_X12_aside [aR 108, aI 1] M (am_q0 (mm_l M 150 (fun j => if j < 1280 then M.2 161 j else M.2 150 j))) := by
  refine ⟨rfl, rfl, rfl, fun X hX => am_run hX 2 _ _ _ _ ?_⟩
  conv => whnf
  have key := as_l1 (M := M) hX ⟨rfl, rfl⟩ 1280 0 (by omega)
  have e : (fun j => if j < 0 then M.2 161 j else M.2 150 j) = M.2 150 := by
    funext j
    rw [if_neg (by omega)]
  rw [e, mm_lz] at key
  exact key
end EQA
