/-! group: the reference -/
section GPH
variable {d : Nat} {M : mm_M}
set_option maxRecDepth 100000 in
theorem io_l150 {P : am_Q} {X : am_X} {a : Nat} (hX : am_K d false nm_X12_isOne P X) (ha : a + 5 ≤ 1280) (hP : P (.inl (some (aI (b01 (allN (fun i => decide (M.2 118 i = M.2 150 (a + i))) 5))))) M) : ∀ (m i : Nat), i + m = 5 → X 5 [some (aR 108), some (aR 150), some (aI (nI a)), some (aI (b01 (allN (fun i => decide (M.2 118 i = M.2 150 (a + i))) i))), some (aI (nI i))] [] M := by
  intro m
  induction m with
  | zero =>
    intro i hi
    have hi : i = 5 := by omega
    subst hi
    refine am_run hX 6 _ _ _ _ ?_
    conv => whnf
    refine ⟨fun _ => ?_, fun c => absurd (by decide) c⟩
    conv => whnf
    refine ⟨?_, hP⟩
    cases allN (fun i => decide (M.2 118 i = M.2 150 (a + i))) 5 <;> rfl
  | succ m ih =>
    intro i hi
    have ih := ih (i + 1) (by omega)
    simp only [allN] at ih
    refine am_run hX 3 _ _ _ _ ?_
    conv => whnf
    refine ⟨fun c => absurd c (nI_ge (a := i) (b := 5) (by omega) (by decide)), fun _ => ?_⟩
    cases hc : allN (fun i => decide (M.2 118 i = M.2 150 (a + i))) i with
    | false =>
      rw [hc, Bool.false_and] at ih
      refine am_run hX 2 _ _ _ _ ?_
      conv => whnf
      refine ⟨fun _ => ?_, fun c => absurd rfl c⟩
      refine am_run hX 4 _ _ _ _ ?_
      conv => whnf
      rw [nI_1]
      exact ih
    | true =>
      rw [hc, Bool.true_and] at ih
      refine am_run hX 2 _ _ _ _ ?_
      conv => whnf
      refine ⟨fun c => absurd c (by decide), fun _ => ?_⟩
      refine am_run hX 11 _ _ _ _ ?_
      conv => whnf
      refine ⟨vp_in_nI (by show _ < 5; omega) (by decide), ?_⟩
      conv => whnf
      rw [nI_add]
      refine ⟨vp_in_nI (by show _ < 1280; omega) (by decide), ?_⟩
      conv => whnf
      rw [nI_clamp (n := i) (by omega), nI_clamp (n := a + i) (by omega), lg_0]
      refine ⟨fun c => ?_, fun c => ?_⟩
      · rw [decide_eq_false c] at ih
        refine am_run hX 4 _ _ _ _ ?_
        conv => whnf
        rw [nI_1]
        exact ih
      · rw [decide_eq_true (Decidable.byContradiction c)] at ih
        refine am_run hX 5 _ _ _ _ ?_
        conv => whnf
        rw [nI_1]
        exact ih
set_option maxRecDepth 100000 in
theorem ct_isOneS {a k l : Nat} {x y : R4} {f : Nat → Int64} (ha : a + 5 ≤ 1280) (hx : bd x) (hy : bd y) (hk : k < 2 ^ 31) (hl : l < 2 ^ 31) (hh : at5 (M.2 150) a y l) : am_M (d + 1) false nm_X12_isOne [aR 108, aR 150, aI (nI a)] (mm_l M 118 (ov f x k)) (am_q1 (aI (b01 (decide (x = y ∧ k = l)))) (mm_l M 118 (ov f x k))) := by
  have e : allN (fun i => decide ((mm_l M 118 (ov f x k)).2 118 i = (mm_l M 118 (ov f x k)).2 150 (a + i))) 5 = decide (x = y ∧ k = l) := by
    rw [mm_l2, mm_lne _ 118 150 _ (by decide)]
    have := io_e (f := f) hx hy hk hl hh
    by_cases z : x = y ∧ k = l
    · rw [decide_eq_true z]
      exact this.mpr z
    · rw [decide_eq_false z]
      exact nt_f (fun q => z (this.mp q))
  refine ⟨rfl, rfl, rfl, fun X hX => am_run hX 4 _ _ _ _ ?_⟩
  conv => whnf
  exact io_l150 (M := mm_l M 118 (ov f x k)) hX ha (by rw [e]; exact ⟨rfl, rfl⟩) 5 0 (by omega)
/-- what the reference has of the STATE -/
def grS (N : mm_M) (w k : Nat) (ys : Nat → R4) : Prop := w ≤ 8 ∧ k ≤ 60 ∧ N.1 108 71 = nI w ∧ ∀ j, j < 2 ^ w → bd (ys j) ∧ at5 (N.2 150) (5 * j) (red k (ys j)).1 (red k (ys j)).2
theorem red_k (k : Nat) (x : R4) : (red k x).2 ≤ k := (vr_red k x).1
/-- all so far -/
def fxN (ys : Nat → R4) (x z s i : Nat) : Bool := allN (fun j => decide (t8n (ex_e x z j + 4 * s) (ys (j ^^^ x)) = ys j)) i
theorem fxN_s {ys : Nat → R4} {x z s i : Nat} : fxN ys x z s (i + 1) = (fxN ys x z s i && decide (t8n (ex_e x z i + 4 * s) (ys (i ^^^ x)) = ys i)) := rfl
theorem fxN_f {ys : Nat → R4} {x z s i w : Nat} (hi : i ≤ 2 ^ w) (h : fxN ys x z s i = false) : fxB w ys x z s = false := by
  refine Bool.eq_false_iff.mpr (fun q => ?_)
  have := (all_iff (p := fun j => decide (t8n (ex_e x z j + 4 * s) (ys (j ^^^ x)) = ys j)) (2 ^ w)).mp q
  have h2 : fxN ys x z s i = true := (all_iff i).mpr (fun j hj => this j (by omega))
  rw [h] at h2
  cases h2
set_option maxRecDepth 100000 in
theorem sr_l {w k x z : Nat} {ys : Nat → R4} {P : am_Q} {X : am_X} (hX : am_K (d + 2) false nm_X12_signOf P X) (h : grS M w k ys) (hx : x < 2 ^ w) (hz : z < 2 ^ w) (hP : ∀ f, P (.inl (some (aI (sgV w ys x z)))) (mm_l M 118 f)) : ∀ (m i : Nat) (f : Nat → Int64), i + m = 2 ^ w → X 8 [some (aR 108), some (aI (nI x)), some (aI (nI z)), some (aI (b01 (fxN ys x z 0 i))), some (aI (b01 (fxN ys x z 1 i))), some (aI (nI i))] [] (mm_l M 118 f) := by
  obtain ⟨w8, k60, h71, hst⟩ := h
  have h8 := w256 w8
  -- the end
  have hend : ∀ (i : Nat) (f : Nat → Int64) (a b : Bool), (sgV w ys x z = if a = true then 0 else if b = true then 1 else -1) → X 99 [some (aR 108), some (aI (nI x)), some (aI (nI z)), some (aI (b01 a)), some (aI (b01 b)), some (aI (nI i))] [] (mm_l M 118 f) := by
    intro i f a b e
    cases a with
    | true =>
      refine am_run hX 2 _ _ _ _ ?_
      conv => whnf
      refine ⟨fun c => absurd c (by decide), fun _ => ?_⟩
      refine am_run hX 3 _ _ _ _ ?_
      conv => whnf
      have := hP f
      rw [e] at this
      exact ⟨trivial, this⟩
    | false =>
      refine am_run hX 2 _ _ _ _ ?_
      conv => whnf
      refine ⟨fun _ => ?_, fun c => absurd rfl c⟩
      cases b with
      | true =>
        refine am_run hX 2 _ _ _ _ ?_
        conv => whnf
        refine ⟨fun c => absurd c (by decide), fun _ => ?_⟩
        refine am_run hX 3 _ _ _ _ ?_
        conv => whnf
        have := hP f
        rw [e] at this
        exact ⟨trivial, this⟩
      | false =>
        refine am_run hX 2 _ _ _ _ ?_
        conv => whnf
        refine ⟨fun _ => ?_, fun c => absurd rfl c⟩
        refine am_run hX 2 _ _ _ _ ?_
        conv => whnf
        have := hP f
        rw [e] at this
        exact ⟨trivial, this⟩
  intro m
  induction m with
  | zero =>
    intro i f hi
    obtain rfl : i = 2 ^ w := by omega
    refine am_run hX 6 _ _ _ _ ?_
    conv => whnf
    rw [show (mm_l M 118 f).1 108 71 = nI w from h71, sh2 w (by omega)]
    refine ⟨fun _ => ?_, fun c => absurd (nI_le (Nat.le_refl _) (by omega)) c⟩
    exact hend _ f _ _ rfl
  | succ m ih =>
    intro i f hi
    have il : i < 2 ^ w := by omega
    have hxi : i ^^^ x < 2 ^ w := xq_lt il hx
    obtain ⟨b1, a1⟩ := hst i il
    obtain ⟨b2, a2⟩ := hst (i ^^^ x) hxi
    have k1 := red_k k (ys i)
    have k2 := red_k k (ys (i ^^^ x))
    have hdec : ∀ s, decide (t8n (ex_e x z i + 4 * s) (red k (ys (i ^^^ x))).1 = (red k (ys i)).1 ∧ (red k (ys (i ^^^ x))).2 = (red k (ys i)).2) = decide (t8n (ex_e x z i + 4 * s) (ys (i ^^^ x)) = ys i) := by
      intro s
      have hr := red_t8n k (ys (i ^^^ x)) (ex_e x z i + 4 * s)
      have e : (t8n (ex_e x z i + 4 * s) (red k (ys (i ^^^ x))).1 = (red k (ys i)).1 ∧ (red k (ys (i ^^^ x))).2 = (red k (ys i)).2) ↔ t8n (ex_e x z i + 4 * s) (ys (i ^^^ x)) = ys i := by
        have h9 := red_inj2 (K := k) (X := t8n (ex_e x z i + 4 * s) (ys (i ^^^ x))) (Y := ys i)
        rw [hr] at h9
        exact h9
      exact decide_eq_decide.mpr e
    refine am_run hX 6 _ _ _ _ ?_
    conv => whnf
    rw [show (mm_l M 118 f).1 108 71 = nI w from h71, sh2 w (by omega)]
    refine ⟨fun c => absurd c (nI_ge (by omega) (by omega)), fun _ => ?_⟩
    -- the body
    have hbody : X 28 [some (aR 108), some (aI (nI x)), some (aI (nI z)), some (aI (b01 (fxN ys x z 0 i))), some (aI (b01 (fxN ys x z 1 i))), some (aI (nI i))] [] (mm_l M 118 f) := by
      refine am_run hX 5 _ _ _ _ ?_
      conv => whnf
      refine am_c0 (ct_lpauli (d := d) (M := mm_l M 118 f) il hx hz w8 (y := (red k (ys (i ^^^ x))).1) (l := (red k (ys (i ^^^ x))).2) (by rw [mm_lne _ 118 150 _ (by decide)]; exact a2)) ?_
      rw [mm_ll, mm_l2]
      -- the second test
      have h2 : X 61 [some (aR 108), some (aI (nI x)), some (aI (nI z)), some (aI (b01 (fxN ys x z 0 (i + 1)))), some (aI (b01 (fxN ys x z 1 i))), some (aI (nI i))] [] (mm_l M 118 (ov f (t8n (ex_e x z i) (red k (ys (i ^^^ x))).1) (red k (ys (i ^^^ x))).2)) := by
        refine am_run hX 3 _ _ _ _ ?_
        conv => whnf
        refine am_c0 (ct_turn1 (d := d + 1) (M := M) (g := f) (n := 4) (p := 4) (by decide) (by decide)) ?_
        rw [← t8n_a]
        have h3 : ∀ b, b = fxN ys x z 1 (i + 1) → ∀ f', X 91 [some (aR 108), some (aI (nI x)), some (aI (nI z)), some (aI (b01 (fxN ys x z 0 (i + 1)))), some (aI (b01 (fxN ys x z 1 i))), some (aI (nI i))] [aI (b01 b)] (mm_l M 118 f') := by
          intro b hb f'
          refine am_run hX 3 _ _ _ _ ?_
          conv => whnf
          rw [hb, nI_1]
          exact ih (i + 1) f' (by omega)
        cases hc : fxN ys x z 1 i with
        | false =>
          rw [hc] at h3
          refine am_run hX 2 _ _ _ _ ?_
          conv => whnf
          refine ⟨fun _ => ?_, fun c => absurd rfl c⟩
          refine am_run hX 1 _ _ _ _ ?_
          conv => whnf
          exact h3 false (by rw [fxN_s, hc]; rfl) _
        | true =>
          rw [hc] at h3
          refine am_run hX 2 _ _ _ _ ?_
          conv => whnf
          refine ⟨fun c => absurd c (by decide), fun _ => ?_⟩
          refine am_run hX 7 _ _ _ _ ?_
          conv => whnf
          rw [show (5 : Int32) = nI 5 from rfl, nI_mul]
          refine am_c1 (ct_isOneS (d := d + 1) (M := M) (f := f) (a := 5 * i) (y := (red k (ys i)).1) (l := (red k (ys i)).2) (by omega) (t8_bd (bd_red k _ b2) _) (bd_red k _ b1) (by omega) (by omega) a1) ?_
          rw [Nat.add_comm 4, show ex_e x z i + 4 = ex_e x z i + 4 * 1 from rfl, hdec 1]
          cases hd : decide (t8n (ex_e x z i + 4 * 1) (ys (i ^^^ x)) = ys i) with
          | false =>
            refine am_run hX 1 _ _ _ _ ?_
            conv => whnf
            refine ⟨fun _ => ?_, fun c => absurd rfl c⟩
            refine am_run hX 1 _ _ _ _ ?_
            conv => whnf
            exact h3 false (by rw [fxN_s, hc, hd]; rfl) _
          | true =>
            refine am_run hX 1 _ _ _ _ ?_
            conv => whnf
            refine ⟨fun c => absurd c (by decide), fun _ => ?_⟩
            refine am_run hX 2 _ _ _ _ ?_
            conv => whnf
            exact h3 true (by rw [fxN_s, hc, hd]; rfl) _
      have h3 : ∀ b, b = fxN ys x z 0 (i + 1) → X 60 [some (aR 108), some (aI (nI x)), some (aI (nI z)), some (aI (b01 (fxN ys x z 0 i))), some (aI (b01 (fxN ys x z 1 i))), some (aI (nI i))] [aI (b01 b)] (mm_l M 118 (ov f (t8n (ex_e x z i) (red k (ys (i ^^^ x))).1) (red k (ys (i ^^^ x))).2)) := by
        intro b hb
        refine am_run hX 1 _ _ _ _ ?_
        conv => whnf
        rw [hb]
        exact h2
      cases hc : fxN ys x z 0 i with
      | false =>
        rw [hc] at h3
        refine am_run hX 2 _ _ _ _ ?_
        conv => whnf
        refine ⟨fun _ => ?_, fun c => absurd rfl c⟩
        refine am_run hX 1 _ _ _ _ ?_
        conv => whnf
        exact h3 false (by rw [fxN_s, hc]; rfl)
      | true =>
        rw [hc] at h3
        refine am_run hX 2 _ _ _ _ ?_
        conv => whnf
        refine ⟨fun c => absurd c (by decide), fun _ => ?_⟩
        refine am_run hX 7 _ _ _ _ ?_
        conv => whnf
        rw [show (5 : Int32) = nI 5 from rfl, nI_mul]
        refine am_c1 (ct_isOneS (d := d + 1) (M := M) (f := f) (a := 5 * i) (y := (red k (ys i)).1) (l := (red k (ys i)).2) (by omega) (t8_bd (bd_red k _ b2) _) (bd_red k _ b1) (by omega) (by omega) a1) ?_
        have hd0 := hdec 0
        rw [Nat.mul_zero, Nat.add_zero] at hd0
        rw [hd0]
        cases hd : decide (t8n (ex_e x z i) (ys (i ^^^ x)) = ys i) with
        | false =>
          refine am_run hX 1 _ _ _ _ ?_
          conv => whnf
          refine ⟨fun _ => ?_, fun c => absurd rfl c⟩
          refine am_run hX 1 _ _ _ _ ?_
          conv => whnf
          refine h3 false ?_
          rw [fxN_s, hc, Nat.mul_zero, Nat.add_zero, hd]
          rfl
        | true =>
          refine am_run hX 1 _ _ _ _ ?_
          conv => whnf
          refine ⟨fun c => absurd c (by decide), fun _ => ?_⟩
          refine am_run hX 2 _ _ _ _ ?_
          conv => whnf
          refine h3 true ?_
          rw [fxN_s, hc, Nat.mul_zero, Nat.add_zero, hd]
          rfl
    cases hc0 : fxN ys x z 0 i with
    | true =>
      rw [hc0] at hbody
      refine am_run hX 2 _ _ _ _ ?_
      conv => whnf
      exact ⟨fun _ => hbody, fun c => absurd (by decide) c⟩
    | false =>
      rw [hc0] at hbody
      refine am_run hX 2 _ _ _ _ ?_
      conv => whnf
      refine ⟨fun c => absurd rfl c, fun _ => ?_⟩
      cases hc1 : fxN ys x z 1 i with
      | true =>
        rw [hc1] at hbody
        refine am_run hX 2 _ _ _ _ ?_
        conv => whnf
        exact ⟨fun c => absurd c (by decide), fun _ => hbody⟩
      | false =>
        refine am_run hX 2 _ _ _ _ ?_
        conv => whnf
        refine ⟨fun _ => ?_, fun c => absurd rfl c⟩
        refine hend i f false false ?_
        unfold sgV
        rw [fxN_f (by omega) hc0, fxN_f (by omega) hc1]
set_option maxRecDepth 100000 in
theorem ct_sgnR {w k x z : Nat} {ys : Nat → R4} (h : grS M w k ys) (hx : x < 2 ^ w) (hz : z < 2 ^ w) : am_M (d + 3) false nm_X12_signOf [aR 108, aI (nI x), aI (nI z)] M (fun r N => r = .inl (some (aI (sgV w ys x z))) ∧ ∃ f, N = mm_l M 118 f) := by
  refine ⟨rfl, rfl, rfl, fun X hX => am_run hX 6 _ _ _ _ ?_⟩
  conv => whnf
  have key := sr_l (d := d) (M := M) hX h hx hz (fun f => ⟨rfl, f, rfl⟩) (2 ^ w) 0 (M.2 118) (by omega)
  rw [mm_lz] at key
  exact key
end GPH
