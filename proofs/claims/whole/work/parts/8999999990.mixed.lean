/-! THE PAIR mixed -/
theorem mx_1 : ∀ i, i < 256 → ∀ t, t < 8 → (i &&& 2 ^ t = 0 ↔ i / 2 ^ t % 2 = 0) ∧ (i / 2 ^ t % 2 = 0 → i ||| 2 ^ t = i ^^^ 2 ^ t) := by decide +kernel
theorem mx_s : ∀ r, r < 2 → ∀ t, t < 8 → nI r <<< (nI t &&& 31) = nI (r * 2 ^ t) := by decide +kernel
theorem mx_o {i t r : Nat} (hi : i < 256) (ht : t < 8) (hr : r < 2) (h : i / 2 ^ t % 2 = 0) : i ||| r * 2 ^ t = i ^^^ r * 2 ^ t := by
  rcases (by omega : r = 0 ∨ r = 1) with rfl | rfl
  · rw [Nat.zero_mul, Nat.or_zero, Nat.xor_zero]
  · rw [Nat.one_mul]
    exact (mx_1 i hi t ht).2 h
theorem mx_b {t r w : Nat} (ht : t < w) (hr : r < 2) : r * 2 ^ t < 2 ^ w := by
  have h1 : 2 ^ (t + 1) ≤ 2 ^ w := Nat.pow_le_pow_right (by decide) (by omega)
  have h2 := Nat.two_pow_pos t
  rw [Nat.pow_succ] at h1
  rcases (by omega : r = 0 ∨ r = 1) with rfl | rfl <;> omega
def mxT (x : Nat → R4) (t r c i : Nat) : R4 := if i / 2 ^ t % 2 = 0 then mu (cj (x (i ^^^ c * 2 ^ t))) (x (i ^^^ r * 2 ^ t)) else (0, 0, 0, 0)
theorem mx_lm (x : Nat → R4) (t r c i : Nat) : lm (nrm (x (i ^^^ c * 2 ^ t)) + nrm (x (i ^^^ r * 2 ^ t))) (mxT x t r c i) := by
  unfold mxT
  by_cases h : i / 2 ^ t % 2 = 0
  · rw [if_pos h]
    have := lm_mu (cj (x (i ^^^ c * 2 ^ t))) (x (i ^^^ r * 2 ^ t))
    rw [nrm_cj] at this
    exact this
  · rw [if_neg h]
    have := nrm0 (x (i ^^^ c * 2 ^ t))
    have := nrm0 (x (i ^^^ r * 2 ^ t))
    exact lm_0 (by omega)
theorem mx_B {M : mm_M} {c0 w k : Nat} {xs : Nat → R4} {t r c : Nat} (ht : t < w) (hr : r < 2) (hc : c < 2) (h : ru_s M c0 w k) (hn : ru_n M w k xs) : (∀ i, i < 2 ^ w → bd (mxT xs t r c i)) ∧ ∀ i, i ≤ 2 ^ w → bd (sR (mxT xs t r c) i) := by
  have h60 := p60 h.2.2.2.1
  have hs : sI (fun i => nrm (xs (i ^^^ c * 2 ^ t)) + nrm (xs (i ^^^ r * 2 ^ t))) (2 ^ w) ≤ 2 ^ 62 := by
    rw [sI_add, sI_x w (c * 2 ^ t) (fun i => nrm (xs i)) (mx_b ht hc), sI_x w (r * 2 ^ t) (fun i => nrm (xs i)) (mx_b ht hr)]
    have := hn.2
    omega
  have h0 : ∀ i, i < 2 ^ w → 0 ≤ (fun i => nrm (xs (i ^^^ c * 2 ^ t)) + nrm (xs (i ^^^ r * 2 ^ t))) i := fun i _ => by
    have := nrm0 (xs (i ^^^ c * 2 ^ t))
    have := nrm0 (xs (i ^^^ r * 2 ^ t))
    show 0 ≤ nrm (xs (i ^^^ c * 2 ^ t)) + nrm (xs (i ^^^ r * 2 ^ t))
    omega
  exact ⟨fun i hi => sb_T h0 (fun j _ => mx_lm xs t r c j) hs hi, fun i hi => sb_S h0 (fun j _ => mx_lm xs t r c j) hs hi⟩
theorem ov_rp {g : Nat → Int64} {y : R4 × Nat} (hy : y.2 < 2 ^ 31) {q : Int32} (q0 : ¬ q < 0) (q4 : q ≤ 4) : ov g y.1 y.2 q.toNatClampNeg = rp y q := by
  obtain ⟨j, hj, rfl⟩ := nI_of q0
  have hj4 : j ≤ 4 := by
    apply Decidable.byContradiction
    intro hc
    exact nI_ge (a := 4) (b := j) (by omega) hj q4
  rw [nI_clamp hj]
  unfold rp
  rcases (by omega : j = 0 ∨ j = 1 ∨ j = 2 ∨ j = 3 ∨ j = 4) with rfl | rfl | rfl | rfl | rfl
  · rw [if_pos (by decide)]; rfl
  · rw [if_neg (by decide), if_pos (by decide)]; rfl
  · rw [if_neg (by decide), if_neg (by decide), if_pos (by decide)]; rfl
  · rw [if_neg (by decide), if_neg (by decide), if_neg (by decide), if_pos (by decide)]; rfl
  · rw [if_neg (by decide), if_neg (by decide), if_neg (by decide), if_neg (by decide), lI_nI hy]; rfl
section MIX
variable {d : Nat} {M : mm_M} {g : Nat → Int64}
set_option maxRecDepth 100000 in
theorem mp_l {P : am_Q} {X : am_X} {w t r c : Nat} {xs : Nat → R4} {q : Int32} (hX : am_K (d + 2) false nm_X4_mixedPart P X) (hN : M.1 18 2 = nI (2 ^ w)) (w8 : w ≤ 8) (ht : t < w) (hr : r < 2) (hc : c < 2) (hx : ∀ j, j < 2 ^ w → rt_at M 20 j (xs j)) (hK : X 52 [some (aR 17), some (aI (nI (2 ^ t))), some (aI (nI (r * 2 ^ t))), some (aI (nI (c * 2 ^ t))), some (aI q), some (aI (nI (2 ^ w)))] [] (mm_l M 19 (s4 g (sR (mxT xs t r c) (2 ^ w))))) : ∀ (m i : Nat), i + m = 2 ^ w → X 10 [some (aR 17), some (aI (nI (2 ^ t))), some (aI (nI (r * 2 ^ t))), some (aI (nI (c * 2 ^ t))), some (aI q), some (aI (nI i))] [] (mm_l M 19 (s4 g (sR (mxT xs t r c) i))) := by
  have h8 := w256 w8
  intro m
  induction m with
  | zero =>
    intro i hi
    have hi : i = 2 ^ w := by omega
    subst hi
    refine am_run hX 5 _ _ _ _ ?_
    conv => whnf
    rw [show (mm_l M 19 (s4 g (sR (mxT xs t r c) (2 ^ w)))).1 18 2 = nI (2 ^ w) from hN]
    exact ⟨fun _ => hK, fun c => absurd (nI_le (by omega) (by omega)) c⟩
  | succ m ih =>
    intro i hi
    have ih := ih (i + 1) (by omega)
    simp only [sR] at ih
    have hi2 : i < 2 ^ w := by omega
    have hb := (mx_1 i (by omega) t (by omega)).1
    refine am_run hX 5 _ _ _ _ ?_
    conv => whnf
    rw [show (mm_l M 19 (s4 g (sR (mxT xs t r c) i))).1 18 2 = nI (2 ^ w) from hN]
    refine ⟨fun c => absurd c (nI_ge (by omega) (by omega)), fun _ => ?_⟩
    refine am_run hX 4 _ _ _ _ ?_
    conv => whnf
    have ht8 : 2 ^ t < 2 ^ w := Nat.pow_lt_pow_right (by decide) ht
    have hlt : i &&& 2 ^ t < 2 ^ w := Nat.and_lt_two_pow _ ht8
    rw [nI_and, show (0 : Int32) = nI 0 from rfl, nI_eq (by omega) (by omega), hb]
    refine ⟨fun c => ?_, fun c => ?_⟩
    · refine am_run hX 2 _ _ _ _ ?_
      conv => whnf
      rw [nI_1]
      rw [show mxT xs t r _ i = (0, 0, 0, 0) from if_neg c, ra_0] at ih
      exact ih
    · have cc : i / 2 ^ t % 2 = 0 := Decidable.byContradiction c
      have h1 := xq_lt hi2 (mx_b ht hc)
      have h2 := xq_lt hi2 (mx_b ht hr)
      refine am_run hX 13 _ _ _ _ ?_
      conv => whnf
      rw [nI_or, nI_or, mx_o (by omega) (by omega) hc cc, mx_o (by omega) (by omega) hr cc]
      refine am_c0 (ct_prod19 (d := d) (e := 0) (by omega) (by omega) (by omega) (hx _ h1) (hx _ h2)) ?_
      conv => whnf
      rw [nI_1]
      rw [show mxT xs t r _ i = mu (cj (xs (i ^^^ _ * 2 ^ t))) (xs (i ^^^ r * 2 ^ t)) from if_pos cc] at ih
      exact ih
set_option maxRecDepth 100000 in
theorem ct_mpart {w k t r c : Nat} {xs : Nat → R4} {q : Int32} (hN : M.1 18 2 = nI (2 ^ w)) (w8 : w ≤ 8) (hk : M.1 18 3 = nI k) (hk2 : k ≤ 60) (ht : t < w) (hr : r < 2) (hc : c < 2) (hx : ∀ j, j < 2 ^ w → rt_at M 20 j (xs j)) (hs : bd (sR (mxT xs t r c) (2 ^ w))) : am_M (d + 3) false nm_X4_mixedPart [aR 17, aI (nI (2 ^ t)), aI (nI (r * 2 ^ t)), aI (nI (c * 2 ^ t)), aI q] M (am_q1 (aJ (rp (red (2 * k) (sR (mxT xs t r c) (2 ^ w))) q)) (mm_l M 19 (s4 (M.2 19) (sR (mxT xs t r c) (2 ^ w))))) := by
  have h8 := w256 w8
  refine ⟨rfl, rfl, rfl, fun X hX => am_run hX 5 _ _ _ _ ?_⟩
  conv => whnf
  refine am_c0 (ct_clear19 (d := d)) ?_
  conv => whnf
  refine mp_l (d := d) (M := M) (g := M.2 19) hX hN w8 ht hr hc hx ?_ (2 ^ w) 0 (by omega)
  refine am_run hX 40 _ _ _ _ ?_
  conv => whnf
  refine ⟨by first | exact i5_0 | exact i5_1 | exact i5_2 | exact i5_3 | exact i5_4 | exact i5_01 | exact i5_02 | exact i5_03 | exact i5_04 | exact i4_0 | exact i4_1 | exact i4_2 | exact i4_3 | decide, ?_⟩
  conv => whnf
  refine ⟨by first | exact i5_0 | exact i5_1 | exact i5_2 | exact i5_3 | exact i5_4 | exact i5_01 | exact i5_02 | exact i5_03 | exact i5_04 | exact i4_0 | exact i4_1 | exact i4_2 | exact i4_3 | decide, ?_⟩
  conv => whnf
  refine ⟨by first | exact i5_0 | exact i5_1 | exact i5_2 | exact i5_3 | exact i5_4 | exact i5_01 | exact i5_02 | exact i5_03 | exact i5_04 | exact i4_0 | exact i4_1 | exact i4_2 | exact i4_3 | decide, ?_⟩
  conv => whnf
  refine ⟨by first | exact i5_0 | exact i5_1 | exact i5_2 | exact i5_3 | exact i5_4 | exact i5_01 | exact i5_02 | exact i5_03 | exact i5_04 | exact i4_0 | exact i4_1 | exact i4_2 | exact i4_3 | decide, ?_⟩
  conv => whnf
  rw [mm_l2, show (mm_l M 19 (s4 (M.2 19) (sR (mxT xs t r c) (2 ^ w)))).1 18 3 = nI k from hk, k_0, k_1, k_2, k_3, show (2 : Int32) * nI k = nI (2 * k) from by rw [show (2 : Int32) = nI 2 from rfl, nI_mul]]
  refine am_c1 (ct_root (d := d + 1) (x := sR (mxT xs t r c) (2 ^ w)) q (by omega) hs) ?_
  conv => whnf
  exact ⟨trivial, rfl, rfl⟩
set_option maxRecDepth 100000 in
theorem mx_x1 {c0 w k t r c : Nat} {xs : Nat → R4} {q : Int32} (h : ru_s M c0 w k) (hn : ru_n M w k xs) (ht : t < w) (hr : r < 2) (hc : c < 2) (hs : bd (sR (mxT xs t r c) (2 ^ w))) (q0 : ¬ q < 0) (q4 : q ≤ 4) (t' : Bool) : am_M (d + 4) t' nm_X11_mixed [aR 0, aI (nI t), aI (nI r), aI (nI c), aI q] M (am_q1 (aJ (rp (red (2 * k) (sR (mxT xs t r c) (2 ^ w))) q)) (mm_l M 19 (s4 (M.2 19) (sR (mxT xs t r c) (2 ^ w))))) := by
  obtain ⟨c20, w1, w8, k60, e1, e2, e3, e4, e5, e6, e7, _⟩ := h
  have hw := w256 w8
  refine ⟨rfl, rfl, rfl, fun X hX => am_run hX 60 _ _ _ _ ?_⟩
  conv => whnf
  rw [e1]
  refine ⟨fun c => absurd c (nI_nm (by omega)), fun _ => ?_⟩
  conv => whnf
  refine ⟨fun c => absurd c (nI_pos (by omega)), fun _ => ?_⟩
  conv => whnf
  rw [e4]
  refine ⟨fun c => absurd c (nI_ge ht (by omega)), fun _ => ?_⟩
  conv => whnf
  refine ⟨fun c => absurd c q0, fun _ => ?_⟩
  conv => whnf
  refine ⟨fun _ => ?_, fun c => absurd q4 c⟩
  conv => whnf
  refine ⟨fun c => absurd c (nI_pos (by omega)), fun _ => ?_⟩
  conv => whnf
  refine ⟨fun c => absurd c (nI_nlt (a := 1) (b := r) (by omega) (by decide)), fun _ => ?_⟩
  conv => whnf
  refine ⟨fun c => absurd c (nI_pos (by omega)), fun _ => ?_⟩
  conv => whnf
  refine ⟨fun _ => ?_, fun cc => absurd (nI_le (a := c) (b := 1) (by omega) (by decide)) cc⟩
  conv => whnf
  rw [sh2 t (by omega), mx_s r hr t (by omega), mx_s c hc t (by omega)]
  refine am_c1 (ct_mpart (d := d) e6 w8 e7 k60 ht hr hc (fun j hj => (hn.1 j hj).1) hs) ?_
  conv => whnf
  exact ⟨trivial, rfl, rfl⟩
/-- what mixed takes -/
def mx_ok (w : Nat) (p r c : Int32) : Prop := (¬ p < 0 ∧ ¬ nI w ≤ p) ∧ (¬ r < 0 ∧ ¬ 2 ≤ r) ∧ (¬ c < 0 ∧ ¬ 2 ≤ c)
theorem i32_1 (r : Int32) : ¬ 2 ≤ r ↔ r ≤ 1 := by
  rw [Int32.le_iff_toInt_le, Int32.le_iff_toInt_le]
  have h1 : (2 : Int32).toInt = 2 := rfl
  have h2 : (1 : Int32).toInt = 1 := rfl
  rw [h1, h2]
  omega
def mx_no (M : mm_M) (p r c q : Int32) : Prop := (M.1 17 5 = -1 ∧ M.1 108 65 = 0) ∨ ∃ c0 w k xs, (ru_s M c0 w k ∧ ru_n M w k xs) ∧ (¬ mx_ok w p r c ∨ q < 0 ∨ ¬ q ≤ 4)
set_option maxRecDepth 100000 in
theorem mx_x0 {p r c q : Int32} (h : mx_no M p r c q) : am_M 999 true nm_X11_mixed [aR 0, aI p, aI r, aI c, aI q] M (fun r M' => r = .inr "java/util/NoSuchElementException" ∧ M' = M) := by
  refine ⟨rfl, rfl, rfl, fun X hX => am_run hX 60 _ _ _ _ ?_⟩
  conv => whnf
  refine ⟨fun c => ?_, fun c => ?_⟩
  · conv => whnf
    exact ⟨⟨by decide, rfl⟩, rfl, rfl⟩
  · rcases h with h | ⟨c9, w, k, xs, ⟨h, _⟩, hx⟩
    · exact absurd h.1 c
    · conv => whnf
      refine ⟨fun c1 => ?_, fun c1 => ?_⟩
      · conv => whnf
        exact ⟨⟨by decide, rfl⟩, rfl, rfl⟩
      conv => whnf
      rw [h.2.2.2.2.2.2.2.1]
      refine ⟨fun c2 => ?_, fun c2 => ?_⟩
      · conv => whnf
        exact ⟨⟨by decide, rfl⟩, rfl, rfl⟩
      conv => whnf
      refine ⟨fun c3 => ?_, fun c3 => ?_⟩
      · conv => whnf
        exact ⟨⟨by decide, rfl⟩, rfl, rfl⟩
      conv => whnf
      refine ⟨fun c4 => ?_, fun c4 => ?_⟩
      · conv => whnf
        refine ⟨fun c5 => ?_, fun c5 => ?_⟩
        · conv => whnf
          exact ⟨⟨by decide, rfl⟩, rfl, rfl⟩
        conv => whnf
        refine ⟨fun c6 => ?_, fun c6 => ?_⟩
        · conv => whnf
          exact ⟨⟨by decide, rfl⟩, rfl, rfl⟩
        conv => whnf
        refine ⟨fun c7 => ?_, fun c7 => ?_⟩
        · conv => whnf
          exact ⟨⟨by decide, rfl⟩, rfl, rfl⟩
        conv => whnf
        refine ⟨fun c8 => ?_, fun c8 => ?_⟩
        · exfalso
          rcases hx with hx | hx | hx
          · exact hx ⟨⟨c1, c2⟩, ⟨c5, (i32_1 r).mpr (Int32.not_lt.mp c6)⟩, ⟨c7, (i32_1 _).mpr c8⟩⟩
          · exact c3 hx
          · exact hx c4
        · conv => whnf
          exact ⟨⟨by decide, rfl⟩, rfl, rfl⟩
      · conv => whnf
        exact ⟨⟨by decide, rfl⟩, rfl, rfl⟩
set_option maxRecDepth 100000 in
theorem mr_l {P : am_Q} {X : am_X} {w k t r c : Nat} {xs : Nat → R4} {q : Int32} (hX : am_K (d + 4) false nm_X12_mixed P X) (hw : M.1 108 71 = nI w) (w8 : w ≤ 8) (k60 : k ≤ 60) (ht : t < w) (hr : r < 2) (hc : c < 2) (hn : ru_n M w k xs) (hT : ∀ i, i < 2 ^ w → bd (mxT xs t r c i)) (hS : ∀ i, i ≤ 2 ^ w → bd (sR (mxT xs t r c) i)) (hK : ∀ q' o f, X 107 [some (aR 108), some (aI (nI t)), some (aI (nI r)), some (aI (nI c)), some (aI q), some (aI 1), some (aI (nI (2 ^ w)))] [] (w4 M q' o f (ov (M.2 153) (red (2 * k) (sR (mxT xs t r c) (2 ^ w))).1 (red (2 * k) (sR (mxT xs t r c) (2 ^ w))).2))) : ∀ (m i : Nat), i + m = 2 ^ w → ∀ q' o f, X 51 [some (aR 108), some (aI (nI t)), some (aI (nI r)), some (aI (nI c)), some (aI q), some (aI 1), some (aI (nI i))] [] (w4 M q' o f (ov (M.2 153) (red (2 * k) (sR (mxT xs t r c) i)).1 (red (2 * k) (sR (mxT xs t r c) i)).2)) := by
  have h8 := w256 w8
  intro m
  induction m with
  | zero =>
    intro i hi q' o f
    have hi : i = 2 ^ w := by omega
    subst hi
    refine am_run hX 2 _ _ _ _ ?_
    conv => whnf
    refine ⟨fun c => absurd c (by decide), fun _ => ?_⟩
    refine am_run hX 6 _ _ _ _ ?_
    conv => whnf
    rw [show (w4 M q' o f (ov (M.2 153) (red (2 * k) (sR (mxT xs t r c) (2 ^ w))).1 (red (2 * k) (sR (mxT xs t r c) (2 ^ w))).2)).1 108 71 = nI w from hw, sh2 w (by omega)]
    exact ⟨fun _ => hK _ _ _, fun c => absurd (nI_le (by omega) (by omega)) c⟩
  | succ m ih =>
    intro i hi q' o f
    have ih := ih (i + 1) (by omega)
    simp only [sR] at ih
    have hi2 : i < 2 ^ w := by omega
    refine am_run hX 2 _ _ _ _ ?_
    conv => whnf
    refine ⟨fun c => absurd c (by decide), fun _ => ?_⟩
    refine am_run hX 6 _ _ _ _ ?_
    conv => whnf
    rw [show (w4 M q' o f (ov (M.2 153) (red (2 * k) (sR (mxT xs t r c) i)).1 (red (2 * k) (sR (mxT xs t r c) i)).2)).1 108 71 = nI w from hw, sh2 w (by omega)]
    refine ⟨fun c => absurd c (nI_ge (by omega) (by omega)), fun _ => ?_⟩
    refine am_run hX 6 _ _ _ _ ?_
    conv => whnf
    rw [nI_sh (by omega) t (by omega), nI_m1, show (0 : Int32) = nI 0 from rfl, nI_eq (by omega) (by omega)]
    refine ⟨fun cc => ?_, fun cc => ?_⟩
    · have eT : mxT xs t r c i = mu (cj (xs (i ^^^ c * 2 ^ t))) (xs (i ^^^ r * 2 ^ t)) := if_pos cc
      have b1 := hT i hi2
      have b2 := hS (i + 1) (by omega)
      simp only [sR] at b2
      rw [eT] at b1 b2 ih
      have h1 := xq_lt hi2 (mx_b ht hc)
      have h2 := xq_lt hi2 (mx_b ht hr)
      have hr1 := (at_rf (by have := (vr_red k (xs (i ^^^ c * 2 ^ t))).1; omega)).mp (hn.1 _ h1).2
      have hr2 := (at_rf (by have := (vr_red k (xs (i ^^^ r * 2 ^ t))).1; omega)).mp (hn.1 _ h2).2
      refine am_run hX 18 _ _ _ _ ?_
      conv => whnf
      rw [mx_s r hr t (by omega), mx_s c hc t (by omega), nI_or, nI_or, mx_o (by omega) (by omega) hc cc, mx_o (by omega) (by omega) hr cc, show (5 : Int32) = nI 5 from rfl, nI_mul]
      refine am_cq (ct_prodR150 (d := d) (M := w4 M q' o f (ov (M.2 153) (red (2 * k) (sR (mxT xs t r c) i)).1 (red (2 * k) (sR (mxT xs t r c) i)).2)) (Z := sR (mxT xs t r c) i) (by omega) (by omega) (by omega) hr1 hr2 (vr_red k (xs (i ^^^ r * 2 ^ t))) (at_ov _ _ _) b1 b2) ?_
      rintro r' M' ⟨rfl, o', f', rfl⟩
      refine ⟨none, rfl, ?_⟩
      rw [w4_a, show ∀ q1 o1 f1 s1, (w4 M q1 o1 f1 s1).2 153 = s1 from fun _ _ _ _ => rfl, ov_ov]
      conv => whnf
      rw [nI_1]
      exact ih _ _ _
    · refine am_run hX 3 _ _ _ _ ?_
      conv => whnf
      rw [nI_1]
      rw [show mxT xs t r c i = (0, 0, 0, 0) from if_neg cc, ra_0] at ih
      exact ih _ _ _
set_option maxRecDepth 100000 in
theorem mx_ml {X : am_X} {P : am_Q} {q : Int32} {x : R4 × Nat} {b p r c i : Int32} (hX : am_K (d + 4) false nm_X12_mixed P X) (hl : x.2 < 2 ^ 31) (q' o f : Nat → Int64) (h : (b = 1 ∧ ¬ q < 0 ∧ q ≤ 4 ∧ ∀ f', P (.inl (some (aJ (rp x q)))) (th0 (w4 M q' o f' (ov g x.1 x.2)))) ∨ ((b = 0 ∨ q < 0 ∨ 4 < q) ∧ ∀ f', P (.inl (some (aJ 0))) (th1 (w4 M q' o f' (ov g x.1 x.2))))) : X 107 [some (aR 108), some (aI p), some (aI r), some (aI c), some (aI q), some (aI b), some (aI i)] [] (w4 M q' o f (ov g x.1 x.2)) := by
  refine am_run hX 30 _ _ _ _ ?_
  conv => whnf
  refine am_c0 (ct_ld153 (d := d + 3) (a := 0) (by omega) (at_ov _ _ _)) ?_
  conv => whnf
  rcases h with ⟨rfl, q0, q4, h⟩ | ⟨hq, h⟩
  · refine am_c1 (ct_tell1 (d := d + 3) q0 q4) ?_
    rw [mm_l2, ov_rp hl q0 q4, w4_f]
    conv => whnf
    exact ⟨trivial, h _⟩
  · refine am_c1 (ct_tell0 (d := d + 3) hq) ?_
    rw [w4_f]
    conv => whnf
    exact ⟨trivial, h _⟩
set_option maxRecDepth 100000 in
theorem mx_m1 {c0 w k t r c : Nat} {xs : Nat → R4} {q : Int32} {P : am_Q} (h : ru_s M c0 w k) (hn : ru_n M w k xs) (ht : t < w) (hr : r < 2) (hc : c < 2) (hT : ∀ i, i < 2 ^ w → bd (mxT xs t r c i)) (hS : ∀ i, i ≤ 2 ^ w → bd (sR (mxT xs t r c) i)) (hP : (¬ q < 0 ∧ q ≤ 4 ∧ ∀ q' o f s', P (.inl (some (aJ (rp (red (2 * k) (sR (mxT xs t r c) (2 ^ w))) q)))) (th0 (w4 M q' o f s'))) ∨ ((q < 0 ∨ 4 < q) ∧ ∀ q' o f s', P (.inl (some (aJ 0))) (th1 (w4 M q' o f s')))) : am_M (d + 5) false nm_X12_mixed [aR 108, aI (nI t), aI (nI r), aI (nI c), aI q] M P := by
  obtain ⟨c20, w1, w8, k60, e1, e2, e3, e4, e5, e6, e7, _⟩ := h
  have hw := w256 w8
  have hl := (vr_red (2 * k) (sR (mxT xs t r c) (2 ^ w))).1
  have z : red (2 * k) (sR (mxT xs t r c) 0) = ((0, 0, 0, 0), 0) := red_0 _
  refine ⟨rfl, rfl, rfl, fun X hX => am_run hX 3 _ _ _ _ ?_⟩
  conv => whnf
  rw [e2]
  refine ⟨fun c => absurd c (by decide), fun _ => ?_⟩
  refine am_run hX 2 _ _ _ _ ?_
  conv => whnf
  refine ⟨fun c => absurd c (nI_pos (by omega)), fun _ => ?_⟩
  refine am_run hX 4 _ _ _ _ ?_
  conv => whnf
  rw [e5]
  refine ⟨fun c => absurd c (nI_ge ht (by omega)), fun _ => ?_⟩
  refine am_run hX 2 _ _ _ _ ?_
  conv => whnf
  refine ⟨fun c => absurd c (nI_pos (by omega)), fun _ => ?_⟩
  refine am_run hX 3 _ _ _ _ ?_
  conv => whnf
  refine ⟨fun c => absurd c (nI_ge (a := r) (b := 2) hr (by decide)), fun _ => ?_⟩
  refine am_run hX 2 _ _ _ _ ?_
  conv => whnf
  refine ⟨fun c => absurd c (nI_pos (by omega)), fun _ => ?_⟩
  refine am_run hX 3 _ _ _ _ ?_
  conv => whnf
  refine ⟨fun cc => absurd cc (nI_ge (a := c) (b := 2) hc (by decide)), fun _ => ?_⟩
  refine am_run hX 7 _ _ _ _ ?_
  conv => whnf
  refine am_c0 (ct_clr (d := d + 3)) ?_
  rw [w4_s]
  conv => whnf
  have key := mr_l (d := d) (M := M) (q := q) hX e5 w8 k60 ht hr hc hn hT hS ?_ (2 ^ w) 0 (by omega) (M.2 152) (M.2 119) (M.2 118)
  · rw [z] at key
    exact key
  · intro q' o f
    refine mx_ml hX (by omega) q' o f ?_
    rcases hP with ⟨q0, q4, hP⟩ | ⟨hq, hP⟩
    · exact Or.inl ⟨rfl, q0, q4, fun f' => hP _ _ _ _⟩
    · exact Or.inr ⟨Or.inr hq, fun f' => hP _ _ _ _⟩
set_option maxRecDepth 100000 in
theorem mx_mz {X : am_X} {P : am_Q} {p r c q : Int32} (hX : am_K (d + 4) false nm_X12_mixed P X) (hP : ∀ q' o f s', P (.inl (some (aJ 0))) (th1 (w4 M q' o f s'))) : X 41 [some (aR 108), some (aI p), some (aI r), some (aI c), some (aI q), none, none] [] M := by
  refine am_run hX 6 _ _ _ _ ?_
  conv => whnf
  refine am_c0 (ct_clr (d := d + 3)) ?_
  rw [w4_s]
  conv => whnf
  refine am_run hX 2 _ _ _ _ ?_
  conv => whnf
  refine ⟨fun _ => ?_, fun c => absurd rfl c⟩
  exact mx_ml (x := ((0, 0, 0, 0), 0)) hX (by decide) _ _ _ (Or.inr ⟨Or.inl rfl, fun f' => hP _ _ _ _⟩)
theorem two_n {s : Int32} (h : ¬ s < 0 ∧ ¬ 2 ≤ s) : ∃ a, a < 2 ∧ s = nI a := by
  obtain ⟨a, ha, rfl⟩ := nI_of h.1
  refine ⟨a, ?_, rfl⟩
  apply Decidable.byContradiction
  intro hc
  exact h.2 (nI_le (a := 2) (by omega) ha)
theorem wire_n {s : Int32} {w : Nat} (hw : w ≤ 8) (h : ¬ s < 0 ∧ ¬ nI w ≤ s) : ∃ a, a < w ∧ s = nI a := by
  obtain ⟨a, ha, rfl⟩ := nI_of h.1
  refine ⟨a, ?_, rfl⟩
  apply Decidable.byContradiction
  intro hc
  exact h.2 (nI_le (by omega) ha)
set_option maxRecDepth 100000 in
theorem mx_m0 {p r c q : Int32} {P : am_Q} (h : mx_no M p r c q) (hP : ∀ q' o f s', P (.inl (some (aJ 0))) (th1 (w4 M q' o f s'))) : am_M (d + 5) false nm_X12_mixed [aR 108, aI p, aI r, aI c, aI q] M P := by
  rcases h with h | ⟨c9, w, k, xs, ⟨h, hn⟩, hx⟩
  · refine ⟨rfl, rfl, rfl, fun X hX => am_run hX 3 _ _ _ _ ?_⟩
    conv => whnf
    refine ⟨fun _ => mx_mz hX hP, fun c => absurd h.2 c⟩
  · by_cases ho : mx_ok w p r c
    · obtain ⟨t, ht, rfl⟩ := wire_n h.2.2.1 ho.1
      obtain ⟨a, ha, rfl⟩ := two_n ho.2.1
      obtain ⟨b, hb, rfl⟩ := two_n ho.2.2
      obtain ⟨hT, hS⟩ := mx_B ht ha hb h hn
      refine mx_m1 h hn ht ha hb hT hS (Or.inr ⟨?_, hP⟩)
      rcases hx with hx | hx | hx
      · exact absurd ho hx
      · exact Or.inl hx
      · exact Or.inr (Int32.not_le.mp hx)
    · refine ⟨rfl, rfl, rfl, fun X hX => am_run hX 3 _ _ _ _ ?_⟩
      conv => whnf
      refine ⟨fun _ => mx_mz hX hP, fun _ => ?_⟩
      refine am_run hX 2 _ _ _ _ ?_
      conv => whnf
      refine ⟨fun _ => mx_mz hX hP, fun c1 => ?_⟩
      refine am_run hX 4 _ _ _ _ ?_
      conv => whnf
      rw [h.2.2.2.2.2.2.2.2.1]
      refine ⟨fun _ => mx_mz hX hP, fun c2 => ?_⟩
      refine am_run hX 2 _ _ _ _ ?_
      conv => whnf
      refine ⟨fun _ => mx_mz hX hP, fun c3 => ?_⟩
      refine am_run hX 3 _ _ _ _ ?_
      conv => whnf
      refine ⟨fun _ => mx_mz hX hP, fun c4 => ?_⟩
      refine am_run hX 2 _ _ _ _ ?_
      conv => whnf
      refine ⟨fun _ => mx_mz hX hP, fun c5 => ?_⟩
      refine am_run hX 3 _ _ _ _ ?_
      conv => whnf
      exact ⟨fun _ => mx_mz hX hP, fun c6 => absurd ⟨⟨c1, c2⟩, ⟨c3, c4⟩, ⟨c5, c6⟩⟩ ho⟩
end MIX
section MXR
variable {ac : Nat → ClassId} {lo : Nat} {ad as : Nat → Nat} {b L : Nat} {xs : Nat → Int32} {hp : mm_M → Nat → xm_H} {I J : mm_M → Prop}
theorem pr_mixed (H : mm_L ac lo hp) (h1 : ∀ M, I M → ru_x M) (hJ : ∀ M g v q o f s, I M → J (th0 (w4 (lt_o (mm_l M 19 g) v) q o f s))) (hJ1 : ∀ M q o f s, I M → J (th1 (w4 M q o f s))) (p0 p1 p2 p3 : Int32) : la_TJ ac lo ad as b L xs hp I J nm_L_mixed nm_X12_mixed [.int p0, .int p1, .int p2, .int p3] := by
  refine lt_mixed H p0 p1 p2 p3 fun M hI => ?_
  have hno : mx_no M p0 p1 p2 p3 → am_M 999 true nm_X11_mixed (aR 0 :: [aI p0, aI p1, aI p2, aI p3]) M (fun r M1 => (∃ v, r = .inl (some (aJ v)) ∧ am_M 1000 false nm_X12_mixed (aR 108 :: [aI p0, aI p1, aI p2, aI p3]) (lt_o M1 v) (fun r' M2 => r' = .inl (some (aJ v)) ∧ M2.1 108 0 = 0 ∧ M2.2 202 0 = v ∧ J M2)) ∨ (r = .inr "java/util/NoSuchElementException" ∧ am_M 1000 false nm_X12_mixed (aR 108 :: [aI p0, aI p1, aI p2, aI p3]) M1 (fun r' M2 => (∃ w, r' = .inl (some (aJ w))) ∧ M2.1 108 0 = 1 ∧ J M2))) := fun hx => by
    refine am_wk (mx_x0 hx) fun r M1 e => Or.inr ⟨e.1, ?_⟩
    rw [e.2]
    exact mx_m0 (d := 995) hx (fun q' o f s' => ⟨⟨0, rfl⟩, by simp [th1, mm_i, upd], hJ1 M q' o f s' hI⟩)
  rcases h1 M hI with h | ⟨c, w, k, x, h, hn⟩
  · exact hno (Or.inl h)
  · by_cases hx : ¬ mx_ok w p0 p1 p2 ∨ p3 < 0 ∨ ¬ p3 ≤ 4
    · exact hno (Or.inr ⟨c, w, k, x, ⟨h, hn⟩, hx⟩)
    · have ho : mx_ok w p0 p1 p2 := Classical.byContradiction fun c => hx (Or.inl c)
      have q0 : ¬ p3 < 0 := fun c => hx (Or.inr (Or.inl c))
      have q4 : p3 ≤ 4 := Decidable.byContradiction fun c => hx (Or.inr (Or.inr c))
      obtain ⟨t, ht, rfl⟩ := wire_n h.2.2.1 ho.1
      obtain ⟨r, hr, rfl⟩ := two_n ho.2.1
      obtain ⟨c', hc, rfl⟩ := two_n ho.2.2
      obtain ⟨hT, hS⟩ := mx_B ht hr hc h hn
      refine am_wk (mx_x1 (d := 995) h hn ht hr hc (hS _ (Nat.le_refl _)) q0 q4 true) fun r M1 e => Or.inl ⟨_, e.1, ?_⟩
      rw [e.2]
      obtain ⟨h', hn'⟩ := ru_lt (s4 (M.2 19) (sR (mxT x t _ c') (2 ^ w))) (rp (red (2 * k) (sR (mxT x t _ c') (2 ^ w))) p3) ⟨h, hn⟩
      exact mx_m1 (d := 995) h' hn' ht hr hc hT hS (Or.inl ⟨q0, q4, fun q' o f s' => ⟨rfl, by simp [th0, mm_i, upd], by simp [th0, w4, lt_o, mm_i, mm_l, vp_updL], hJ M _ _ q' o f s' hI⟩⟩)
end MXR
