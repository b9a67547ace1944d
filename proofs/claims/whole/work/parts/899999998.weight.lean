/-! THE PAIR weight -/
/-- the RUN's STATE as a row of ROOTS over one power, with the sum of the squares -/
def ru_n (M : mm_M) (w k : Nat) (xs : Nat → R4) : Prop := (∀ j, j < 2 ^ w → rt_at M 20 j (xs j) ∧ rf_at M 150 j (red k (xs j))) ∧ sI (fun i => nrm (xs i)) (2 ^ w) ≤ 2 ^ k
def ru_x (M : mm_M) : Prop := (M.1 17 5 = -1 ∧ M.1 108 65 = 0) ∨ ∃ c w k xs, ru_s M c w k ∧ ru_n M w k xs
theorem ra_0 (s : R4) : ra s (0, 0, 0, 0) = s := by
  obtain ⟨a, b, c, d⟩ := s
  simp only [ra, Prod.mk.injEq]
  omega
theorem sb_S {T : Nat → R4} {F : Nat → Int} {N : Nat} (h0 : ∀ i, i < N → 0 ≤ F i) (h1 : ∀ i, i < N → lm (F i) (T i)) (hs : sI F N ≤ 2 ^ 62) {i : Nat} (hi : i ≤ N) : bd (sR T i) := by
  have e : N = i + (N - i) := by omega
  have h := sI_mono (F := F) i (N - i) (fun j hj => h0 j (by omega))
  rw [← e] at h
  exact lm_bd (lm_le (sR_lm i fun j hj => h1 j (by omega)) (by omega))
theorem sb_T {T : Nat → R4} {F : Nat → Int} {N : Nat} (h0 : ∀ i, i < N → 0 ≤ F i) (h1 : ∀ i, i < N → lm (F i) (T i)) (hs : sI F N ≤ 2 ^ 62) {i : Nat} (hi : i < N) : bd (T i) := lm_bd (lm_le (h1 i hi) (by have := sI_at N h0 i hi; omega))
theorem lm_0 {b : Int} (h : 0 ≤ b) : lm b (0, 0, 0, 0) := by
  simp only [lm]
  omega
theorem p60 {k : Nat} (h : k ≤ 60) : (2 : Int) ^ k ≤ 2 ^ 60 := by
  have : (2 : Nat) ^ k ≤ 2 ^ 60 := Nat.pow_le_pow_right (by decide) h
  have e : ((2 ^ k : Nat) : Int) = (2 : Int) ^ k := Int.natCast_pow 2 k
  rw [← e]
  omega
/-- a set of WIRES, as the class and as the reference look at it -/
theorem nI_any (s : Int32) : ∃ n, n < 2 ^ 32 ∧ s = nI n := ⟨s.toBitVec.toNat, s.toBitVec.isLt, by
  apply Int32.toBitVec_inj.mp
  show s.toBitVec = BitVec.ofNat 32 s.toBitVec.toNat
  rw [BitVec.ofNat_toNat, BitVec.setWidth_eq]⟩
theorem is_set (s : Int32) {w : Nat} (hw : w ≤ 8) : (s.toUInt32 >>> ((nI w).toUInt32 &&& Int32.toUInt32 31)).toInt32 = 0 ↔ (¬ s < 0 ∧ ¬ nI (2 ^ w) ≤ s) := by
  obtain ⟨n, hn, rfl⟩ := nI_any s
  have h8 := w256 hw
  have hp := Nat.two_pow_pos w
  rw [nI_us hn w (by omega)]
  have hd : n / 2 ^ w < 2 ^ 32 := Nat.lt_of_le_of_lt (Nat.div_le_self _ _) hn
  constructor
  · intro h
    have hl : n < 2 ^ w := by
      apply Decidable.byContradiction
      intro hc
      have h1 : 0 < n / 2 ^ w := Nat.div_pos (by omega) hp
      have h2 : (nI (n / 2 ^ w)).toBitVec.toNat = n / 2 ^ w := by
        show (BitVec.ofNat 32 (n / 2 ^ w)).toNat = _
        rw [BitVec.toNat_ofNat, Nat.mod_eq_of_lt hd]
      rw [h] at h2
      have h3 : (0 : Int32).toBitVec.toNat = 0 := rfl
      omega
    exact ⟨nI_pos (by omega), nI_ge hl (by omega)⟩
  · rintro ⟨h1, h2⟩
    have hl : n < 2 ^ w := by
      obtain ⟨m, hm, e⟩ := nI_of h1
      have e2 : n = m := by
        have h3 : (nI n).toBitVec.toNat = n := by
          show (BitVec.ofNat 32 n).toNat = _
          rw [BitVec.toNat_ofNat, Nat.mod_eq_of_lt hn]
        have h4 : (nI m).toBitVec.toNat = m := by
          show (BitVec.ofNat 32 m).toNat = _
          rw [BitVec.toNat_ofNat, Nat.mod_eq_of_lt (by omega)]
        rw [e, h4] at h3
        exact h3.symm
      subst e2
      apply Decidable.byContradiction
      intro hc
      exact h2 (nI_le (by omega) hm)
    rw [Nat.div_eq_of_lt hl]
    rfl
/-- what is added at each place -/
def wtT (xs : Nat → R4) (s v : Int32) (i : Nat) : R4 := if nI i &&& s = v then mu (cj (xs i)) (xs i) else (0, 0, 0, 0)
theorem wt_cj (xs : Nat → R4) (s v : Int32) (n : Nat) : cj (sR (wtT xs s v) n) = sR (wtT xs s v) n := by
  rw [sR_cj]
  refine sR_ext n fun i _ => ?_
  unfold wtT
  by_cases h : nI i &&& s = v
  · rw [if_pos h, mu_cj, cj_cj, mu_c]
  · rw [if_neg h]
    rfl
theorem wt_lm (xs : Nat → R4) (s v : Int32) (i : Nat) : lm (2 * nrm (xs i)) (wtT xs s v i) := by
  unfold wtT
  by_cases h : nI i &&& s = v
  · rw [if_pos h]
    have := lm_mu (cj (xs i)) (xs i)
    rw [nrm_cj] at this
    exact lm_le this (by omega)
  · rw [if_neg h]
    have := nrm0 (xs i)
    exact lm_0 (by omega)
theorem sI_2 (F : Nat → Int) (n : Nat) : sI (fun i => 2 * F i) n = 2 * sI F n := by
  have e : (fun i => 2 * F i) = fun i => F i + F i := by
    funext i
    omega
  rw [e, sI_add]
  omega
section WGT
variable {d : Nat} {M : mm_M} {g : Nat → Int64}
set_option maxRecDepth 100000 in
theorem wp_l {P : am_Q} {X : am_X} {N : Nat} {xs : Nat → R4} {s v q : Int32} (hX : am_K (d + 2) false nm_X6_weightPart P X) (hN : M.1 18 2 = nI N) (hN2 : N ≤ 256) (hx : ∀ j, j < N → rt_at M 20 j (xs j)) (hK : X 40 [some (aR 18), some (aI s), some (aI v), some (aI q), some (aI (nI N))] [] (mm_l M 19 (s4 g (sR (wtT xs s v) N)))) : ∀ (m i : Nat), i + m = N → X 7 [some (aR 18), some (aI s), some (aI v), some (aI q), some (aI (nI i))] [] (mm_l M 19 (s4 g (sR (wtT xs s v) i))) := by
  intro m
  induction m with
  | zero =>
    intro i hi
    have hi : i = N := by omega
    subst hi
    refine am_run hX 4 _ _ _ _ ?_
    conv => whnf
    rw [show (mm_l M 19 (s4 g (sR (wtT xs s v) i))).1 18 2 = nI i from hN]
    refine ⟨fun _ => hK, fun c => absurd (nI_le (by omega) (by omega)) c⟩
  | succ m ih =>
    intro i hi
    have ih := ih (i + 1) (by omega)
    simp only [sR] at ih
    refine am_run hX 4 _ _ _ _ ?_
    conv => whnf
    rw [show (mm_l M 19 (s4 g (sR (wtT xs s v) i))).1 18 2 = nI N from hN]
    refine ⟨fun c => absurd c (nI_ge (by omega) (by omega)), fun _ => ?_⟩
    refine am_run hX 5 _ _ _ _ ?_
    conv => whnf
    refine ⟨fun c => ?_, fun c => ?_⟩
    · refine am_run hX 2 _ _ _ _ ?_
      conv => whnf
      rw [nI_1]
      rw [show wtT xs s v i = (0, 0, 0, 0) from if_neg c, ra_0] at ih
      exact ih
    · have c : nI i &&& s = v := Decidable.byContradiction c
      refine am_run hX 8 _ _ _ _ ?_
      conv => whnf
      refine am_c0 (ct_prod19 (d := d) (e := 0) (by omega) (by omega) (by omega) (hx i (by omega)) (hx i (by omega))) ?_
      conv => whnf
      rw [nI_1]
      rw [show wtT xs s v i = mu (cj (xs i)) (xs i) from if_pos c] at ih
      exact ih
set_option maxRecDepth 100000 in
theorem ct_wpart {N k : Nat} {xs : Nat → R4} {s v q : Int32} (hN : M.1 18 2 = nI N) (hN2 : N ≤ 256) (hk : M.1 18 3 = nI k) (hk2 : k ≤ 60) (hx : ∀ j, j < N → rt_at M 20 j (xs j)) (hb : bd (sR (wtT xs s v) N)) : am_M (d + 3) false nm_X6_weightPart [aR 18, aI s, aI v, aI q] M (am_q1 (aJ (rq (rh k (sR (wtT xs s v) N).1 (sR (wtT xs s v) N).2.1) q)) (mm_l M 19 (s4 (M.2 19) (sR (wtT xs s v) N)))) := by
  have hbb := hb
  simp only [bd] at hbb
  refine ⟨rfl, rfl, rfl, fun X hX => am_run hX 4 _ _ _ _ ?_⟩
  conv => whnf
  refine am_c0 (ct_clear19 (d := d)) ?_
  conv => whnf
  refine wp_l (d := d) (M := M) (g := M.2 19) hX hN hN2 hx ?_ N 0 (by omega)
  refine am_run hX 30 _ _ _ _ ?_
  conv => whnf
  refine ⟨by first | exact i5_0 | exact i5_1 | exact i5_2 | exact i5_3 | exact i5_4 | exact i5_01 | exact i5_02 | exact i5_03 | exact i5_04 | exact i4_0 | exact i4_1 | exact i4_2 | exact i4_3 | decide, ?_⟩
  conv => whnf
  refine ⟨by first | exact i5_0 | exact i5_1 | exact i5_2 | exact i5_3 | exact i5_4 | exact i5_01 | exact i5_02 | exact i5_03 | exact i5_04 | exact i4_0 | exact i4_1 | exact i4_2 | exact i4_3 | decide, ?_⟩
  conv => whnf
  rw [mm_l2, show (mm_l M 19 (s4 (M.2 19) (sR (wtT xs s v) N))).1 18 3 = nI k from hk, k_0, k_1]
  refine am_c1 (ct_real (d := d + 1) (u := (sR (wtT xs s v) N).1) (v := (sR (wtT xs s v) N).2.1) q (by omega) (by omega) (by omega)) ?_
  conv => whnf
  exact ⟨trivial, rfl, rfl⟩
set_option maxRecDepth 100000 in
theorem ct_hasW (s : Int32) {w : Nat} (hw : M.1 17 6 = nI w) (h8 : w ≤ 8) : am_M (d + 1) false nm_X4_hasWires [aR 17, aI s] M (am_q1 (aI (if (¬ s < 0 ∧ ¬ nI (2 ^ w) ≤ s) then 1 else 0)) M) := by
  refine ⟨rfl, rfl, rfl, fun X hX => am_run hX 20 _ _ _ _ ?_⟩
  conv => whnf
  rw [hw, is_set s h8]
  refine ⟨fun c => ?_, fun c => ?_⟩
  · conv => whnf
    rw [if_neg c]
    exact ⟨rfl, rfl, rfl⟩
  · conv => whnf
    rw [if_pos (Decidable.byContradiction c)]
    exact ⟨rfl, rfl, rfl⟩
set_option maxRecDepth 100000 in
theorem ct_isSet (s : Int32) {w : Nat} (hw : M.1 108 71 = nI w) (h8 : w ≤ 8) : am_M (d + 1) false nm_X12_isSet [aR 108, aI s] M (am_q1 (aI (if (¬ s < 0 ∧ ¬ nI (2 ^ w) ≤ s) then 1 else 0)) M) := by
  refine ⟨rfl, rfl, rfl, fun X hX => am_run hX 20 _ _ _ _ ?_⟩
  conv => whnf
  refine ⟨fun c => ?_, fun c1 => ?_⟩
  · conv => whnf
    rw [if_neg (fun q => q.1 c)]
    exact ⟨rfl, rfl, rfl⟩
  · conv => whnf
    rw [hw, sh2 w (by omega)]
    refine ⟨fun c => ?_, fun c2 => ?_⟩
    · conv => whnf
      rw [if_neg (fun q => q.2 c)]
      exact ⟨rfl, rfl, rfl⟩
    · conv => whnf
      rw [if_pos ⟨c1, c2⟩]
      exact ⟨rfl, rfl, rfl⟩
/-- what weight takes, part by part -/
def wt_ok (w : Nat) (s v : Int32) : Prop := (¬ s < 0 ∧ ¬ nI (2 ^ w) ≤ s) ∧ v &&& (s ^^^ -1) = 0
set_option maxRecDepth 100000 in
theorem wt_x1 {c w k : Nat} {xs : Nat → R4} {s v q : Int32} (h : ru_s M c w k) (hn : ru_n M w k xs) (ho : wt_ok w s v) (hb : bd (sR (wtT xs s v) (2 ^ w))) (q0 : ¬ q < 0) (q2 : q ≤ 2) (t : Bool) : am_M (d + 4) t nm_X11_weight [aR 0, aI s, aI v, aI q] M (am_q1 (aJ (rq (rh k (sR (wtT xs s v) (2 ^ w)).1 (sR (wtT xs s v) (2 ^ w)).2.1) q)) (mm_l M 19 (s4 (M.2 19) (sR (wtT xs s v) (2 ^ w))))) := by
  obtain ⟨c20, w1, w8, k60, e1, e2, e3, e4, e5, e6, e7, _⟩ := h
  have hw := w256 w8
  refine ⟨rfl, rfl, rfl, fun X hX => am_run hX 60 _ _ _ _ ?_⟩
  conv => whnf
  rw [e1]
  refine ⟨fun c => absurd c (nI_nm (by omega)), fun _ => ?_⟩
  conv => whnf
  refine am_c1 (ct_hasW (d := d + 2) s e4 w8) ?_
  rw [if_pos ho.1]
  conv => whnf
  refine ⟨fun c => absurd c (by decide), fun _ => ?_⟩
  conv => whnf
  refine ⟨fun c => absurd ho.2 c, fun _ => ?_⟩
  conv => whnf
  refine ⟨fun c => absurd c q0, fun _ => ?_⟩
  conv => whnf
  refine ⟨fun _ => ?_, fun c => absurd q2 c⟩
  conv => whnf
  refine am_c1 (ct_wpart (d := d) e6 hw e7 k60 (fun j hj => (hn.1 j hj).1) hb) ?_
  conv => whnf
  exact ⟨trivial, rfl, rfl⟩
/-- what weight refuses -/
def wt_no (M : mm_M) (s v q : Int32) : Prop := (M.1 17 5 = -1 ∧ M.1 108 65 = 0) ∨ ∃ c w k xs, (ru_s M c w k ∧ ru_n M w k xs) ∧ (¬ wt_ok w s v ∨ q < 0 ∨ ¬ q ≤ 2)
set_option maxRecDepth 100000 in
theorem wt_x0 {s v q : Int32} (h : wt_no M s v q) : am_M 999 true nm_X11_weight [aR 0, aI s, aI v, aI q] M (fun r M' => r = .inr "java/util/NoSuchElementException" ∧ M' = M) := by
  refine ⟨rfl, rfl, rfl, fun X hX => am_run hX 60 _ _ _ _ ?_⟩
  conv => whnf
  refine ⟨fun c => ?_, fun c => ?_⟩
  · conv => whnf
    exact ⟨⟨by decide, rfl⟩, rfl, rfl⟩
  · rcases h with h | ⟨c9, w, k, xs, ⟨h, _⟩, hx⟩
    · exact absurd h.1 c
    · conv => whnf
      refine am_c1 (ct_hasW (d := 997) s h.2.2.2.2.2.2.2.1 h.2.2.1) ?_
      by_cases c1 : (¬ s < 0 ∧ ¬ nI (2 ^ w) ≤ s)
      · rw [if_pos c1]
        conv => whnf
        refine ⟨fun c => absurd c (by decide), fun _ => ?_⟩
        conv => whnf
        refine ⟨fun c2 => ?_, fun c2 => ?_⟩
        · conv => whnf
          exact ⟨⟨by decide, rfl⟩, rfl, rfl⟩
        · conv => whnf
          refine ⟨fun c3 => ?_, fun c3 => ?_⟩
          · conv => whnf
            exact ⟨⟨by decide, rfl⟩, rfl, rfl⟩
          · conv => whnf
            refine ⟨fun c4 => ?_, fun c4 => ?_⟩
            · rcases hx with hx | hx | hx
              · exact absurd ⟨c1, Decidable.byContradiction c2⟩ hx
              · exact absurd hx c3
              · exact absurd c4 hx
            · conv => whnf
              exact ⟨⟨by decide, rfl⟩, rfl, rfl⟩
      · rw [if_neg c1]
        conv => whnf
        refine ⟨fun _ => ?_, fun c => absurd rfl c⟩
        conv => whnf
        exact ⟨⟨by decide, rfl⟩, rfl, rfl⟩
set_option maxRecDepth 100000 in
theorem wr_l {P : am_Q} {X : am_X} {w k : Nat} {xs : Nat → R4} {s v q : Int32} (hX : am_K (d + 4) false nm_X12_weight P X) (hw : M.1 108 71 = nI w) (w8 : w ≤ 8) (k60 : k ≤ 60) (hn : ru_n M w k xs) (hT : ∀ i, i < 2 ^ w → bd (wtT xs s v i)) (hS : ∀ i, i ≤ 2 ^ w → bd (sR (wtT xs s v) i)) (hK : ∀ q' o f, X 81 [some (aR 108), some (aI s), some (aI v), some (aI q), some (aI 1), some (aI (nI (2 ^ w)))] [] (w4 M q' o f (ov (M.2 153) (red (2 * k) (sR (wtT xs s v) (2 ^ w))).1 (red (2 * k) (sR (wtT xs s v) (2 ^ w))).2))) : ∀ (m i : Nat), i + m = 2 ^ w → ∀ q' o f, X 37 [some (aR 108), some (aI s), some (aI v), some (aI q), some (aI 1), some (aI (nI i))] [] (w4 M q' o f (ov (M.2 153) (red (2 * k) (sR (wtT xs s v) i)).1 (red (2 * k) (sR (wtT xs s v) i)).2)) := by
  have h8 := w256 w8
  intro m
  induction m with
  | zero =>
    intro i hi q' o f
    have hi : i = 2 ^ w := by omega
    subst hi
    refine am_run hX 2 _ _ _ _ ?_
    conv => whnf
    refine ⟨fun c => absurd c (by decide), fun _ => ?_⟩
    refine am_run hX 6 _ _ _ _ ?_
    conv => whnf
    rw [show (w4 M q' o f (ov (M.2 153) (red (2 * k) (sR (wtT xs s v) (2 ^ w))).1 (red (2 * k) (sR (wtT xs s v) (2 ^ w))).2)).1 108 71 = nI w from hw, sh2 w (by omega)]
    exact ⟨fun _ => hK _ _ _, fun c => absurd (nI_le (by omega) (by omega)) c⟩
  | succ m ih =>
    intro i hi q' o f
    have ih := ih (i + 1) (by omega)
    simp only [sR] at ih
    refine am_run hX 2 _ _ _ _ ?_
    conv => whnf
    refine ⟨fun c => absurd c (by decide), fun _ => ?_⟩
    refine am_run hX 6 _ _ _ _ ?_
    conv => whnf
    rw [show (w4 M q' o f (ov (M.2 153) (red (2 * k) (sR (wtT xs s v) i)).1 (red (2 * k) (sR (wtT xs s v) i)).2)).1 108 71 = nI w from hw, sh2 w (by omega)]
    refine ⟨fun c => absurd c (nI_ge (by omega) (by omega)), fun _ => ?_⟩
    refine am_run hX 5 _ _ _ _ ?_
    conv => whnf
    refine ⟨fun c => ?_, fun c => ?_⟩
    · refine am_run hX 2 _ _ _ _ ?_
      conv => whnf
      rw [nI_1]
      rw [show wtT xs s v i = (0, 0, 0, 0) from if_neg c, ra_0] at ih
      exact ih _ _ _
    · have c : nI i &&& s = v := Decidable.byContradiction c
      have eT : wtT xs s v i = mu (cj (xs i)) (xs i) := if_pos c
      have b1 := hT i (by omega)
      have b2 := hS (i + 1) (by omega)
      simp only [sR] at b2
      rw [eT] at b1 b2 ih
      have hr := (at_rf (by have := (vr_red k (xs i)).1; omega)).mp (hn.1 i (by omega)).2
      refine am_run hX 10 _ _ _ _ ?_
      conv => whnf
      rw [show (5 : Int32) = nI 5 from rfl, nI_mul]
      refine am_cq (ct_prodR150 (d := d) (M := w4 M q' o f (ov (M.2 153) (red (2 * k) (sR (wtT xs s v) i)).1 (red (2 * k) (sR (wtT xs s v) i)).2)) (Z := sR (wtT xs s v) i) (by omega) (by omega) (by omega) hr hr (vr_red k (xs i)) (at_ov _ _ _) b1 b2) ?_
      rintro r M' ⟨rfl, o', f', rfl⟩
      refine ⟨none, rfl, ?_⟩
      rw [w4_a, show (w4 M q' o f (ov (M.2 153) (red (2 * k) (sR (wtT xs s v) i)).1 (red (2 * k) (sR (wtT xs s v) i)).2)).2 153 = ov (M.2 153) (red (2 * k) (sR (wtT xs s v) i)).1 (red (2 * k) (sR (wtT xs s v) i)).2 from rfl, ov_ov]
      conv => whnf
      rw [nI_1]
      exact ih _ _ _
set_option maxRecDepth 100000 in
theorem wt_ml {X : am_X} {P : am_Q} {q : Int32} {x : R4} {l : Nat} {b s v i : Int32} (hX : am_K (d + 4) false nm_X12_weight P X) (hb : bd x) (hl : l < 2 ^ 30) (q' o f : Nat → Int64) (h : (b = 1 ∧ ¬ q < 0 ∧ q ≤ 2 ∧ ∀ f', P (.inl (some (aJ (rq (rhs l x) q)))) (th0 (w4 M q' o f' (ov g x l)))) ∨ ((b = 0 ∨ q < 0 ∨ 2 < q) ∧ ∀ f', P (.inl (some (aJ 0))) (th1 (w4 M q' o f' (ov g x l))))) : X 81 [some (aR 108), some (aI s), some (aI v), some (aI q), some (aI b), some (aI i)] [] (w4 M q' o f (ov g x l)) := by
  refine am_run hX 30 _ _ _ _ ?_
  conv => whnf
  refine am_c0 (ct_ld153 (d := d + 3) (a := 0) (by omega) (at_ov _ _ _)) ?_
  conv => whnf
  rcases h with ⟨rfl, q0, q2, h⟩ | ⟨hq, h⟩
  · refine am_c1 (ct_tellr1 (d := d + 2) q0 q2 hl hb) ?_
    conv => whnf
    refine ⟨trivial, ?_⟩
    rw [w4_f]
    exact h _
  · refine am_c1 (ct_tellr0 (d := d + 3) hq) ?_
    conv => whnf
    refine ⟨trivial, ?_⟩
    rw [w4_f]
    exact h _
set_option maxRecDepth 100000 in
theorem wt_m1 {c w k : Nat} {xs : Nat → R4} {s v q : Int32} {P : am_Q} (h : ru_s M c w k) (hn : ru_n M w k xs) (ho : wt_ok w s v) (hT : ∀ i, i < 2 ^ w → bd (wtT xs s v i)) (hS : ∀ i, i ≤ 2 ^ w → bd (sR (wtT xs s v) i)) (hP : (¬ q < 0 ∧ q ≤ 2 ∧ ∀ q' o f s', P (.inl (some (aJ (rq (rh k (sR (wtT xs s v) (2 ^ w)).1 (sR (wtT xs s v) (2 ^ w)).2.1) q)))) (th0 (w4 M q' o f s'))) ∨ ((q < 0 ∨ 2 < q) ∧ ∀ q' o f s', P (.inl (some (aJ 0))) (th1 (w4 M q' o f s')))) : am_M (d + 5) false nm_X12_weight [aR 108, aI s, aI v, aI q] M P := by
  obtain ⟨c20, w1, w8, k60, e1, e2, e3, e4, e5, e6, e7, _⟩ := h
  have hw := w256 w8
  have hr := vr_rh (vr_red (2 * k) (sR (wtT xs s v) (2 ^ w))) (wt_cj xs s v (2 ^ w))
  have hl := (vr_red (2 * k) (sR (wtT xs s v) (2 ^ w))).1
  have hbb := vr_bd (vr_red (2 * k) (sR (wtT xs s v) (2 ^ w))) (hS _ (Nat.le_refl _))
  have z : red (2 * k) (sR (wtT xs s v) 0) = ((0, 0, 0, 0), 0) := red_0 _
  refine ⟨rfl, rfl, rfl, fun X hX => am_run hX 3 _ _ _ _ ?_⟩
  conv => whnf
  rw [e2]
  refine ⟨fun c => absurd c (by decide), fun _ => ?_⟩
  refine am_run hX 4 _ _ _ _ ?_
  conv => whnf
  refine am_c1 (ct_isSet (d := d + 3) s e5 w8) ?_
  rw [if_pos ho.1]
  conv => whnf
  refine ⟨fun c => absurd c (by decide), fun _ => ?_⟩
  refine am_run hX 6 _ _ _ _ ?_
  conv => whnf
  refine ⟨fun c => absurd ho.2 c, fun _ => ?_⟩
  refine am_run hX 7 _ _ _ _ ?_
  conv => whnf
  refine am_c0 (ct_clr (d := d + 3)) ?_
  rw [w4_s]
  conv => whnf
  have key := wr_l (d := d) (M := M) (s := s) (v := v) (q := q) hX e5 w8 k60 hn hT hS ?_ (2 ^ w) 0 (by omega) (M.2 152) (M.2 119) (M.2 118)
  · rw [z] at key
    exact key
  · intro q' o f
    refine wt_ml hX hbb (by omega) q' o f ?_
    rw [hr]
    rcases hP with ⟨q0, q2, hP⟩ | ⟨hq, hP⟩
    · exact Or.inl ⟨rfl, q0, q2, fun f' => hP _ _ _ _⟩
    · exact Or.inr ⟨Or.inr hq, fun f' => hP _ _ _ _⟩
set_option maxRecDepth 100000 in
theorem wt_mz {X : am_X} {P : am_Q} {s v q : Int32} (hX : am_K (d + 4) false nm_X12_weight P X) (hP : ∀ q' o f s', P (.inl (some (aJ 0))) (th1 (w4 M q' o f s'))) : X 27 [some (aR 108), some (aI s), some (aI v), some (aI q), none, none] [] M := by
  refine am_run hX 6 _ _ _ _ ?_
  conv => whnf
  refine am_c0 (ct_clr (d := d + 3)) ?_
  rw [w4_s]
  conv => whnf
  refine am_run hX 2 _ _ _ _ ?_
  conv => whnf
  refine ⟨fun _ => ?_, fun c => absurd rfl c⟩
  exact wt_ml hX (by simp [bd]) (by decide) _ _ _ (Or.inr ⟨Or.inl rfl, fun f' => hP _ _ _ _⟩)
set_option maxRecDepth 100000 in
theorem wt_m0 {s v q : Int32} {P : am_Q} (h : wt_no M s v q) (hP : ∀ q' o f s', P (.inl (some (aJ 0))) (th1 (w4 M q' o f s'))) (hB : ∀ c w k xs, ru_s M c w k → ru_n M w k xs → (∀ i, i < 2 ^ w → bd (wtT xs s v i)) ∧ ∀ i, i ≤ 2 ^ w → bd (sR (wtT xs s v) i)) : am_M (d + 5) false nm_X12_weight [aR 108, aI s, aI v, aI q] M P := by
  rcases h with h | ⟨c9, w, k, xs, ⟨h, hn⟩, hx⟩
  · refine ⟨rfl, rfl, rfl, fun X hX => am_run hX 3 _ _ _ _ ?_⟩
    conv => whnf
    refine ⟨fun _ => wt_mz hX hP, fun c => absurd h.2 c⟩
  · by_cases ho : wt_ok w s v
    · obtain ⟨hT, hS⟩ := hB _ _ _ _ h hn
      refine wt_m1 h hn ho hT hS (Or.inr ⟨?_, hP⟩)
      rcases hx with hx | hx | hx
      · exact absurd ho hx
      · exact Or.inl hx
      · exact Or.inr (Int32.not_le.mp hx)
    · refine ⟨rfl, rfl, rfl, fun X hX => am_run hX 3 _ _ _ _ ?_⟩
      conv => whnf
      refine ⟨fun _ => wt_mz hX hP, fun _ => ?_⟩
      refine am_run hX 4 _ _ _ _ ?_
      conv => whnf
      refine am_c1 (ct_isSet (d := d + 3) s h.2.2.2.2.2.2.2.2.1 h.2.2.1) ?_
      by_cases c1 : (¬ s < 0 ∧ ¬ nI (2 ^ w) ≤ s)
      · rw [if_pos c1]
        conv => whnf
        refine ⟨fun c => absurd c (by decide), fun _ => ?_⟩
        refine am_run hX 6 _ _ _ _ ?_
        conv => whnf
        exact ⟨fun _ => wt_mz hX hP, fun c2 => absurd ⟨c1, Decidable.byContradiction c2⟩ ho⟩
      · rw [if_neg c1]
        conv => whnf
        exact ⟨fun _ => wt_mz hX hP, fun c => absurd rfl c⟩
end WGT
theorem wt_B {M : mm_M} {c w k : Nat} {xs : Nat → R4} (s v : Int32) (h : ru_s M c w k) (hn : ru_n M w k xs) : (∀ i, i < 2 ^ w → bd (wtT xs s v i)) ∧ ∀ i, i ≤ 2 ^ w → bd (sR (wtT xs s v) i) := by
  have h60 := p60 h.2.2.2.1
  have hs : sI (fun i => 2 * nrm (xs i)) (2 ^ w) ≤ 2 ^ 62 := by
    rw [sI_2]
    have := hn.2
    omega
  have h0 : ∀ i, i < 2 ^ w → 0 ≤ (fun i => 2 * nrm (xs i)) i := fun i _ => by
    have := nrm0 (xs i)
    show 0 ≤ 2 * nrm (xs i)
    omega
  exact ⟨fun i hi => sb_T h0 (fun j _ => wt_lm xs s v j) hs hi, fun i hi => sb_S h0 (fun j _ => wt_lm xs s v j) hs hi⟩
section WGR
variable {ac : Nat → ClassId} {lo : Nat} {ad as : Nat → Nat} {b L : Nat} {xs : Nat → Int32} {hp : mm_M → Nat → xm_H} {I J : mm_M → Prop}
theorem ru_lt {M : mm_M} {c w k : Nat} {x : Nat → R4} (f : Nat → Int64) (v : Int64) (h : ru_s M c w k ∧ ru_n M w k x) : ru_s (lt_o (mm_l M 19 f) v) c w k ∧ ru_n (lt_o (mm_l M 19 f) v) w k x := h
theorem pr_weight (H : mm_L ac lo hp) (h1 : ∀ M, I M → ru_x M) (hJ : ∀ M g v q o f s, I M → J (th0 (w4 (lt_o (mm_l M 19 g) v) q o f s))) (hJ1 : ∀ M q o f s, I M → J (th1 (w4 M q o f s))) (p0 p1 p2 : Int32) : la_TJ ac lo ad as b L xs hp I J nm_L_weight nm_X12_weight [.int p0, .int p1, .int p2] := by
  refine lt_weight H p0 p1 p2 fun M hI => ?_
  have hno : wt_no M p0 p1 p2 → am_M 999 true nm_X11_weight (aR 0 :: [aI p0, aI p1, aI p2]) M (fun r M1 => (∃ v, r = .inl (some (aJ v)) ∧ am_M 1000 false nm_X12_weight (aR 108 :: [aI p0, aI p1, aI p2]) (lt_o M1 v) (fun r' M2 => r' = .inl (some (aJ v)) ∧ M2.1 108 0 = 0 ∧ M2.2 202 0 = v ∧ J M2)) ∨ (r = .inr "java/util/NoSuchElementException" ∧ am_M 1000 false nm_X12_weight (aR 108 :: [aI p0, aI p1, aI p2]) M1 (fun r' M2 => (∃ w, r' = .inl (some (aJ w))) ∧ M2.1 108 0 = 1 ∧ J M2))) := fun hx => by
    refine am_wk (wt_x0 hx) fun r M1 e => Or.inr ⟨e.1, ?_⟩
    rw [e.2]
    exact wt_m0 (d := 995) hx (fun q' o f s' => ⟨⟨0, rfl⟩, by simp [th1, mm_i, upd], hJ1 M q' o f s' hI⟩) (fun c w k x h hn => wt_B p0 p1 h hn)
  rcases h1 M hI with h | ⟨c, w, k, x, h, hn⟩
  · exact hno (Or.inl h)
  · by_cases hx : ¬ wt_ok w p0 p1 ∨ p2 < 0 ∨ ¬ p2 ≤ 2
    · exact hno (Or.inr ⟨c, w, k, x, ⟨h, hn⟩, hx⟩)
    · have ho : wt_ok w p0 p1 := Classical.byContradiction fun c => hx (Or.inl c)
      have q0 : ¬ p2 < 0 := fun c => hx (Or.inr (Or.inl c))
      have q2 : p2 ≤ 2 := Decidable.byContradiction fun c => hx (Or.inr (Or.inr c))
      obtain ⟨hT, hS⟩ := wt_B p0 p1 h hn
      refine am_wk (wt_x1 (d := 995) h hn ho (hS _ (Nat.le_refl _)) q0 q2 true) fun r M1 e => Or.inl ⟨_, e.1, ?_⟩
      rw [e.2]
      obtain ⟨h', hn'⟩ := ru_lt (s4 (M.2 19) (sR (wtT x p0 p1) (2 ^ w))) (rq (rh k (sR (wtT x p0 p1) (2 ^ w)).1 (sR (wtT x p0 p1) (2 ^ w)).2.1) p2) ⟨h, hn⟩
      exact wt_m1 (d := 995) h' hn' ho hT hS (Or.inl ⟨q0, q2, fun q' o f s' => ⟨rfl, by simp [th0, mm_i, upd], by simp [th0, w4, lt_o, mm_i, mm_l, vp_updL], hJ M _ _ q' o f s' hI⟩⟩)
end WGR
