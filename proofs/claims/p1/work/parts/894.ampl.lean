/-! the RUN's STATE as both have it; the pair amplitude -/
def rt_at (M : mm_M) (c i : Nat) (x : R4) : Prop := M.2 c (4 * i) = lI x.1 ∧ M.2 c (4 * i + 1) = lI x.2.1 ∧ M.2 c (4 * i + 2) = lI x.2.2.1 ∧ M.2 c (4 * i + 3) = lI x.2.2.2
def rf_at (M : mm_M) (c i : Nat) (y : R4 × Nat) : Prop := M.2 c (5 * i) = lI y.1.1 ∧ M.2 c (5 * i + 1) = lI y.1.2.1 ∧ M.2 c (5 * i + 2) = lI y.1.2.2.1 ∧ M.2 c (5 * i + 3) = lI y.1.2.2.2 ∧ M.2 c (5 * i + 4) = (nI y.2).toInt64
/-- the RUN, as far as its STATE goes -/
def ru_s (M : mm_M) (c w k : Nat) : Prop := c < 20 ∧ 1 ≤ w ∧ w ≤ 8 ∧ k ≤ 60 ∧ M.1 17 5 = nI c ∧ M.1 108 65 = 1 ∧ M.1 108 66 = nI c ∧ M.1 17 6 = nI w ∧ M.1 108 71 = nI w ∧ M.1 18 2 = nI (2 ^ w) ∧ M.1 18 3 = nI k ∧ ∀ j, j < 2 ^ w → ∃ x, bd x ∧ rt_at M 20 j x ∧ rf_at M 150 j (red k x)
def ru_iv (M : mm_M) : Prop := (M.1 17 5 = -1 ∧ M.1 108 65 = 0) ∨ ∃ c w k, ru_s M c w k
section AMQ
variable {d : Nat} {M : mm_M}
set_option maxRecDepth 100000 in
theorem ct_part18 {i k : Nat} {x : R4} (q : Int32) (hi : i < 256) (hx : rt_at M 20 i x) (hb : bd x) (hk : M.1 18 3 = nI k) (hk2 : k < 2 ^ 31) : am_M (d + 2) false nm_X6_partAt [aR 18, aI (nI i), aI q] M (am_q1 (aJ (rp (red k x) q)) M) := by
  have e4 : (4 : Int32) * nI i = nI (4 * i) := by rw [show (4 : Int32) = nI 4 from rfl, nI_mul]
  obtain ⟨x1, x2, x3, x4⟩ := hx
  refine ⟨rfl, rfl, rfl, fun X hX => am_run hX 60 _ _ _ _ ?_⟩
  conv => whnf
  rw [e4]
  refine ⟨vp_in_nI (by show _ < 1024; omega) (by decide), ?_⟩
  conv => whnf
  rw [e4, show (1 : Int32) = nI 1 from rfl, nI_add]
  refine ⟨vp_in_nI (by show _ < 1024; omega) (by decide), ?_⟩
  conv => whnf
  rw [e4, show (2 : Int32) = nI 2 from rfl, nI_add]
  refine ⟨vp_in_nI (by show _ < 1024; omega) (by decide), ?_⟩
  conv => whnf
  rw [e4, show (3 : Int32) = nI 3 from rfl, nI_add]
  refine ⟨vp_in_nI (by show _ < 1024; omega) (by decide), ?_⟩
  conv => whnf
  rw [nI_clamp (n := 4 * i) (by omega), nI_clamp (n := 4 * i + 1) (by omega), nI_clamp (n := 4 * i + 2) (by omega), nI_clamp (n := 4 * i + 3) (by omega), x1, x2, x3, x4, hk]
  refine am_c1 (ct_root (d := d) q hk2 hb) ?_
  conv => whnf
  exact ⟨trivial, rfl, rfl⟩
set_option maxRecDepth 100000 in
theorem ct_part105 {i k : Nat} {x : R4} (q : Int32) (hi : i < 64) (hx : rt_at M 107 i x) (hb : bd x) (hk : M.1 105 3 = nI k) (hk2 : k < 2 ^ 31) : am_M (d + 2) false nm_X6_partAt [aR 105, aI (nI i), aI q] M (am_q1 (aJ (rp (red k x) q)) M) := by
  have e4 : (4 : Int32) * nI i = nI (4 * i) := by rw [show (4 : Int32) = nI 4 from rfl, nI_mul]
  obtain ⟨x1, x2, x3, x4⟩ := hx
  refine ⟨rfl, rfl, rfl, fun X hX => am_run hX 60 _ _ _ _ ?_⟩
  conv => whnf
  rw [e4]
  refine ⟨vp_in_nI (by show _ < 256; omega) (by decide), ?_⟩
  conv => whnf
  rw [e4, show (1 : Int32) = nI 1 from rfl, nI_add]
  refine ⟨vp_in_nI (by show _ < 256; omega) (by decide), ?_⟩
  conv => whnf
  rw [e4, show (2 : Int32) = nI 2 from rfl, nI_add]
  refine ⟨vp_in_nI (by show _ < 256; omega) (by decide), ?_⟩
  conv => whnf
  rw [e4, show (3 : Int32) = nI 3 from rfl, nI_add]
  refine ⟨vp_in_nI (by show _ < 256; omega) (by decide), ?_⟩
  conv => whnf
  rw [nI_clamp (n := 4 * i) (by omega), nI_clamp (n := 4 * i + 1) (by omega), nI_clamp (n := 4 * i + 2) (by omega), nI_clamp (n := 4 * i + 3) (by omega), x1, x2, x3, x4, hk]
  refine am_c1 (ct_root (d := d) q hk2 hb) ?_
  conv => whnf
  exact ⟨trivial, rfl, rfl⟩
set_option maxRecDepth 100000 in
theorem ld_l150 {P : am_Q} {X : am_X} {a : Nat} (hX : am_K d false nm_X12_load P X) (ha : a + 5 ≤ 1280) (hP : P (.inl none) (mm_l M 118 (fun j => if j < 5 then M.2 150 (a + j) else M.2 118 j))) : ∀ (m i : Nat), i + m = 5 → X 2 [some (aR 108), some (aR 150), some (aI (nI a)), some (aI (nI i))] [] (mm_l M 118 (fun j => if j < i then M.2 150 (a + j) else M.2 118 j)) := by
  intro m
  induction m with
  | zero =>
    intro i hi
    have hi : i = 5 := by omega
    subst hi
    refine am_run hX 4 _ _ _ _ ?_
    conv => whnf
    refine ⟨fun _ => ?_, fun c => absurd (by decide) c⟩
    conv => whnf
    exact ⟨trivial, hP⟩
  | succ m ih =>
    intro i hi
    refine am_run hX 3 _ _ _ _ ?_
    conv => whnf
    refine ⟨fun c => absurd c (nI_ge (a := i) (b := 5) (by omega) (by decide)), fun _ => ?_⟩
    refine am_run hX 11 _ _ _ _ ?_
    conv => whnf
    rw [nI_add]
    refine ⟨vp_in_nI (by show _ < 1280; omega) (by decide), ?_⟩
    conv => whnf
    refine ⟨vp_in_nI (by show _ < 5; omega) (by decide), ?_⟩
    conv => whnf
    rw [nI_clamp (n := i) (by omega), nI_clamp (n := a + i) (by omega), nI_1, mm_l2, mm_ll, mm_lne _ 118 150 _ (by decide)]
    have e : vp_updL (fun j => if j < i then M.2 150 (a + j) else M.2 118 j) i (M.2 150 (a + i)) = fun j => if j < i + 1 then M.2 150 (a + j) else M.2 118 j := by
      funext j
      unfold vp_updL
      by_cases h : j = i
      · rw [if_pos h, if_pos (by omega), h]
      · rw [if_neg h]
        dsimp only
        by_cases h2 : j < i
        · rw [if_pos h2, if_pos (by omega)]
        · rw [if_neg h2, if_neg (by omega)]
    rw [e]
    exact ih (i + 1) (by omega)
set_option maxRecDepth 100000 in
theorem ct_load150 {a : Nat} (ha : a + 5 ≤ 1280) : am_M (d + 1) false nm_X12_load [aR 108, aR 150, aI (nI a)] M (am_q0 (mm_l M 118 (fun j => if j < 5 then M.2 150 (a + j) else M.2 118 j))) := by
  refine ⟨rfl, rfl, rfl, fun X hX => am_run hX 2 _ _ _ _ ?_⟩
  conv => whnf
  have key := ld_l150 (M := M) (a := a) hX ha ⟨rfl, rfl⟩ 5 0 (by omega)
  have e : (fun j => if j < 0 then M.2 150 (a + j) else M.2 118 j) = M.2 118 := by
    funext j
    rw [if_neg (by omega)]
  rw [e, mm_lz] at key
  exact key
set_option maxRecDepth 100000 in
theorem ld_l162 {P : am_Q} {X : am_X} {a : Nat} (hX : am_K d false nm_X12_load P X) (ha : a + 5 ≤ 320) (hP : P (.inl none) (mm_l M 118 (fun j => if j < 5 then M.2 162 (a + j) else M.2 118 j))) : ∀ (m i : Nat), i + m = 5 → X 2 [some (aR 108), some (aR 162), some (aI (nI a)), some (aI (nI i))] [] (mm_l M 118 (fun j => if j < i then M.2 162 (a + j) else M.2 118 j)) := by
  intro m
  induction m with
  | zero =>
    intro i hi
    have hi : i = 5 := by omega
    subst hi
    refine am_run hX 4 _ _ _ _ ?_
    conv => whnf
    refine ⟨fun _ => ?_, fun c => absurd (by decide) c⟩
    conv => whnf
    exact ⟨trivial, hP⟩
  | succ m ih =>
    intro i hi
    refine am_run hX 3 _ _ _ _ ?_
    conv => whnf
    refine ⟨fun c => absurd c (nI_ge (a := i) (b := 5) (by omega) (by decide)), fun _ => ?_⟩
    refine am_run hX 11 _ _ _ _ ?_
    conv => whnf
    rw [nI_add]
    refine ⟨vp_in_nI (by show _ < 320; omega) (by decide), ?_⟩
    conv => whnf
    refine ⟨vp_in_nI (by show _ < 5; omega) (by decide), ?_⟩
    conv => whnf
    rw [nI_clamp (n := i) (by omega), nI_clamp (n := a + i) (by omega), nI_1, mm_l2, mm_ll, mm_lne _ 118 162 _ (by decide)]
    have e : vp_updL (fun j => if j < i then M.2 162 (a + j) else M.2 118 j) i (M.2 162 (a + i)) = fun j => if j < i + 1 then M.2 162 (a + j) else M.2 118 j := by
      funext j
      unfold vp_updL
      by_cases h : j = i
      · rw [if_pos h, if_pos (by omega), h]
      · rw [if_neg h]
        dsimp only
        by_cases h2 : j < i
        · rw [if_pos h2, if_pos (by omega)]
        · rw [if_neg h2, if_neg (by omega)]
    rw [e]
    exact ih (i + 1) (by omega)
set_option maxRecDepth 100000 in
theorem ct_load162 {a : Nat} (ha : a + 5 ≤ 320) : am_M (d + 1) false nm_X12_load [aR 108, aR 162, aI (nI a)] M (am_q0 (mm_l M 118 (fun j => if j < 5 then M.2 162 (a + j) else M.2 118 j))) := by
  refine ⟨rfl, rfl, rfl, fun X hX => am_run hX 2 _ _ _ _ ?_⟩
  conv => whnf
  have key := ld_l162 (M := M) (a := a) hX ha ⟨rfl, rfl⟩ 5 0 (by omega)
  have e : (fun j => if j < 0 then M.2 162 (a + j) else M.2 118 j) = M.2 118 := by
    funext j
    rw [if_neg (by omega)]
  rw [e, mm_lz] at key
  exact key
set_option maxRecDepth 100000 in
theorem ct_tell1 {q : Int32} (q0 : ¬ q < 0) (q4 : q ≤ 4) : am_M (d + 1) false nm_X12_tell [aR 108, aI 1, aI q, aI 0] M (am_q1 (aJ (M.2 118 q.toNatClampNeg)) (th0 M)) := by
  refine ⟨rfl, rfl, rfl, fun X hX => am_run hX 60 _ _ _ _ ?_⟩
  conv => whnf
  refine ⟨fun c => absurd c (by decide), fun _ => ?_⟩
  conv => whnf
  refine ⟨fun c => absurd c q0, fun _ => ?_⟩
  conv => whnf
  refine ⟨fun _ => ?_, fun c => absurd rfl c⟩
  conv => whnf
  refine ⟨fun c => absurd q4 (Int32.not_le.mpr c), fun _ => ?_⟩
  conv => whnf
  refine ⟨fun _ => ?_, fun c => absurd (by rw [mm_i1]; rfl) c⟩
  conv => whnf
  refine ⟨fun _ => ?_, fun c => absurd rfl c⟩
  conv => whnf
  obtain ⟨j, hj, rfl⟩ := nI_of q0
  have hj4 : j ≤ 4 := by
    apply Decidable.byContradiction
    intro hc
    exact nI_ge (a := 4) (b := j) (by omega) hj q4
  refine ⟨vp_in_nI (by show _ < 5; omega) (by decide), ?_⟩
  conv => whnf
  exact ⟨trivial, rfl, rfl⟩
set_option maxRecDepth 100000 in
theorem ct_tell0 {g q : Int32} (h : g = 0 ∨ q < 0 ∨ 4 < q) : am_M (d + 1) false nm_X12_tell [aR 108, aI g, aI q, aI 0] M (am_q1 (aJ 0) (th1 M)) := by
  refine ⟨rfl, rfl, rfl, fun X hX => am_run hX 60 _ _ _ _ ?_⟩
  conv => whnf
  refine ⟨fun c => ?_, fun c => ?_⟩
  · conv => whnf
    refine ⟨fun c => absurd c (by rw [mm_i1]; simp [upd]), fun _ => ?_⟩
    conv => whnf
    exact ⟨trivial, rfl, rfl⟩
  · conv => whnf
    refine ⟨fun c2 => ?_, fun c2 => ?_⟩
    · conv => whnf
      refine ⟨fun c => absurd c (by rw [mm_i1]; simp [upd]), fun _ => ?_⟩
      conv => whnf
      exact ⟨trivial, rfl, rfl⟩
    · conv => whnf
      refine ⟨fun _ => ?_, fun c => absurd rfl c⟩
      conv => whnf
      refine ⟨fun c3 => ?_, fun c3 => ?_⟩
      · conv => whnf
        refine ⟨fun c => absurd c (by rw [mm_i1]; simp [upd]), fun _ => ?_⟩
        conv => whnf
        exact ⟨trivial, rfl, rfl⟩
      · rcases h with h | h | h
        · exact absurd h c
        · exact absurd h c2
        · exact absurd h c3
/-- a ROOT's parts as the reference keeps them -/
theorem rf_rp {M : mm_M} {c i : Nat} {y : R4 × Nat} (h : rf_at M c i y) {q : Int32} (q0 : ¬ q < 0) (q4 : q ≤ 4) : M.2 c (5 * i + q.toNatClampNeg) = rp y q := by
  obtain ⟨h0, h1, h2, h3, h4⟩ := h
  obtain ⟨j, hj, rfl⟩ := nI_of q0
  have hj4 : j ≤ 4 := by
    apply Decidable.byContradiction
    intro hc
    exact nI_ge (a := 4) (b := j) (by omega) hj q4
  rw [nI_clamp hj]
  unfold rp
  rcases (by omega : j = 0 ∨ j = 1 ∨ j = 2 ∨ j = 3 ∨ j = 4) with rfl | rfl | rfl | rfl | rfl
  · rw [if_pos (by decide)]; exact h0
  · rw [if_neg (by decide), if_pos (by decide)]; exact h1
  · rw [if_neg (by decide), if_neg (by decide), if_pos (by decide)]; exact h2
  · rw [if_neg (by decide), if_neg (by decide), if_neg (by decide), if_pos (by decide)]; exact h3
  · rw [if_neg (by decide), if_neg (by decide), if_neg (by decide), if_neg (by decide)]; exact h4
theorem w256 {w : Nat} (h : w ≤ 8) : 2 ^ w ≤ 256 := by
  have : 2 ^ w ≤ 2 ^ 8 := Nat.pow_le_pow_right (by decide) h
  omega
set_option maxRecDepth 100000 in
theorem aq_x1 {c w k j : Nat} {x : R4} {q : Int32} (h : ru_s M c w k) (hj : j < 2 ^ w) (hb : bd x) (hx : rt_at M 20 j x) (q0 : ¬ q < 0) (q4 : q ≤ 4) (t : Bool) : am_M (d + 3) t nm_X11_amplitude [aR 0, aI (nI j), aI q] M (am_q1 (aJ (rp (red k x) q)) M) := by
  obtain ⟨c20, w1, w8, k60, e1, e2, e3, e4, e5, e6, e7, _⟩ := h
  have hw := w256 w8
  refine ⟨rfl, rfl, rfl, fun X hX => am_run hX 40 _ _ _ _ ?_⟩
  conv => whnf
  rw [e1]
  refine ⟨fun c => absurd c (nI_nm (by omega)), fun _ => ?_⟩
  conv => whnf
  refine ⟨fun c => absurd c (nI_pos (by omega)), fun _ => ?_⟩
  conv => whnf
  rw [e6]
  refine ⟨fun c => absurd c (nI_ge hj (by omega)), fun _ => ?_⟩
  conv => whnf
  refine ⟨fun c => absurd c q0, fun _ => ?_⟩
  conv => whnf
  refine ⟨fun _ => ?_, fun c => absurd q4 c⟩
  conv => whnf
  refine am_c1 (ct_part18 (d := d) (i := j) q (by omega) hx hb e7 (by omega)) ?_
  conv => whnf
  exact ⟨trivial, rfl, rfl⟩
/-- what amplitude refuses -/
def aq_no (M : mm_M) (p q : Int32) : Prop := (M.1 17 5 = -1 ∧ M.1 108 65 = 0) ∨ ∃ c w k, ru_s M c w k ∧ ((p < 0 ∨ nI (2 ^ w) ≤ p) ∨ q < 0 ∨ ¬ q ≤ 4)
set_option maxRecDepth 100000 in
theorem aq_x0 {p q : Int32} (h : aq_no M p q) : am_M 999 true nm_X11_amplitude [aR 0, aI p, aI q] M (fun r M' => r = .inr "java/util/NoSuchElementException" ∧ M' = M) := by
  refine ⟨rfl, rfl, rfl, fun X hX => am_run hX 60 _ _ _ _ ?_⟩
  conv => whnf
  refine ⟨fun c => ?_, fun c => ?_⟩
  · conv => whnf
    exact ⟨⟨by decide, rfl⟩, rfl, rfl⟩
  · rcases h with h | ⟨c9, w, k, h, hx⟩
    · exact absurd h.1 c
    · conv => whnf
      refine ⟨fun c1 => ?_, fun c1 => ?_⟩
      · conv => whnf
        exact ⟨⟨by decide, rfl⟩, rfl, rfl⟩
      · conv => whnf
        rw [h.2.2.2.2.2.2.2.2.2.1]
        refine ⟨fun c2 => ?_, fun c2 => ?_⟩
        · conv => whnf
          exact ⟨⟨by decide, rfl⟩, rfl, rfl⟩
        · conv => whnf
          refine ⟨fun c3 => ?_, fun c3 => ?_⟩
          · conv => whnf
            exact ⟨⟨by decide, rfl⟩, rfl, rfl⟩
          · conv => whnf
            refine ⟨fun c4 => ?_, fun c4 => ?_⟩
            · rcases hx with (hx | hx) | hx | hx
              · exact absurd hx c1
              · exact absurd hx c2
              · exact absurd hx c3
              · exact absurd c4 hx
            · conv => whnf
              exact ⟨⟨by decide, rfl⟩, rfl, rfl⟩
set_option maxRecDepth 100000 in
theorem aq_m1 {c w k j : Nat} {x : R4} {q : Int32} (h : ru_s M c w k) (hj : j < 2 ^ w) (hx : rf_at M 150 j (red k x)) (q0 : ¬ q < 0) (q4 : q ≤ 4) : am_M (d + 2) false nm_X12_amplitude [aR 108, aI (nI j), aI q] M (fun r M' => r = .inl (some (aJ (rp (red k x) q))) ∧ ∃ f, M' = th0 (mm_l M 118 f)) := by
  obtain ⟨c20, w1, w8, k60, e1, e2, e3, e4, e5, e6, e7, _⟩ := h
  have hw := w256 w8
  refine ⟨rfl, rfl, rfl, fun X hX => am_run hX 40 _ _ _ _ ?_⟩
  conv => whnf
  rw [e2]
  refine ⟨fun c => absurd c (by decide), fun _ => ?_⟩
  conv => whnf
  refine ⟨fun c => absurd c (nI_pos (by omega)), fun _ => ?_⟩
  conv => whnf
  rw [e5, sh2 w (by omega)]
  refine ⟨fun c => absurd c (nI_ge hj (by omega)), fun _ => ?_⟩
  conv => whnf
  refine ⟨fun c => absurd c (by decide), fun _ => ?_⟩
  conv => whnf
  rw [show (5 : Int32) = nI 5 from rfl, nI_mul]
  refine am_c0 (ct_load150 (d := d) (a := 5 * j) (by omega)) ?_
  conv => whnf
  refine am_c1 (ct_tell1 (d := d) q0 q4) ?_
  conv => whnf
  refine ⟨trivial, ?_, _, rfl⟩
  have hq : q.toNatClampNeg < 5 := by
    obtain ⟨i, hi, rfl⟩ := nI_of q0
    rw [nI_clamp hi]
    apply Decidable.byContradiction
    intro hc
    exact nI_ge (a := 4) (b := i) (by omega) hi q4
  rw [mm_l2, if_pos hq, rf_rp hx q0 q4]
set_option maxRecDepth 100000 in
theorem aq_m0 {p q : Int32} (h : aq_no M p q) : am_M (d + 2) false nm_X12_amplitude [aR 108, aI p, aI q] M (fun r M' => r = .inl (some (aJ 0)) ∧ (M' = th1 M ∨ ∃ f, M' = th1 (mm_l M 118 f))) := by
  refine ⟨rfl, rfl, rfl, fun X hX => am_run hX 60 _ _ _ _ ?_⟩
  conv => whnf
  refine ⟨fun c => ?_, fun c => ?_⟩
  · conv => whnf
    refine ⟨fun _ => ?_, fun c => absurd rfl c⟩
    conv => whnf
    refine am_c1 (ct_tell0 (d := d) (Or.inl rfl)) ?_
    conv => whnf
    exact ⟨trivial, rfl, Or.inl rfl⟩
  · rcases h with h | ⟨c9, w, k, h, hx⟩
    · exact absurd h.2 c
    · have hw := w256 h.2.2.1
      have hw8 := h.2.2.1
      conv => whnf
      refine ⟨fun c1 => ?_, fun c1 => ?_⟩
      · conv => whnf
        refine ⟨fun _ => ?_, fun c => absurd rfl c⟩
        conv => whnf
        refine am_c1 (ct_tell0 (d := d) (Or.inl rfl)) ?_
        conv => whnf
        exact ⟨trivial, rfl, Or.inl rfl⟩
      · conv => whnf
        rw [h.2.2.2.2.2.2.2.2.1, sh2 w (by omega)]
        refine ⟨fun c2 => ?_, fun c2 => ?_⟩
        · conv => whnf
          refine ⟨fun _ => ?_, fun c => absurd rfl c⟩
          conv => whnf
          refine am_c1 (ct_tell0 (d := d) (Or.inl rfl)) ?_
          conv => whnf
          exact ⟨trivial, rfl, Or.inl rfl⟩
        · have hq : q < 0 ∨ 4 < q := by
            rcases hx with (hx | hx) | hx | hx
            · exact absurd hx c1
            · exact absurd hx c2
            · exact Or.inl hx
            · exact Or.inr (Int32.not_le.mp hx)
          obtain ⟨j, hj, rfl⟩ := nI_of c1
          have hjw : j < 2 ^ w := by
            apply Decidable.byContradiction
            intro hc
            exact c2 (nI_le (by omega) hj)
          conv => whnf
          refine ⟨fun c => absurd c (by decide), fun _ => ?_⟩
          conv => whnf
          rw [show (5 : Int32) = nI 5 from rfl, nI_mul]
          refine am_c0 (ct_load150 (d := d) (a := 5 * j) (by omega)) ?_
          conv => whnf
          refine am_c1 (ct_tell0 (d := d) (Or.inr hq)) ?_
          conv => whnf
          exact ⟨trivial, rfl, Or.inr ⟨_, rfl⟩⟩
end AMQ
section AMR
variable {ac : Nat → ClassId} {lo : Nat} {ad as : Nat → Nat} {b L : Nat} {xs : Nat → Int32} {hp : mm_M → Nat → xm_H} {I J : mm_M → Prop}
theorem pr_amplitude (H : mm_L ac lo hp) (h1 : ∀ M, I M → ru_iv M) (hJ : ∀ M f v, I M → J (th0 (mm_l (lt_o M v) 118 f))) (hJ1 : ∀ M, I M → J (th1 M)) (hJ2 : ∀ M f, I M → J (th1 (mm_l M 118 f))) (p q : Int32) : la_TJ ac lo ad as b L xs hp I J nm_L_amplitude nm_X12_amplitude [.int p, .int q] := by
  refine lt_amplitude H p q fun M hI => ?_
  have hno : aq_no M p q → am_M 999 true nm_X11_amplitude (aR 0 :: [aI p, aI q]) M (fun r M1 => (∃ v, r = .inl (some (aJ v)) ∧ am_M 1000 false nm_X12_amplitude (aR 108 :: [aI p, aI q]) (lt_o M1 v) (fun r' M2 => r' = .inl (some (aJ v)) ∧ M2.1 108 0 = 0 ∧ M2.2 202 0 = v ∧ J M2)) ∨ (r = .inr "java/util/NoSuchElementException" ∧ am_M 1000 false nm_X12_amplitude (aR 108 :: [aI p, aI q]) M1 (fun r' M2 => (∃ w, r' = .inl (some (aJ w))) ∧ M2.1 108 0 = 1 ∧ J M2))) := fun hx => by
    refine am_wk (aq_x0 hx) fun r M1 e => Or.inr ⟨e.1, ?_⟩
    rw [e.2]
    refine am_wk (aq_m0 (d := 998) hx) ?_
    rintro r M2 ⟨rfl, rfl | ⟨f, rfl⟩⟩
    · exact ⟨⟨0, rfl⟩, by simp [th1, mm_i, upd], hJ1 M hI⟩
    · exact ⟨⟨0, rfl⟩, by simp [th1, mm_i, upd], hJ2 M f hI⟩
  rcases h1 M hI with h | ⟨c, w, k, h⟩
  · exact hno (Or.inl h)
  · by_cases hx : (p < 0 ∨ nI (2 ^ w) ≤ p) ∨ q < 0 ∨ ¬ q ≤ 4
    · exact hno (Or.inr ⟨c, w, k, h, hx⟩)
    · have p0 : ¬ p < 0 := fun c => hx (Or.inl (Or.inl c))
      have ps : ¬ nI (2 ^ w) ≤ p := fun c => hx (Or.inl (Or.inr c))
      have q0 : ¬ q < 0 := fun c => hx (Or.inr (Or.inl c))
      have q4 : q ≤ 4 := Decidable.byContradiction fun c => hx (Or.inr (Or.inr c))
      obtain ⟨j, hj, rfl⟩ := nI_of p0
      have hw := w256 h.2.2.1
      have hjw : j < 2 ^ w := by
        apply Decidable.byContradiction
        intro hc
        exact ps (nI_le (by omega) hj)
      obtain ⟨x, hb, xt, xf⟩ := h.2.2.2.2.2.2.2.2.2.2.2 j hjw
      refine am_wk (aq_x1 (d := 996) h hjw hb xt q0 q4 true) fun r M1 e => Or.inl ⟨_, e.1, ?_⟩
      rw [e.2]
      have h' : ∀ v, ru_s (lt_o M v) c w k := fun v => h
      refine am_wk (aq_m1 (d := 998) (M := lt_o M _) (x := x) (h' _) hjw xf q0 q4) ?_
      rintro r M2 ⟨rfl, f, rfl⟩
      exact ⟨rfl, by simp [th0, mm_i, upd], by simp [th0, lt_o, mm_i, mm_l, vp_updL], hJ M f _ hI⟩
end AMR
