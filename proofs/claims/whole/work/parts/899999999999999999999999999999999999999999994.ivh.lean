/-! THE INVARIANT is kept: the RUN -/
section IVJ
variable {KI : List Nat} {KO : List (Nat × Nat)} {KL : List Nat} {M N K : mm_M}
theorem nrm_z {x : R4} (h : nrm x ≤ 0) : x = (0, 0, 0, 0) := by
  obtain ⟨a, b, c, d⟩ := x
  have h : a * a + b * b + c * c + d * d ≤ 0 := h
  have sq : ∀ z : Int, 0 ≤ z * z := fun z => by
    rcases Int.le_total 0 z with q | q
    · exact Int.mul_nonneg q q
    · exact Int.mul_nonneg_of_nonpos_of_nonpos q q
  have z0 : ∀ z : Int, z * z ≤ 0 → z = 0 := fun z hz => by
    have : z * z = 0 := Int.le_antisymm hz (sq z)
    rcases Int.mul_eq_zero.mp this with q | q <;> exact q
  have ha := sq a
  have hb := sq b
  have hc := sq c
  have hd := sq d
  rw [z0 a (by omega), z0 b (by omega), z0 c (by omega), z0 d (by omega)]
theorem nz_n {w : Nat} {xs : Nat → R4} : nzS w xs ↔ 0 < sI (fun i => nrm (xs i)) (2 ^ w) := by
  constructor
  · rintro ⟨j, hj, hx⟩
    have h1 := sI_at (F := fun i => nrm (xs i)) (2 ^ w) (fun i _ => nrm0 _) j hj
    have h1 : nrm (xs j) ≤ sI (fun i => nrm (xs i)) (2 ^ w) := h1
    apply Classical.byContradiction
    intro z
    exact hx (nrm_z (by omega))
  · intro h
    apply Classical.byContradiction
    intro z
    have h0 : ∀ i, i < 2 ^ w → nrm (xs i) ≤ 0 := fun i hi => by
      have : xs i = (0, 0, 0, 0) := Classical.byContradiction fun q => z ⟨i, hi, q⟩
      rw [this]
      decide
    have h1 := sI_le (F := fun i => nrm (xs i)) (G := fun i => 0 * 0) (2 ^ w) (fun i hi => by rw [show (0 : Int) * 0 = 0 from rfl]; exact h0 i hi)
    rw [sI_mul 0 (fun _ => 0) (2 ^ w)] at h1
    omega
theorem any_x {p : Nat → Bool} : ∀ n, anyN p n = true → ∃ i, i < n ∧ p i = true
  | 0, h => Bool.noConfusion (show false = true from h)
  | n + 1, h => by
    simp only [anyN] at h
    rcases (Bool.or_eq_true _ _).mp h with h | h
    · obtain ⟨i, hi, e⟩ := any_x n h
      exact ⟨i, by omega, e⟩
    · exact ⟨n, by omega, h⟩
theorem nz_up {W t v : Nat} {xs : Nat → R4} (h : anyN (upB xs t) (2 ^ W) = true) (hv : v = 1) : nzS W (obX v xs t) := by
  obtain ⟨i, hi, e⟩ := any_x _ h
  obtain ⟨e1, e2⟩ := of_decide_eq_true e
  refine ⟨i, hi, ?_⟩
  unfold obX
  rw [if_pos (by rw [e1, hv]; rfl)]
  exact e2
theorem nz_dn {W t v : Nat} {xs : Nat → R4} (h : anyN (dnB xs t) (2 ^ W) = true) (hv : v ≠ 1) : nzS W (obX v xs t) := by
  obtain ⟨i, hi, e⟩ := any_x _ h
  obtain ⟨e1, e2⟩ := of_decide_eq_true e
  refine ⟨i, hi, ?_⟩
  unfold obX
  rw [if_pos (by rw [e1]; exact (decide_eq_false hv).symm)]
  exact e2
theorem nz_ob {W t tk : Nat} {tape : Int64} {xs : Nat → R4} (h : nzS W xs) : nzS W (obX (obV tape tk xs t (2 ^ W)) xs t) := by
  by_cases c : obB xs t (2 ^ W) = true
  · obtain ⟨c1, c2⟩ := (Bool.and_eq_true _ _).mp c
    by_cases v : obV tape tk xs t (2 ^ W) = 1
    · exact nz_up c1 v
    · exact nz_dn c2 v
  · by_cases u : anyN (upB xs t) (2 ^ W) = true
    · refine nz_up u ?_
      unfold obV
      rw [if_neg c, if_pos u]
    · refine nz_dn ?_ ?_
      · obtain ⟨j, hj, hx⟩ := h
        refine any_t (i := j) ?_ _ hj
        refine decide_eq_true ⟨?_, hx⟩
        cases q : j.testBit t with
        | false => rfl
        | true => exact absurd (any_t (p := upB xs t) (i := j) (decide_eq_true ⟨q, hx⟩) _ hj) u
      · unfold obV
        rw [if_neg c, if_neg u]
        decide
theorem nz_gx {kd t s c W : Nat} {mi : Bool} {xs : Nat → R4} (hap : apo kd t s c W) (h : nzS W xs) : nzS W (gx kd t s c mi (2 ^ W) xs) := by
  have h := nz_n.mp h
  refine nz_n.mpr ?_
  rw [gx_nrm hap]
  split <;> omega
theorem nz_st {W : Nat} {tape : Int64} {x : bk_X} {σ : ru_A} (hog : ogd W x) (h : nzS W σ.2.1) : nzS W (ast W tape x σ).2.1 := by
  unfold ast
  by_cases hc : σ.2.2.2 &&& x.2.2.2.2.1 = x.2.2.2.2.1 ∧ σ.2.2.2 &&& x.2.2.2.2.2 = 0
  · rw [if_pos hc]
    by_cases h9 : x.1 < 9
    · rw [if_pos h9]
      exact nz_gx (ogd_a hog) h
    · rw [if_neg h9]
      by_cases hk9 : x.1 = 9
      · rw [if_pos hk9]
        exact nz_ob h
      · rw [if_neg hk9]
        show nzS W (if obV tape σ.2.2.1 σ.2.1 x.2.1 (2 ^ W) = 1 then gx 0 x.2.1 0 0 false (2 ^ W) (obX 1 σ.2.1 x.2.1) else obX 0 σ.2.1 x.2.1)
        have q := nz_ob (t := x.2.1) (tk := σ.2.2.1) (tape := tape) h
        by_cases v : obV tape σ.2.2.1 σ.2.1 x.2.1 (2 ^ W) = 1
        · rw [if_pos v]
          rw [v] at q
          exact nz_gx ⟨hog.1.2.1, Nat.two_pow_pos W, Nat.zero_testBit _, fun e => absurd e (by decide)⟩ q
        · have v0 : obV tape σ.2.2.1 σ.2.1 x.2.1 (2 ^ W) = 0 := by
            have := obV_2 tape σ.2.2.1 σ.2.1 x.2.1 (2 ^ W)
            omega
          rw [if_neg v]
          rw [v0] at q
          exact q
  · rw [if_neg hc]
    exact h
theorem nz_rn {W S : Nat} {tape : Int64} {op : Nat → bk_X} {dn : Nat} {σ : ru_A} (ho : ∀ j, j < S → ogd W (op j)) (h : nzS W σ.2.1) : ∀ n, dn + n ≤ S → nzS W (arun W tape op dn σ n).2.1
  | 0, _ => h
  | n + 1, hn => nz_st (ho _ (by omega)) (nz_rn ho h n (by omega))
/-- a RUN, and what is known of it -/
def ruJ (M : mm_M) (n c W S : Nat) (op : Nat → bk_X) (xs : Nat → R4) : Prop := ∃ F, bkX M n F ∧ W = (F c).1 ∧ S = (F c).2.length ∧ op = zg (F c).2 ∧ nzS W xs ∧ (M.1 17 10 = -1 ∨ gcG M W xs) ∧ (M.1 108 74 = 0 ∨ M.1 108 74 = 1 ∧ grG M W xs)
theorem gRQ (h : IV M) : (M.1 17 5 = -1 ∧ M.1 108 65 = 0) ∨ ∃ n c W S op k xs dn tk b, run_iv M n c W S op k xs dn tk b ∧ ruJ M n c W S op xs := by
  obtain ⟨n, F, hB, hR⟩ := h.2.1
  rcases hR with z | ⟨c, k, xs, dn, tk, b, hc, h1, h2, h3, h4, h5, h6, h7, h8, h9⟩
  · exact Or.inl z
  · exact Or.inr ⟨n, c, _, _, _, k, xs, dn, tk, b, ru_nF hB hc h1 h2 h3 h4 h5 h6, F, hB, rfl, rfl, rfl, h7, h8, h9⟩

theorem jv_run {n c W S k dn tk b T : Nat} {op : Nat → bk_X} {xs : Nat → R4} {gk : Int32} {v : Int64} {q o f : Nat → Int64} (hr : run_iv M n c W S op k xs dn tk b) (hq : ruJ M n c W S op xs) (hTS : dn + T ≤ S) (hg : gk = 0 ∨ gk = M.1 108 74 ∧ (arun W (M.2 17 11) op dn (k, xs, tk, b) T).1 = k ∧ (arun W (M.2 17 11) op dn (k, xs, tk, b) T).2.1 = xs) (h : IV M) : IV (ru_af M W dn T (arun W (M.2 17 11) op dn (k, xs, tk, b) T) (-1) gk v q o f) := by
  have ra0 := ru_aft hr hTS (-1) gk v q o f
  have ra1 := ra0.2.2.1
  have iB : iBRD (ru_af M W dn T (arun W (M.2 17 11) op dn (k, xs, tk, b) T) (-1) gk v q o f) := by
    have hnz := nz_rn (tape := M.2 17 11) (σ := (k, xs, tk, b)) (dn := dn) (fun j hj => (hr.1.2.2.2 j hj).1) hq.choose_spec.2.2.2.2.1 T hTS
    obtain ⟨F, hB, rfl, rfl, rfl, z1, z2, z3⟩ := hq
    have hc : c < n := hr.1.2.1
    generalize hs : arun (F c).1 (M.2 17 11) (zg (F c).2) dn (k, xs, tk, b) T = σ at ra0 hg hnz ⊢
    have g8 : (ru_af M (F c).1 dn T σ (-1) gk v q o f).1 108 74 = gk := rfl
    refine ⟨n, F, hB, Or.inr ⟨c, σ.1, σ.2.1, dn + T, σ.2.2.1, σ.2.2.2, hc, ra0.2.1, ra0.2.2.1, ra0.2.2.2.1, ra0.2.2.2.2.1, ra0.2.2.2.2.2.1, ra0.2.2.2.2.2.2.1, hnz, Or.inl rfl, ?_⟩⟩
    rw [g8]
    rcases hg with hg | ⟨hg, h1, h2⟩
    · exact Or.inl hg
    · rw [hg, h2]
      exact z3
  have F : ivF [] [(17, 7), (17, 8), (17, 9), (17, 10), (18, 3), (108, 0), (108, 67), (108, 68), (108, 70), (108, 74)] [20, 202, 152, 119, 118, 150] M (ru_af M W dn T (arun W (M.2 17 11) op dn (k, xs, tk, b) T) (-1) gk v q o f) := by
    refine ivF_t (ivF_g (k := 17) (fun y hy => ?_)) (ivF_t (ivF_u (k := 18) (y := 3) rfl) (ivF_t (ivF_l (k := 20) rfl) (ivF_t (ivF_o rfl) (ivF_t (ivF_0 rfl) (ivF_t (ivF_g (k := 108) (fun y hy => ?_)) (ivF_t (ivF_l (k := 152) rfl) (ivF_t (ivF_l (k := 119) rfl) (ivF_t (ivF_l (k := 118) rfl) (ivF_l (k := 150) rfl)))))))))
    · unfold c17
      rw [if_neg (ko_n hy rfl), if_neg (ko_n hy rfl), if_neg (ko_n hy rfl), if_neg (ko_n hy rfl)]
    · unfold r108
      rw [if_neg (ko_n hy rfl), if_neg (ko_n hy rfl), if_neg (ko_n hy rfl), if_neg (ko_n hy rfl)]
      rfl
  refine IV_k h F (Or.inl rfl) (Or.inr ?_) (Or.inr ?_) (Or.inl rfl) (Or.inl rfl) (Or.inl rfl) (Or.inl rfl) (Or.inl rfl) (Or.inl rfl) (Or.inl rfl) (Or.inl rfl) (Or.inl rfl) (Or.inl rfl) (Or.inl rfl) (Or.inl rfl) (Or.inl rfl) (Or.inl rfl) (Or.inl rfl) (Or.inl rfl) (Or.inl rfl) (Or.inl rfl) (Or.inl rfl)
  · exact iB
  · exact ⟨ra1.1.trans ra1.2.1.symm, ra1.2.2.1.trans ra1.2.2.2.1.symm, ra1.2.2.2.2.1.trans ra1.2.2.2.2.2.1.symm⟩

/-- a basis STATE -/
def bsS (s : Nat) : Nat → R4 := fun j => if j = s then (1, 0, 0, 0) else (0, 0, 0, 0)
theorem bs_nrm (s : Nat) : ∀ n, sI (fun i => nrm (bsS s i)) n = if s < n then 1 else 0
  | 0 => rfl
  | n + 1 => by
    show sI (fun i => nrm (bsS s i)) n + nrm (bsS s n) = _
    rw [bs_nrm s n]
    unfold bsS
    by_cases e : n = s
    · rw [if_pos e, if_neg (by omega), if_pos (by omega)]
      rfl
    · rw [if_neg e]
      by_cases c : s < n
      · rw [if_pos c, if_pos (by omega)]
        rfl
      · rw [if_neg c, if_neg (by omega)]
        rfl
theorem bg_ns {c w s : Nat} {v : Int64} (w8 : w ≤ 8) (hs : s < 2 ^ w) : ru_n (bg_2 (bg_1 M c w s v) c w s v) w 0 (bsS s) := by
  have h8 := w256 w8
  have m20 : ∀ p, p < 1024 → (bg_2 (bg_1 M c w s v) c w s v).2 20 p = if p = 4 * s then 1 else 0 := fun p hp => by
    have : (bg_2 (bg_1 M c w s v) c w s v).2 20 p = vp_updL (fun j => if j < 1024 then 0 else M.2 20 j) (4 * s) 1 p := by
      simp [bg_2, bg_1, bs_2, on18, mm_i, mm_l]
    rw [this]
    unfold vp_updL
    by_cases e : p = 4 * s
    · rw [if_pos e, if_pos e]
    · rw [if_neg e, if_neg e]
      dsimp only
      rw [if_pos hp]
  have m150 : ∀ p, p < 1280 → (bg_2 (bg_1 M c w s v) c w s v).2 150 p = if p = 5 * s then 1 else 0 := fun p hp => by
    have : (bg_2 (bg_1 M c w s v) c w s v).2 150 p = vp_updL (fun j => if j < 1280 then 0 else M.2 150 j) (5 * s) 1 p := by
      simp [bg_2, bg_1, bs_2, on18, mm_i, mm_l]
    rw [this]
    unfold vp_updL
    by_cases e : p = 5 * s
    · rw [if_pos e, if_pos e]
    · rw [if_neg e, if_neg e]
      dsimp only
      rw [if_pos hp]
  generalize bg_2 (bg_1 M c w s v) c w s v = M' at m20 m150
  refine ⟨fun j hj => ?_, by rw [bs_nrm, if_pos hs]; decide⟩
  by_cases e : j = s
  · subst e
    unfold bsS
    rw [if_pos rfl]
    refine ⟨⟨?_, ?_, ?_, ?_⟩, ?_, ?_, ?_, ?_, ?_⟩
    · rw [m20 _ (by omega), if_pos rfl]; rfl
    · rw [m20 _ (by omega), if_neg (by omega)]; rfl
    · rw [m20 _ (by omega), if_neg (by omega)]; rfl
    · rw [m20 _ (by omega), if_neg (by omega)]; rfl
    · rw [m150 _ (by omega), if_pos rfl]; rfl
    · rw [m150 _ (by omega), if_neg (by omega)]; rfl
    · rw [m150 _ (by omega), if_neg (by omega)]; rfl
    · rw [m150 _ (by omega), if_neg (by omega)]; rfl
    · rw [m150 _ (by omega), if_neg (by omega)]; rfl
  · unfold bsS
    rw [if_neg e]
    refine ⟨⟨?_, ?_, ?_, ?_⟩, ?_, ?_, ?_, ?_, ?_⟩
    · rw [m20 _ (by omega), if_neg (by omega)]; rfl
    · rw [m20 _ (by omega), if_neg (by omega)]; rfl
    · rw [m20 _ (by omega), if_neg (by omega)]; rfl
    · rw [m20 _ (by omega), if_neg (by omega)]; rfl
    · rw [m150 _ (by omega), if_neg (by omega)]; rfl
    · rw [m150 _ (by omega), if_neg (by omega)]; rfl
    · rw [m150 _ (by omega), if_neg (by omega)]; rfl
    · rw [m150 _ (by omega), if_neg (by omega)]; rfl
    · rw [m150 _ (by omega), if_neg (by omega)]; rfl
theorem jv_begin {n c w S s : Nat} {v : Int64} (hb : bk_iv M n) (hc : c < n) (hC : bk_c M c w S) (hs : s < 2 ^ w) (h : IV M) : IV (bg_2 (bg_1 M c w s v) c w s v) := by
  have F : ivF [] [(17, 5), (17, 6), (17, 7), (17, 8), (17, 9), (17, 10), (18, 2), (18, 3), (108, 0), (108, 65), (108, 66), (108, 67), (108, 68), (108, 70), (108, 71), (108, 74)] [17, 20, 108, 150] M (bg_2 (bg_1 M c w s v) c w s v) := by
    refine ivF_t (ivF_g (k := 17) (fun y hy => ?_)) (ivF_t (ivF_l (k := 17) rfl) (ivF_t (ivF_g (k := 18) (fun y hy => ?_)) (ivF_t (ivF_l (k := 20) rfl) (ivF_t (ivF_g (k := 108) (fun y hy => ?_)) (ivF_t (ivF_l (k := 108) rfl) (ivF_t (ivF_g (k := 108) (fun y hy => ?_)) (ivF_l (k := 150) rfl)))))))
    · rw [up_ne (ko_n hy rfl), up_ne (ko_n hy rfl), up_ne (ko_n hy rfl), up_ne (ko_n hy rfl), up_ne (ko_n hy rfl), up_ne (ko_n hy rfl)]
    · rw [up_ne (ko_n hy rfl), up_ne (ko_n hy rfl)]
    · rw [up_ne (ko_n hy rfl), up_ne (ko_n hy rfl), up_ne (ko_n hy rfl), up_ne (ko_n hy rfl), up_ne (ko_n hy rfl), up_ne (ko_n hy rfl)]
      rfl
    · rw [up_ne (ko_n hy rfl), up_ne (ko_n hy rfl)]
      rfl
  refine IV_k h F (Or.inl rfl) (Or.inr ?_) (Or.inr ?_) (Or.inl rfl) (Or.inl rfl) (Or.inl rfl) (Or.inl rfl) (Or.inl rfl) (Or.inl rfl) (Or.inl rfl) (Or.inl rfl) (Or.inl rfl) (Or.inl rfl) (Or.inl rfl) (Or.inl rfl) (Or.inl rfl) (Or.inl rfl) (Or.inl rfl) (Or.inl rfl) (Or.inl rfl) (Or.inl rfl) (Or.inl rfl)
  · obtain ⟨m, B, hB, _⟩ := h.2.1
    have w8 := hC.2.1
    have em : m = n := (nI_eq (by have := hB.1; omega) (by have := hb.1; omega)).mp (hB.2.1.symm.trans hb.2.1)
    subst em
    have hBc := hB.2.2.2 c hc
    have ew : w = (B c).1 := (nI_eq (by omega) (by have := hBc.2.1; omega)).mp (hC.2.2.2.1.symm.trans hBc.2.2.1)
    have n20 := hb.1
    have r1 := bg_start (M := M) (c := c) (v := v) (by omega) hC.1 w8 hs
    have r2 := bg_ns (M := M) (c := c) (v := v) w8 hs
    refine ⟨m, B, ?_, Or.inr ⟨c, 0, bsS s, 0, 0, 0, hc, ?_, ⟨rfl, rfl, rfl, rfl, rfl, rfl, ?_⟩, Nat.zero_le _, Nat.zero_le _, by decide, Nat.zero_le _, ?_, Or.inl rfl, Or.inl rfl⟩⟩
    · exact hB
    · rw [← ew]
      exact ⟨r1, r2⟩
    · simp [bg_2, bg_1, bs_2, on18, mm_i, mm_l, vp_updL]
    · rw [← ew]
      exact ⟨s, hs, by unfold bsS; rw [if_pos rfl]; decide⟩
  · exact ⟨rfl, rfl, rfl⟩

theorem jv_group {M' : mm_M} (h1 : gcF M N) (h2 : gfF (th0 N) M') (h3 : gp_iv M') (h : IV M) : IV (M') := by
  have F : ivF [21, 22, 23, 154, 155, 156] [(17, 10), (108, 0), (108, 74), (108, 77)] [118] M (M') := by
    refine ⟨fun k y a b => ?_, fun k a => ?_⟩
    · by_cases e : k = 108
      · subst e
        rw [h2.2.2 y (ko_n b rfl) (ko_n b rfl)]
        unfold th0
        rw [mm_i1, up_ne (ko_n b rfl), h1.1 108 (by decide) (by decide) (by decide) (by decide)]
      · rw [h2.1 k e (ki_n a rfl) (ki_n a rfl) (ki_n a rfl), th_r _ e]
        by_cases e7 : k = 17
        · subst e7
          exact h1.2.2 y (ko_n b rfl)
        · rw [h1.1 k e7 (ki_n a rfl) (ki_n a rfl) (ki_n a rfl)]
    · rw [h2.2.1 k (ki_n a rfl)]
      show N.2 k = M.2 k
      rw [h1.2.1]
  refine IV_k h F (Or.inl rfl) (Or.inr ?_) (Or.inl rfl) (Or.inl rfl) (Or.inl rfl) (Or.inl rfl) (Or.inl rfl) (Or.inl rfl) (Or.inl rfl) (Or.inl rfl) (Or.inl rfl) (Or.inl rfl) (Or.inl rfl) (Or.inl rfl) (Or.inl rfl) (Or.inl rfl) (Or.inl rfl) (Or.inl rfl) (Or.inl rfl) (Or.inl rfl) (Or.inl rfl) (Or.inl rfl)
  · obtain ⟨n, B, hB, hR⟩ := h.2.1
    have f1 : ∀ k, k ≠ 108 → k ≠ 154 → k ≠ 155 → k ≠ 156 → k ≠ 17 → k ≠ 21 → k ≠ 22 → k ≠ 23 → M'.1 k = M.1 k := fun k a b c d e f g i => by rw [h2.1 k a b c d, th_r _ a, h1.1 k e f g i]
    have f7 : ∀ y, y ≠ 10 → M'.1 17 y = M.1 17 y := fun y hy => by rw [h2.1 17 (by decide) (by decide) (by decide) (by decide), th_r _ (by decide), h1.2.2 y hy]
    have f8 : ∀ y, y ≠ 0 → y ≠ 74 → y ≠ 77 → M'.1 108 y = M.1 108 y := fun y a b c => by rw [h2.2.2 y b c, th_8 _ a, h1.1 108 (by decide) (by decide) (by decide) (by decide)]
    have f2 : ∀ k, k ≠ 118 → M'.2 k = M.2 k := fun k hk => by
      rw [h2.2.1 k hk]
      show N.2 k = M.2 k
      rw [h1.2.1]
    have hB' : bkX M' n B := bkX_cc (by rw [f1 9 (by decide) (by decide) (by decide) (by decide) (by decide) (by decide) (by decide) (by decide)]) (fun k a b => f1 k (by omega) (by omega) (by omega) (by omega) (by omega) (by omega) (by omega) (by omega)) (fun k a => f1 k (by omega) (by omega) (by omega) (by omega) (by omega) (by omega) (by omega) (by omega)) (fun k a x y _ => by rw [f1 k (by omega) (by omega) (by omega) (by omega) (by omega) (by omega) (by omega) (by omega)]) (f8 6 (by decide) (by decide) (by decide)) hB
    refine ⟨n, B, hB', ?_⟩
    rcases h3 with z | ⟨c, w, k, xs, r1, r2, r3, r4, r5⟩
    · exact Or.inl z
    rcases hR with ⟨z, _⟩ | ⟨c', k', xs', dn, tk, b, hc, ⟨s1, s2⟩, s3, s4, s5, s6, s7, _⟩
    · exfalso
      have := (f7 5 (by decide)).symm.trans r1.2.2.2.2.1
      rw [z] at this
      have c20 := r1.1
      exact nI_nm (by omega) this.symm
    have n20 := hB.1
    have c20 := r1.1
    have ec : c = c' := (nI_eq (by omega) (by omega)).mp (r1.2.2.2.2.1.symm.trans ((f7 5 (by decide)).trans s1.2.2.2.2.1))
    subst ec
    have w8 := r1.2.2.1
    have w8' := s1.2.2.1
    have ew : w = (B c).1 := (nI_eq (by omega) (by omega)).mp (r1.2.2.2.2.2.2.2.1.symm.trans ((f7 6 (by decide)).trans s1.2.2.2.2.2.2.2.1))
    subst ew
    have k6 := r1.2.2.2.1
    have k6' := s1.2.2.2.1
    have e18 : M'.1 18 = M.1 18 := f1 18 (by decide) (by decide) (by decide) (by decide) (by decide) (by decide) (by decide) (by decide)
    have ek : k = k' := (nI_eq (by omega) (by omega)).mp (r1.2.2.2.2.2.2.2.2.2.2.1.symm.trans ((congrFun e18 3).trans s1.2.2.2.2.2.2.2.2.2.2.1))
    subst ek
    refine Or.inr ⟨c, k, xs, dn, tk, b, hc, ⟨r1, r2⟩, ⟨?_, ?_, ?_, ?_, ?_, ?_, ?_⟩, s4, s5, s6, s7, r3, r4, r5⟩
    · rw [f7 7 (by decide)]; exact s3.1
    · rw [f8 67 (by decide) (by decide) (by decide)]; exact s3.2.1
    · rw [f7 8 (by decide)]; exact s3.2.2.1
    · rw [f8 68 (by decide) (by decide) (by decide)]; exact s3.2.2.2.1
    · rw [f7 9 (by decide)]; exact s3.2.2.2.2.1
    · rw [f8 70 (by decide) (by decide) (by decide)]; exact s3.2.2.2.2.2.1
    · rw [f2 17 (by decide), f2 108 (by decide)]; exact s3.2.2.2.2.2.2

/-- the GROUP of the reference is forgotten; the rest of the RUN stays -/
theorem ruP_0 {n : Nat} {B : Nat → Nat × List bk_X} (e7 : N.1 17 = M.1 17) (e18 : N.1 18 = M.1 18) (e8 : ∀ y, 65 ≤ y → y ≤ 71 → N.1 108 y = M.1 108 y) (e1 : N.1 21 = M.1 21) (e2 : N.1 22 = M.1 22) (z : N.1 108 74 = 0) (l7 : N.2 17 = M.2 17) (l20 : N.2 20 = M.2 20) (l8 : N.2 108 = M.2 108) (l5 : ∀ j, j < 1280 → N.2 150 j = M.2 150 j) (h : ruP M n B) : ruP N n B := by
  rcases h with ⟨a, b⟩ | ⟨c, k, xs, dn, tk, b, hc, ⟨s1, s2⟩, s3, s4, s5, s6, s7, s8, s9, _⟩
  · exact Or.inl ⟨by rw [e7]; exact a, by rw [e8 65 (by decide) (by decide)]; exact b⟩
  · obtain ⟨a1, a2, a3, a4, a5, a6, a7, a8, a9, a10, a11, a12⟩ := s1
    have w2 := w256 a3
    have at2 : ∀ j x, rt_at M 20 j x → rt_at N 20 j x := fun j x hx => by
      unfold rt_at at hx ⊢
      rw [l20]
      exact hx
    have at5 : ∀ j, j < 2 ^ (B c).1 → ∀ y, rf_at M 150 j y → rf_at N 150 j y := fun j hj y hy => by
      unfold rf_at at hy ⊢
      rw [l5 _ (by omega), l5 _ (by omega), l5 _ (by omega), l5 _ (by omega), l5 _ (by omega)]
      exact hy
    refine Or.inr ⟨c, k, xs, dn, tk, b, hc, ⟨⟨a1, a2, a3, a4, by rw [e7]; exact a5, by rw [e8 65 (by decide) (by decide)]; exact a6, by rw [e8 66 (by decide) (by decide)]; exact a7, by rw [e7]; exact a8, by rw [e8 71 (by decide) (by decide)]; exact a9, by rw [e18]; exact a10, by rw [e18]; exact a11, fun j hj => ?_⟩, fun j hj => ?_, s2.2⟩, ?_, s4, s5, s6, s7, s8, ?_, Or.inl z⟩
    · obtain ⟨x, x1, x2, x3⟩ := a12 j hj
      exact ⟨x, x1, at2 j x x2, at5 j hj _ x3⟩
    · obtain ⟨x2, x3⟩ := s2.1 j hj
      exact ⟨at2 j _ x2, at5 j hj _ x3⟩
    · rw [e7, l7, l8, e8 67 (by decide) (by decide), e8 68 (by decide) (by decide), e8 70 (by decide) (by decide)]
      exact s3
    · rcases s9 with s9 | s9
      · exact Or.inl (by rw [e7]; exact s9)
      · exact Or.inr (gcG_g (by rw [e7]) e1 e2 s9)
theorem iBR_0 (h : iBRD M) (e9 : N.1 9 = M.1 9) (ei : ∀ k, 10 ≤ k → k ≤ 22 → N.1 k = M.1 k) (ej : ∀ k, 110 ≤ k → k ≤ 117 → N.1 k = M.1 k) (e6 : N.1 108 6 = M.1 108 6) (e8 : ∀ y, 65 ≤ y → y ≤ 71 → N.1 108 y = M.1 108 y) (z : N.1 108 74 = 0) (l7 : N.2 17 = M.2 17) (l20 : N.2 20 = M.2 20) (l8 : N.2 108 = M.2 108) (l5 : ∀ j, j < 1280 → N.2 150 j = M.2 150 j) : iBRD N := by
  obtain ⟨n, B, hB, hR⟩ := h
  exact ⟨n, B, bkX_cc (by rw [e9]) (fun k a b => ei k a (by omega)) (fun k a => ej k (by omega) (by omega)) (fun k a x y _ => by rw [ej k (by omega) y]) e6 hB, ruP_0 (ei 17 (by decide) (by decide)) (ei 18 (by decide) (by decide)) e8 (ei 21 (by decide) (by decide)) (ei 22 (by decide) (by decide)) z l7 l20 l8 l5 hR⟩
theorem jv_equal {M' M2 : mm_M} {v : Int32} (h1 : eqk M M') (h2 : eqf (mm_i M' 0 (upd (M'.1 0) 17 v)) M2 v) (h : IV M) : IV (M2) := by
  have F : ivF [33, 36] [(0, 17), (108, 0), (108, 74), (108, 85)] [35, 38, 118, 119, 150, 152, 160, 161] M (M2) := by
    refine ⟨fun k y a b => ?_, fun k a => ?_⟩
    · by_cases e : k = 108
      · subst e
        rw [h2.2.1 y (ko_n b rfl) (ko_n b rfl) (ko_n b rfl), mm_ne _ _ _ _ (by decide), h1.1 108 (by decide) (by decide)]
      · rw [h2.1 k e]
        by_cases e0 : k = 0
        · subst e0
          rw [mm_i1, up_ne (ko_n b rfl), h1.1 0 (by decide) (by decide)]
        · rw [mm_ne _ _ _ _ e0, h1.1 k (ki_n a rfl) (ki_n a rfl)]
    · rw [h2.2.2.2.1 k (ki_n a rfl) (ki_n a rfl) (ki_n a rfl) (ki_n a rfl) (ki_n a rfl) (ki_n a rfl)]
      exact h1.2 k (ki_n a rfl) (ki_n a rfl)
  refine IV_k h F (Or.inl rfl) (Or.inr ?_) (Or.inl rfl) (Or.inl rfl) (Or.inr ?_) (Or.inl rfl) (Or.inl rfl) (Or.inl rfl) (Or.inl rfl) (Or.inl rfl) (Or.inl rfl) (Or.inl rfl) (Or.inl rfl) (Or.inl rfl) (Or.inl rfl) (Or.inl rfl) (Or.inl rfl) (Or.inl rfl) (Or.inl rfl) (Or.inl rfl) (Or.inl rfl) (Or.inl rfl)
  · have f1 : ∀ k, k ≠ 108 → k ≠ 0 → k ≠ 33 → k ≠ 36 → M2.1 k = M.1 k := fun k a b c d => by rw [h2.1 k a, mm_ne _ _ _ _ b, h1.1 k c d]
    have f8 : ∀ y, y ≠ 0 → y ≠ 74 → y ≠ 85 → M2.1 108 y = M.1 108 y := fun y a b c => by rw [h2.2.1 y a b c, mm_ne _ _ _ _ (by decide), h1.1 108 (by decide) (by decide)]
    have f2 : ∀ k, k = 17 ∨ k = 20 ∨ k = 108 → M2.2 k = M.2 k := fun k hk => by
      rw [h2.2.2.2.1 k (by omega) (by omega) (by omega) (by omega) (by omega) (by omega)]
      exact h1.2 k (by omega) (by omega)
    refine iBR_0 h.2.1 (f1 9 (by decide) (by decide) (by decide) (by decide)) (fun k a b => f1 k (by omega) (by omega) (by omega) (by omega)) (fun k a b => f1 k (by omega) (by omega) (by omega) (by omega)) (f8 6 (by decide) (by decide) (by decide)) (fun y a b => f8 y (by omega) (by omega) (by omega)) h2.2.2.1.2.1 (f2 17 (by omega)) (f2 20 (by omega)) (f2 108 (by omega)) (fun j hj => ?_)
    rw [h2.2.2.2.2 j hj]
    show M'.2 150 j = M.2 150 j
    rw [h1.2 150 (by decide) (by decide)]
  · show _ = _
    rw [h2.1 0 (by decide), mm_i1, up_at, h2.2.2.1.2.2]

end IVJ
section RUPX
variable {ac : Nat → ClassId} {lo : Nat} {ad as : Nat → Nat} {b' L : Nat} {ys : Nat → Int32} {hp : mm_M → Nat → xm_H} {I J : mm_M → Prop}
theorem pr_runX (H : mm_L ac lo hp) (h1 : ∀ M, I M → (M.1 17 5 = -1 ∧ M.1 108 65 = 0) ∨ ∃ n c W S op k xs dn tk b, run_iv M n c W S op k xs dn tk b ∧ ruJ M n c W S op xs) (hJ : ∀ M n c W S op k xs dn tk b T gk v q o f, I M → run_iv M n c W S op k xs dn tk b → ruJ M n c W S op xs → 0 < T → dn + T ≤ S → (gk = 0 ∨ gk = M.1 108 74 ∧ (arun W (M.2 17 11) op dn (k, xs, tk, b) T).1 = k ∧ (arun W (M.2 17 11) op dn (k, xs, tk, b) T).2.1 = xs) → J (ru_af M W dn T (arun W (M.2 17 11) op dn (k, xs, tk, b) T) (-1) gk v q o f)) (hJ1 : ∀ M, I M → J (th1 M)) (hJ2 : ∀ M, I M → J (th2 M)) (p : Int32) : la_TI ac lo ad as b' L ys hp I J nm_L_run nm_X12_run [.int p] := by
  refine lt_run H p fun M hI => ?_
  by_cases hp0 : p < 1 ∨ ¬ p ≤ 400
  · refine am_wk (ru_x0 hp0) fun r M1 e => Or.inr (Or.inl ⟨e.1, ?_⟩)
    rw [e.2]
    exact am_wk (ru_m0 (d := 998) hp0) fun r M2 e => ⟨⟨0, e.1⟩, by rw [e.2]; simp [th1, mm_i, upd], by rw [e.2]; exact hJ1 M hI⟩
  · have hp1 : ¬ p < 1 := fun c => hp0 (Or.inl c)
    have hp4 : p ≤ 400 := Decidable.byContradiction fun c => hp0 (Or.inr c)
    by_cases hno : ru_no M
    · refine am_wk (ru_x2 hp1 hp4 hno) fun r M1 e => Or.inr (Or.inr ⟨e.1, ?_⟩)
      rw [e.2]
      exact am_wk (ru_m2 (d := 998) hp1 hp4 hno) fun r M2 e => ⟨⟨0, e.1⟩, by rw [e.2]; simp [th2, mm_i, upd], by rw [e.2]; exact hJ2 M hI⟩
    · rcases h1 M hI with h | ⟨n, c, W, S, op, k, xs, dn, tk, b, h, hQ⟩
      · exact absurd (Or.inl h) hno
      · have hdS : dn < S := by
          have h2 := h.2.2.2.1
          apply Decidable.byContradiction
          intro hc
          exact hno (Or.inr ⟨n, c, W, S, op, k, xs, dn, tk, b, h, by omega⟩)
        obtain ⟨m, m1, m4, rfl⟩ := nI_ne1 hp1 hp4
        refine am_wk (ru_x1 (d := 992) (T := min m (S - dn)) h rfl m1 m4 hdS rfl true) fun r M1 e => Or.inl ⟨_, e.1, ?_⟩
        obtain ⟨_, gv, hgv, rfl⟩ := e
        have hgv := hgv (by omega)
        subst hgv
        generalize eT : min m (S - dn) = T
        have hT0 : 0 < T := by omega
        have hTS : dn + T ≤ S := by omega
        have hr0 : run_rv M n c W S op k xs dn tk b := run_r h
        have hr : run_rv (lt_o (cF M (c17 (M.1 17) (dn + T) (arun W (M.2 17 11) op dn (k, xs, tk, b) T).2.2.1 (arun W (M.2 17 11) op dn (k, xs, tk, b) T).2.2.2 (-1)) (upd (M.1 18) 3 (nI (arun W (M.2 17 11) op dn (k, xs, tk, b) T).1)) (cq (M.2 20) (2 ^ W) (arun W (M.2 17 11) op dn (k, xs, tk, b) T).2.1)) (nI T).toInt64) n c W S op k xs dn tk b := hr0
        refine ru_m1 (d := 993) (tape := M.2 17 11) hr h.2.2.1.2.2.2.2.2.2.symm m1 m4 hdS eT.symm fun q o f gk hg => ⟨rfl, ?_, ?_, ?_⟩
        · show (rF _ _ _ _ _ _).1 108 0 = 0
          rw [rF_108]
          show (th0 _).1 108 0 = 0
          simp [th0, mm_i, upd]
        · simp [rF, v4, th0, lt_o, mm_i, mm_l, vp_updL]
        · exact hJ M n c W S op k xs dn tk b T gk _ q o f hI h hQ hT0 hTS hg
end RUPX
