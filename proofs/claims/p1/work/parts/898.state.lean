/-! the pair state: what a RUN tells of itself -/
theorem bd_red : ∀ (k : Nat) (x : R4), bd x → bd (red k x).1
  | 0, x, h => h
  | k + 1, x, h => by
    simp only [red]
    by_cases h0 : x = (0, 0, 0, 0)
    · rw [if_pos h0]
      exact h
    · rw [if_neg h0]
      by_cases hd : dvB x = true
      · rw [if_pos hd]
        exact bd_red k (hv x) (bd_hv h)
      · rw [if_neg hd]
        exact h
theorem rn_0 : ∀ n, rn n (0, 0, 0, 0) = (0, 0, 0, 0)
  | 0 => rfl
  | n + 1 => by
    show rr (rn n (0, 0, 0, 0)) = _
    rw [rn_0 n]
    rfl
theorem red_z (k : Nat) (x : R4) : (red k x).1 = (0, 0, 0, 0) ↔ x = (0, 0, 0, 0) := by
  constructor
  · intro h
    have := (red_v k x).2
    rw [h, rn_0] at this
    exact this.symm
  · intro h
    rw [h, red_0]
/-- the class's ROOT j is 0 -/
def zb (M : mm_M) (j : Nat) : Bool := decide (M.2 20 (4 * j) = 0 ∧ M.2 20 (4 * j + 1) = 0 ∧ M.2 20 (4 * j + 2) = 0 ∧ M.2 20 (4 * j + 3) = 0)
def zn (M : mm_M) : Nat → Nat
  | 0 => 0
  | j + 1 => zn M j + if zb M j = true then 0 else 1
theorem zn_le (M : mm_M) : ∀ j, zn M j ≤ j
  | 0 => Nat.le_refl _
  | j + 1 => by
    simp only [zn]
    have := zn_le M j
    split <;> omega
theorem r4_0 {x : R4} (h : bd x) : x = (0, 0, 0, 0) ↔ lI x.1 = 0 ∧ lI x.2.1 = 0 ∧ lI x.2.2.1 = 0 ∧ lI x.2.2.2 = 0 := by
  obtain ⟨a, b, c, d⟩ := x
  simp only [bd] at h
  show _ ↔ lI a = 0 ∧ lI b = 0 ∧ lI c = 0 ∧ lI d = 0
  rw [lI_0 (by omega) (by omega), lI_0 (by omega) (by omega), lI_0 (by omega) (by omega), lI_0 (by omega) (by omega)]
  simp only [Prod.mk.injEq]
theorem zb_iff {M : mm_M} {j : Nat} {x : R4} (hb : bd x) (h : rt_at M 20 j x) : zb M j = true ↔ x = (0, 0, 0, 0) := by
  unfold zb
  rw [decide_eq_true_iff, h.1, h.2.1, h.2.2.1, h.2.2.2, r4_0 hb]
section STA
variable {d : Nat} {M : mm_M}
set_option maxRecDepth 100000 in
theorem ct_isz18 {i : Nat} (hi : i < 256) : am_M (d + 1) false nm_X6_isZero [aR 18, aI (nI i)] M (am_q1 (aI (if zb M i = true then 1 else 0)) M) := by
  have e4 : (4 : Int32) * nI i = nI (4 * i) := by rw [show (4 : Int32) = nI 4 from rfl, nI_mul]
  refine ⟨rfl, rfl, rfl, fun X hX => am_run hX 60 _ _ _ _ ?_⟩
  conv => whnf
  rw [e4]
  refine ⟨vp_in_nI (by show _ < 1024; omega) (by decide), ?_⟩
  conv => whnf
  rw [e4, show (1 : Int32) = nI 1 from rfl, nI_add]
  refine ⟨vp_in_nI (by show _ < 1024; omega) (by decide), ?_⟩
  conv => whnf
  rw [e4, show (2 : Int32) = nI 2 from rfl, nI_add]
  refine ⟨vp_in_nI (by show _ < 1024; omega) (by decide), ?_⟩
  conv => whnf
  rw [e4, show (3 : Int32) = nI 3 from rfl, nI_add]
  refine ⟨vp_in_nI (by show _ < 1024; omega) (by decide), ?_⟩
  conv => whnf
  rw [nI_clamp (n := 4 * i) (by omega), nI_clamp (n := 4 * i + 1) (by omega), nI_clamp (n := 4 * i + 2) (by omega), nI_clamp (n := 4 * i + 3) (by omega), lg_0, lor_0, lor_0, lor_0]
  have e : ((M.2 20 (4 * i) = 0 ∧ M.2 20 (4 * i + 1) = 0) ∧ M.2 20 (4 * i + 2) = 0) ∧ M.2 20 (4 * i + 3) = 0 ↔ zb M i = true := by
    unfold zb
    rw [decide_eq_true_iff]
    constructor
    · rintro ⟨⟨⟨h1, h2⟩, h3⟩, h4⟩; exact ⟨h1, h2, h3, h4⟩
    · rintro ⟨h1, h2, h3, h4⟩; exact ⟨⟨⟨h1, h2⟩, h3⟩, h4⟩
  rw [e]
  refine ⟨fun hc => ?_, fun hc => ?_⟩
  · conv => whnf
    rw [if_neg hc]
    exact ⟨rfl, rfl, rfl⟩
  · conv => whnf
    rw [if_pos (Decidable.byContradiction hc)]
    exact ⟨rfl, rfl, rfl⟩
set_option maxRecDepth 100000 in
theorem ct_isz150 {i k : Nat} {x : R4} (hi : i < 256) (hb : bd x) (hr : rt_at M 20 i x) (hx : rf_at M 150 i (red k x)) : am_M (d + 1) false nm_X12_isZeroAt [aR 108, aI (nI i)] M (am_q1 (aI (if zb M i = true then 1 else 0)) M) := by
  have e5 : (5 : Int32) * nI i = nI (5 * i) := by rw [show (5 : Int32) = nI 5 from rfl, nI_mul]
  obtain ⟨x1, x2, x3, x4, _⟩ := hx
  have hz : zb M i = true ↔ _ := (zb_iff hb hr).trans ((red_z k x).symm.trans (r4_0 (bd_red k x hb)))
  refine ⟨rfl, rfl, rfl, fun X hX => am_run hX 60 _ _ _ _ ?_⟩
  conv => whnf
  rw [e5]
  refine ⟨vp_in_nI (by show _ < 1280; omega) (by decide), ?_⟩
  conv => whnf
  rw [nI_clamp (n := 5 * i) (by omega), x1, lg_0]
  refine ⟨fun hc => ?_, fun hc1 => ?_⟩
  · conv => whnf
    rw [if_neg (fun q => hc (hz.mp q).1)]
    exact ⟨rfl, rfl, rfl⟩
  conv => whnf
  rw [e5, show (1 : Int32) = nI 1 from rfl, nI_add]
  refine ⟨vp_in_nI (by show _ < 1280; omega) (by decide), ?_⟩
  conv => whnf
  rw [nI_clamp (n := 5 * i + 1) (by omega), x2, lg_0]
  refine ⟨fun hc => ?_, fun hc2 => ?_⟩
  · conv => whnf
    rw [if_neg (fun q => hc (hz.mp q).2.1)]
    exact ⟨rfl, rfl, rfl⟩
  conv => whnf
  rw [e5, show (2 : Int32) = nI 2 from rfl, nI_add]
  refine ⟨vp_in_nI (by show _ < 1280; omega) (by decide), ?_⟩
  conv => whnf
  rw [nI_clamp (n := 5 * i + 2) (by omega), x3, lg_0]
  refine ⟨fun hc => ?_, fun hc3 => ?_⟩
  · conv => whnf
    rw [if_neg (fun q => hc (hz.mp q).2.2.1)]
    exact ⟨rfl, rfl, rfl⟩
  conv => whnf
  rw [e5, show (3 : Int32) = nI 3 from rfl, nI_add]
  refine ⟨vp_in_nI (by show _ < 1280; omega) (by decide), ?_⟩
  conv => whnf
  rw [nI_clamp (n := 5 * i + 3) (by omega), x4, lg_0]
  refine ⟨fun hc => ?_, fun hc4 => ?_⟩
  · conv => whnf
    rw [if_neg (fun q => hc (hz.mp q).2.2.2)]
    exact ⟨rfl, rfl, rfl⟩
  conv => whnf
  rw [if_pos (hz.mpr ⟨Decidable.byContradiction hc1, Decidable.byContradiction hc2, Decidable.byContradiction hc3, Decidable.byContradiction hc4⟩)]
  exact ⟨rfl, rfl, rfl⟩
set_option maxRecDepth 100000 in
theorem cz_l {P : am_Q} {X : am_X} {N : Nat} (hX : am_K (d + 1) false nm_X6_countNotZero P X) (hN : M.1 18 2 = nI N) (hN2 : N ≤ 256) (hP : P (.inl (some (aI (nI (zn M N))))) M) : ∀ (m i : Nat), i + m = N → X 4 [some (aR 18), some (aI (nI (zn M i))), some (aI (nI i))] [] M := by
  intro m
  induction m with
  | zero =>
    intro i hi
    have hi : i = N := by omega
    subst hi
    refine am_run hX 10 _ _ _ _ ?_
    conv => whnf
    rw [hN]
    refine ⟨fun _ => ?_, fun c => absurd (nI_le (by omega) (by omega)) c⟩
    conv => whnf
    exact ⟨trivial, hP⟩
  | succ m ih =>
    intro i hi
    have hle := zn_le M i
    refine am_run hX 4 _ _ _ _ ?_
    conv => whnf
    rw [hN]
    refine ⟨fun c => absurd c (nI_ge (by omega) (by omega)), fun _ => ?_⟩
    refine am_run hX 5 _ _ _ _ ?_
    conv => whnf
    refine am_c1 (ct_isz18 (d := d) (i := i) (by omega)) ?_
    have ih := ih (i + 1) (by omega)
    simp only [zn] at ih
    by_cases hz : zb M i = true
    · rw [if_pos hz] at ih
      rw [if_pos hz]
      conv => whnf
      refine ⟨fun c => absurd c (by decide), fun _ => ?_⟩
      refine am_run hX 6 _ _ _ _ ?_
      conv => whnf
      rw [nI_1, show (0 : Int32) = nI 0 from rfl, nI_add]
      exact ih
    · rw [if_neg hz] at ih
      rw [if_neg hz]
      conv => whnf
      refine ⟨fun _ => ?_, fun c => absurd rfl c⟩
      refine am_run hX 5 _ _ _ _ ?_
      conv => whnf
      rw [nI_1, nI_1]
      exact ih
set_option maxRecDepth 100000 in
theorem ct_cnz {N : Nat} (hN : M.1 18 2 = nI N) (hN2 : N ≤ 256) : am_M (d + 2) false nm_X6_countNotZero [aR 18] M (am_q1 (aI (nI (zn M N))) M) := by
  refine ⟨rfl, rfl, rfl, fun X hX => am_run hX 4 _ _ _ _ ?_⟩
  conv => whnf
  exact cz_l hX hN hN2 ⟨rfl, rfl⟩ N 0 (by omega)
/-- the RUN's numbers as both have them -/
def ru_f (M : mm_M) : Prop := M.1 17 7 = M.1 108 67 ∧ M.1 17 8 = M.1 108 68 ∧ M.1 17 9 = M.1 108 70
def st_v (M : mm_M) (w q : Nat) : Int32 := if q = 0 then M.1 17 5 else if q = 1 then M.1 17 7 else if q = 2 then M.1 17 8 else if q < 7 then M.1 17 9 >>> ((nI q - 3) &&& 31) &&& 1 else nI (zn M (2 ^ w))
set_option maxRecDepth 100000 in
theorem st_x1 {c w k q : Nat} (h : ru_s M c w k) (hq : q < 8) : am_M (d + 3) false nm_X11_state [aR 0, aI (nI q)] M (am_q1 (aI (st_v M w q)) M) := by
  obtain ⟨c20, w1, w8, k60, e1, e2, e3, e4, e5, e6, e7, _⟩ := h
  have hw := w256 w8
  refine ⟨rfl, rfl, rfl, fun X hX => am_run hX 40 _ _ _ _ ?_⟩
  conv => whnf
  refine ⟨fun _ => ?_, fun c => absurd (by rw [e1]; exact nI_nm (by omega)) c⟩
  rcases (by omega : q = 0 ∨ q = 1 ∨ q = 2 ∨ q = 3 ∨ q = 4 ∨ q = 5 ∨ q = 6 ∨ q = 7) with rfl | rfl | rfl | rfl | rfl | rfl | rfl | rfl
  · conv => whnf
    refine ⟨fun _ => ?_, fun c => absurd rfl c⟩
    conv => whnf
    exact ⟨trivial, rfl, rfl⟩
  · conv => whnf
    refine ⟨fun c => absurd c (by decide), fun _ => ?_⟩
    refine ⟨fun _ => ?_, fun c => absurd rfl c⟩
    conv => whnf
    exact ⟨trivial, rfl, rfl⟩
  · conv => whnf
    refine ⟨fun c => absurd c (by decide), fun _ => ?_⟩
    refine ⟨fun c => absurd c (by decide), fun _ => ?_⟩
    refine ⟨fun _ => ?_, fun c => absurd rfl c⟩
    conv => whnf
    exact ⟨trivial, rfl, rfl⟩
  · conv => whnf
    refine ⟨fun c => absurd c (by decide), fun _ => ?_⟩
    refine ⟨fun c => absurd c (by decide), fun _ => ?_⟩
    refine ⟨fun c => absurd c (by decide), fun _ => ?_⟩
    refine ⟨fun _ => ?_, fun c => absurd rfl c⟩
    conv => whnf
    exact ⟨trivial, rfl, rfl⟩
  · conv => whnf
    refine ⟨fun c => absurd c (by decide), fun _ => ?_⟩
    refine ⟨fun c => absurd c (by decide), fun _ => ?_⟩
    refine ⟨fun c => absurd c (by decide), fun _ => ?_⟩
    refine ⟨fun c => absurd c (by decide), fun _ => ?_⟩
    refine ⟨fun _ => ?_, fun c => absurd rfl c⟩
    conv => whnf
    exact ⟨trivial, rfl, rfl⟩
  · conv => whnf
    refine ⟨fun c => absurd c (by decide), fun _ => ?_⟩
    refine ⟨fun c => absurd c (by decide), fun _ => ?_⟩
    refine ⟨fun c => absurd c (by decide), fun _ => ?_⟩
    refine ⟨fun c => absurd c (by decide), fun _ => ?_⟩
    refine ⟨fun c => absurd c (by decide), fun _ => ?_⟩
    refine ⟨fun _ => ?_, fun c => absurd rfl c⟩
    conv => whnf
    exact ⟨trivial, rfl, rfl⟩
  · conv => whnf
    refine ⟨fun c => absurd c (by decide), fun _ => ?_⟩
    refine ⟨fun c => absurd c (by decide), fun _ => ?_⟩
    refine ⟨fun c => absurd c (by decide), fun _ => ?_⟩
    refine ⟨fun c => absurd c (by decide), fun _ => ?_⟩
    refine ⟨fun c => absurd c (by decide), fun _ => ?_⟩
    refine ⟨fun c => absurd c (by decide), fun _ => ?_⟩
    refine ⟨fun _ => ?_, fun c => absurd rfl c⟩
    conv => whnf
    exact ⟨trivial, rfl, rfl⟩
  · conv => whnf
    refine ⟨fun c => absurd c (by decide), fun _ => ?_⟩
    refine ⟨fun c => absurd c (by decide), fun _ => ?_⟩
    refine ⟨fun c => absurd c (by decide), fun _ => ?_⟩
    refine ⟨fun c => absurd c (by decide), fun _ => ?_⟩
    refine ⟨fun c => absurd c (by decide), fun _ => ?_⟩
    refine ⟨fun c => absurd c (by decide), fun _ => ?_⟩
    refine ⟨fun c => absurd c (by decide), fun _ => ?_⟩
    refine ⟨fun _ => ?_, fun c => absurd rfl c⟩
    conv => whnf
    refine am_c1 (ct_cnz (d := d) (N := 2 ^ w) e6 hw) ?_
    conv => whnf
    exact ⟨trivial, rfl, rfl⟩
set_option maxRecDepth 100000 in
theorem st_x0 {p : Int32} (h : M.1 17 5 = -1 ∨ p < 0 ∨ 7 < p) : am_M (d + 1) false nm_X11_state [aR 0, aI p] M (am_q1 (aI (-1)) M) := by
  refine ⟨rfl, rfl, rfl, fun X hX => am_run hX 40 _ _ _ _ ?_⟩
  conv => whnf
  refine ⟨fun c => ?_, fun _ => ?_⟩
  · have h := h.resolve_left c
    conv => whnf
    refine ⟨fun c => absurd (show (0 : Int32) < 0 ∨ 7 < (0 : Int32) from (show p = 0 from c) ▸ h) (by decide), fun _ => ?_⟩
    refine ⟨fun c => absurd (show (1 : Int32) < 0 ∨ 7 < (1 : Int32) from (show p = 1 from c) ▸ h) (by decide), fun _ => ?_⟩
    refine ⟨fun c => absurd (show (2 : Int32) < 0 ∨ 7 < (2 : Int32) from (show p = 2 from c) ▸ h) (by decide), fun _ => ?_⟩
    refine ⟨fun c => absurd (show (3 : Int32) < 0 ∨ 7 < (3 : Int32) from (show p = 3 from c) ▸ h) (by decide), fun _ => ?_⟩
    refine ⟨fun c => absurd (show (4 : Int32) < 0 ∨ 7 < (4 : Int32) from (show p = 4 from c) ▸ h) (by decide), fun _ => ?_⟩
    refine ⟨fun c => absurd (show (5 : Int32) < 0 ∨ 7 < (5 : Int32) from (show p = 5 from c) ▸ h) (by decide), fun _ => ?_⟩
    refine ⟨fun c => absurd (show (6 : Int32) < 0 ∨ 7 < (6 : Int32) from (show p = 6 from c) ▸ h) (by decide), fun _ => ?_⟩
    refine ⟨fun c => absurd (show (7 : Int32) < 0 ∨ 7 < (7 : Int32) from (show p = 7 from c) ▸ h) (by decide), fun _ => ?_⟩
    conv => whnf
    exact ⟨trivial, rfl, rfl⟩
  · conv => whnf
    exact ⟨trivial, rfl, rfl⟩
set_option maxRecDepth 100000 in
theorem st_l {P : am_Q} {X : am_X} {c w k : Nat} {p : Int32} (h : ru_s M c w k) (hX : am_K (d + 1) false nm_X12_state P X) (hP : ∀ l3, X 60 [some (aR 108), some (aI p), some (aI (nI (zn M (2 ^ w)))), l3] [] M) : ∀ (m i : Nat), i + m = 2 ^ w → X 28 [some (aR 108), some (aI p), some (aI (nI (zn M i))), some (aI (nI i))] [] M := by
  obtain ⟨c20, w1, w8, k60, e1, e2, e3, e4, e5, e6, e7, hall⟩ := h
  have hw := w256 w8
  intro m
  induction m with
  | zero =>
    intro i hi
    have hi : i = 2 ^ w := by omega
    subst hi
    refine am_run hX 6 _ _ _ _ ?_
    conv => whnf
    rw [e5, sh2 w (by omega)]
    exact ⟨fun _ => hP _, fun c => absurd (nI_le (by omega) (by omega)) c⟩
  | succ m ih =>
    intro i hi
    have hle := zn_le M i
    obtain ⟨x, hb, hr, hx⟩ := hall i (by omega)
    refine am_run hX 6 _ _ _ _ ?_
    conv => whnf
    rw [e5, sh2 w (by omega)]
    refine ⟨fun c => absurd c (nI_ge (by omega) (by omega)), fun _ => ?_⟩
    refine am_run hX 5 _ _ _ _ ?_
    conv => whnf
    refine am_c1 (ct_isz150 (d := d) (i := i) (by omega) hb hr hx) ?_
    have ih := ih (i + 1) (by omega)
    simp only [zn] at ih
    by_cases hz : zb M i = true
    · rw [if_pos hz] at ih
      rw [if_pos hz]
      conv => whnf
      refine ⟨fun c => absurd c (by decide), fun _ => ?_⟩
      refine am_run hX 6 _ _ _ _ ?_
      conv => whnf
      rw [nI_1, show (0 : Int32) = nI 0 from rfl, nI_add]
      exact ih
    · rw [if_neg hz] at ih
      rw [if_neg hz]
      conv => whnf
      refine ⟨fun _ => ?_, fun c => absurd rfl c⟩
      refine am_run hX 5 _ _ _ _ ?_
      conv => whnf
      rw [nI_1, nI_1]
      exact ih
theorem ru_th {c w k : Nat} (h : ru_s M c w k) : ru_s (th0 M) c w k := h
set_option maxRecDepth 100000 in
theorem st_m1 {c w k q : Nat} (h : ru_s M c w k) (hf : ru_f M) (hq : q < 8) : am_M (d + 2) false nm_X12_state [aR 108, aI (nI q)] M (am_q1 (aI (st_v M w q)) (th0 M)) := by
  have hh := ru_th h
  obtain ⟨c20, w1, w8, k60, e1, e2, e3, e4, e5, e6, e7, _⟩ := h
  have hw := w256 w8
  refine ⟨rfl, rfl, rfl, fun X hX => am_run hX 6 _ _ _ _ ?_⟩
  conv => whnf
  rw [show (mm_i M 108 (upd (M.1 108) 0 0)).1 108 65 = 1 from e2]
  refine ⟨fun c => absurd c (by decide), fun _ => ?_⟩
  refine am_run hX 2 _ _ _ _ ?_
  conv => whnf
  refine ⟨fun c => absurd c (nI_pos (by omega)), fun _ => ?_⟩
  refine am_run hX 3 _ _ _ _ ?_
  conv => whnf
  refine ⟨fun _ => ?_, fun c => absurd (nI_le (b := 7) (by omega) (by decide)) c⟩
  refine am_run hX 4 _ _ _ _ ?_
  conv => whnf
  refine st_l (M := th0 M) (p := nI q) hh hX (fun l3 => ?_) (2 ^ w) 0 (by omega)
  refine am_run hX 40 _ _ _ _ ?_
  have z : zn (th0 M) (2 ^ w) = zn M (2 ^ w) := by
    have : ∀ n, zn (th0 M) n = zn M n := by
      intro n
      induction n with
      | zero => rfl
      | succ n ih => simp only [zn]; rw [ih]; rfl
    exact this _
  rw [z]
  rcases (by omega : q = 0 ∨ q = 1 ∨ q = 2 ∨ q = 3 ∨ q = 4 ∨ q = 5 ∨ q = 6 ∨ q = 7) with rfl | rfl | rfl | rfl | rfl | rfl | rfl | rfl
  · conv => whnf
    refine ⟨fun c => absurd rfl c, fun _ => ?_⟩
    conv => whnf
    refine ⟨trivial, ?_, rfl⟩
    refine congrArg (fun v => Sum.inl (some v)) ?_
    exact (by show aI (M.1 108 66) = aI (M.1 17 5); rw [e3, e1])
  · conv => whnf
    refine ⟨fun _ => ?_, fun c => absurd (by decide) c⟩
    conv => whnf
    refine ⟨fun c => absurd rfl c, fun _ => ?_⟩
    conv => whnf
    refine ⟨trivial, ?_, rfl⟩
    refine congrArg (fun v => Sum.inl (some v)) ?_
    exact (by show aI (M.1 108 67) = aI (M.1 17 7); rw [hf.1])
  · conv => whnf
    refine ⟨fun _ => ?_, fun c => absurd (by decide) c⟩
    conv => whnf
    refine ⟨fun _ => ?_, fun c => absurd (by decide) c⟩
    conv => whnf
    refine ⟨fun c => absurd rfl c, fun _ => ?_⟩
    conv => whnf
    refine ⟨trivial, ?_, rfl⟩
    refine congrArg (fun v => Sum.inl (some v)) ?_
    exact (by show aI (M.1 108 68) = aI (M.1 17 8); rw [hf.2.1])
  · conv => whnf
    refine ⟨fun _ => ?_, fun c => absurd (by decide) c⟩
    conv => whnf
    refine ⟨fun _ => ?_, fun c => absurd (by decide) c⟩
    conv => whnf
    refine ⟨fun _ => ?_, fun c => absurd (by decide) c⟩
    conv => whnf
    refine ⟨fun c => absurd c (by decide), fun _ => ?_⟩
    conv => whnf
    refine ⟨trivial, ?_, rfl⟩
    refine congrArg (fun v => Sum.inl (some v)) ?_
    exact (by show aI (M.1 108 70 >>> ((nI 3 - 3) &&& 31) &&& 1) = aI (M.1 17 9 >>> ((nI 3 - 3) &&& 31) &&& 1); rw [hf.2.2])
  · conv => whnf
    refine ⟨fun _ => ?_, fun c => absurd (by decide) c⟩
    conv => whnf
    refine ⟨fun _ => ?_, fun c => absurd (by decide) c⟩
    conv => whnf
    refine ⟨fun _ => ?_, fun c => absurd (by decide) c⟩
    conv => whnf
    refine ⟨fun c => absurd c (by decide), fun _ => ?_⟩
    conv => whnf
    refine ⟨trivial, ?_, rfl⟩
    refine congrArg (fun v => Sum.inl (some v)) ?_
    exact (by show aI (M.1 108 70 >>> ((nI 4 - 3) &&& 31) &&& 1) = aI (M.1 17 9 >>> ((nI 4 - 3) &&& 31) &&& 1); rw [hf.2.2])
  · conv => whnf
    refine ⟨fun _ => ?_, fun c => absurd (by decide) c⟩
    conv => whnf
    refine ⟨fun _ => ?_, fun c => absurd (by decide) c⟩
    conv => whnf
    refine ⟨fun _ => ?_, fun c => absurd (by decide) c⟩
    conv => whnf
    refine ⟨fun c => absurd c (by decide), fun _ => ?_⟩
    conv => whnf
    refine ⟨trivial, ?_, rfl⟩
    refine congrArg (fun v => Sum.inl (some v)) ?_
    exact (by show aI (M.1 108 70 >>> ((nI 5 - 3) &&& 31) &&& 1) = aI (M.1 17 9 >>> ((nI 5 - 3) &&& 31) &&& 1); rw [hf.2.2])
  · conv => whnf
    refine ⟨fun _ => ?_, fun c => absurd (by decide) c⟩
    conv => whnf
    refine ⟨fun _ => ?_, fun c => absurd (by decide) c⟩
    conv => whnf
    refine ⟨fun _ => ?_, fun c => absurd (by decide) c⟩
    conv => whnf
    refine ⟨fun c => absurd c (by decide), fun _ => ?_⟩
    conv => whnf
    refine ⟨trivial, ?_, rfl⟩
    refine congrArg (fun v => Sum.inl (some v)) ?_
    exact (by show aI (M.1 108 70 >>> ((nI 6 - 3) &&& 31) &&& 1) = aI (M.1 17 9 >>> ((nI 6 - 3) &&& 31) &&& 1); rw [hf.2.2])
  · conv => whnf
    refine ⟨fun _ => ?_, fun c => absurd (by decide) c⟩
    conv => whnf
    refine ⟨fun _ => ?_, fun c => absurd (by decide) c⟩
    conv => whnf
    refine ⟨fun _ => ?_, fun c => absurd (by decide) c⟩
    conv => whnf
    refine ⟨fun _ => ?_, fun c => absurd (by decide) c⟩
    conv => whnf
    refine ⟨trivial, ?_, rfl⟩
    refine congrArg (fun v => Sum.inl (some v)) ?_
    exact (rfl)
set_option maxRecDepth 100000 in
theorem st_m0 {p : Int32} (h : M.1 108 65 = 0 ∨ p < 0 ∨ 7 < p) : am_M (d + 1) false nm_X12_state [aR 108, aI p] M (am_q1 (aI (-1)) (th0 M)) := by
  refine ⟨rfl, rfl, rfl, fun X hX => am_run hX 6 _ _ _ _ ?_⟩
  conv => whnf
  refine ⟨fun _ => ?_, fun c => ?_⟩
  · refine am_run hX 4 _ _ _ _ ?_
    conv => whnf
    exact ⟨trivial, rfl, rfl⟩
  · have h := h.resolve_left c
    refine am_run hX 2 _ _ _ _ ?_
    conv => whnf
    refine ⟨fun _ => ?_, fun c2 => ?_⟩
    · refine am_run hX 4 _ _ _ _ ?_
      conv => whnf
      exact ⟨trivial, rfl, rfl⟩
    · have h := h.resolve_left c2
      refine am_run hX 3 _ _ _ _ ?_
      conv => whnf
      refine ⟨fun c3 => absurd c3 (Int32.not_le.mpr h), fun _ => ?_⟩
      refine am_run hX 4 _ _ _ _ ?_
      conv => whnf
      exact ⟨trivial, rfl, rfl⟩
end STA
section STP
variable {ac : Nat → ClassId} {lo : Nat} {ad as : Nat → Nat} {b L : Nat} {xs : Nat → Int32} {hp : mm_M → Nat → xm_H} {I J : mm_M → Prop}
theorem pr_state (H : mm_L ac lo hp) (h1 : ∀ M, I M → ru_iv M ∧ ru_f M) (hJ : ∀ M, I M → J (th0 M)) (p : Int32) : la_I ac lo ad as b L xs hp I J nm_X11_state nm_X12_state [.int p] := by
  refine am_la_I (us := [aI p]) H fun M hI => ?_
  obtain ⟨h, hf⟩ := h1 M hI
  have no : (M.1 17 5 = -1 ∨ p < 0 ∨ 7 < p) → (M.1 108 65 = 0 ∨ p < 0 ∨ 7 < p) → am_M 1000 false nm_X11_state [aR 0, aI p] M (fun r M1 => ∃ v, r = .inl (some (aI v)) ∧ am_M 1000 false nm_X12_state [aR 108, aI p] M1 (fun r M2 => r = .inl (some (aI v)) ∧ J M2)) := fun g1 g2 => by
    refine am_wk (st_x0 (d := 999) g1) fun r M1 e => ⟨-1, e.1, ?_⟩
    rw [e.2]
    exact am_wk (st_m0 (d := 999) g2) fun r M1 e => ⟨e.1, by rw [e.2]; exact hJ M hI⟩
  rcases h with h | ⟨c, w, k, h⟩
  · exact no (Or.inl h.1) (Or.inl h.2)
  · by_cases hp : p < 0 ∨ 7 < p
    · exact no (Or.inr hp) (Or.inr hp)
    · have b0 : ¬ p < 0 := fun c => hp (Or.inl c)
      obtain ⟨q, hq, rfl⟩ := nI_of b0
      have q8 : q < 8 := by
        apply Decidable.byContradiction
        intro hc
        exact hp (Or.inr (nI_lt (a := 7) (by omega) hq))
      refine am_wk (st_x1 (d := 997) h q8) fun r M1 e => ⟨_, e.1, ?_⟩
      rw [e.2]
      exact am_wk (st_m1 (d := 998) h hf q8) fun r M1 e => ⟨e.1, by rw [e.2]; exact hJ M hI⟩
end STP
