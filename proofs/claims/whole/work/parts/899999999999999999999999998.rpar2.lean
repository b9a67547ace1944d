/-! code: rows are read at the reference -/
/-- what reading may change at the reference -/
def crF (M N : mm_M) : Prop := (∀ k, k ≠ 108 → k ≠ 178 → k ≠ 179 → k ≠ 180 → N.1 k = M.1 k) ∧ N.2 = M.2 ∧ ∀ y, y ≠ 3 → y ≠ 4 → y ≠ 5 → y ≠ 114 → y ≠ 115 → N.1 108 y = M.1 108 y
theorem crF_r (M : mm_M) : crF M M := ⟨fun _ _ _ _ _ => rfl, rfl, fun _ _ _ _ _ _ => rfl⟩
theorem crF_t {M N K : mm_M} (h : crF M N) (g : crF N K) : crF M K := ⟨fun k a b c e => (g.1 k a b c e).trans (h.1 k a b c e), g.2.1.trans h.2.1, fun y a b c e f => (g.2.2 y a b c e f).trans (h.2.2 y a b c e f)⟩
theorem crF_sa (M : mm_M) (i : Nat) : crF M (saM M i) := by
  refine ⟨fun k a b c e => mm_ne _ _ _ _ a, rfl, fun y a b c e f => ?_⟩
  unfold saM
  rw [mm_i1]
  exact if_neg a
theorem crF_rf (M : mm_M) (i : Nat) : crF M (rfM M i) := by
  refine ⟨fun k a b c e => mm_ne _ _ _ _ a, rfl, fun y a b c e f => ?_⟩
  unfold rfM
  rw [mm_i1]
  unfold upd
  rw [if_neg c, if_neg b, if_neg a]
/-- the reference has read s: its rows, the one under way too -/
def crS (M : mm_M) (s : cpS) : Prop := (0 < s.2.1 → M.1 108 114 = nI s.1) ∧ (∀ j, (j < s.2.1 ∨ j = s.2.1 ∧ 0 < s.2.2.1) → M.1 178 j = nI (s.2.2.2.1 j) ∧ M.1 179 j = nI (s.2.2.2.2.1 j) ∧ M.1 180 j = nI (s.2.2.2.2.2 j)) ∧ (s.2.2.1 = 0 → M.1 178 s.2.1 = 0 ∧ M.1 179 s.2.1 = 0)
theorem crS_sa {M : mm_M} {s : cpS} (h : crS M s) (i : Nat) : crS (saM M i) s := h
/-- no letter can be taken here -/
def crX (T : Nat → Nat) (t i : Nat) (s : cpS) : Prop := i = t ∨ ¬ (cpD (T i) < 4 ∧ s.2.2.1 < cpL s)
theorem crX_b {T : Nat → Nat} {t i : Nat} {s : cpS} (hi : i ≤ t) (hR : cpR T i = .inl s) (h : crX T t i s) (h32 : i = t ∨ T i ≠ 32) (hno : ¬ (T i = 44 ∧ cpF s = true ∧ s.2.1 + 1 < s.2.2.1)) (hf : i = t → cpF s = false) : cpE T t = .inr i := by
  by_cases e : i = t
  · subst e
    unfold cpE
    rw [hR]
    simp only [hf rfl]
    rfl
  · have h1 : cpR T (i + 1) = .inr i := by
      conv => lhs; unfold cpR
      rw [hR]
      simp only [if_neg (h32.resolve_left e)]
      have : cpT (T i) i s = none := by
        unfold cpT
        by_cases c44 : T i = 44
        · rw [if_pos c44, if_neg (fun q => hno ⟨c44, q⟩)]
        · rw [if_neg c44, if_neg (h.resolve_left e)]
      rw [this]
    have h2 := cpR_w T h1 (t - (i + 1))
    rw [show i + 1 + (t - (i + 1)) = t by omega] at h2
    unfold cpE
    rw [h2]
section RPB
variable {d : Nat} {M : mm_M} {T : Nat → Nat} {t : Nat}
/-- what a row's reading leaves -/
def rrQ (M : mm_M) (T : Nat → Nat) (t row : Nat) : am_Q := fun r N => crF M N ∧ N.1 108 115 = M.1 108 115 ∧
  ((∃ i s, r = .inl (some (aI 1)) ∧ N.1 108 4 = M.1 108 4 ∧ N.1 108 5 = M.1 108 5 ∧ N.1 108 3 = nI i ∧ i ≤ t ∧ (i = t ∨ T i ≠ 32) ∧ cpR T i = .inl s ∧ s.2.1 = row ∧ 0 < s.2.2.1 ∧ cpF s = true ∧ N.1 108 114 = nI s.2.2.1 ∧ crX T t i s ∧ crS N s) ∨
   (∃ p, r = .inl (some (aI 0)) ∧ N.1 108 4 = 1 ∧ N.1 108 5 = nI p ∧ cpE T t = .inr p))
set_option maxRecDepth 100000 in
/-- a row is at its end -/
theorem rrE {X : am_X} {N : mm_M} {i row : Nat} {s : cpS} {l3 l4 l5 : Option am_V} (hX : am_K (d + 2) false nm_X12_readRow (rrQ M T t row) X) (ht : t ≤ 400) (hi : i ≤ t) (hF : crF M N) (h115 : N.1 108 115 = M.1 108 115) (h4 : N.1 108 4 = M.1 108 4) (h5 : N.1 108 5 = M.1 108 5) (e3 : N.1 108 3 = nI i) (e2 : M.1 108 2 = nI t) (hT : ∀ j, j < t → M.1 109 j = nI (T j) ∧ T j < 127) (h32 : i = t ∨ T i ≠ 32) (hR : cpR T i = .inl s) (hr : s.2.1 = row) (hx : crX T t i s) (hS : crS N s) : X 149 [some (aR 108), some (aI (nI row)), some (aI (nI s.2.2.1)), l3, l4, l5] [] N := by
  have g := cpR_g T i (by omega) hR
  obtain ⟨L, r, q, x, z, pl⟩ := s
  obtain ⟨g1, g2, g3, g4, g5⟩ := g
  simp only at hr g1 g2 g3 g4 g5
  subst hr
  have hend : ∀ K : mm_M, crF M K → K.1 108 115 = M.1 108 115 → K.1 108 4 = M.1 108 4 → K.1 108 5 = M.1 108 5 → K.1 108 3 = nI i → crS K (L, r, q, x, z, pl) → K.1 108 114 = nI (if r = 0 then q else L) → X 158 [some (aR 108), some (aI (nI r)), some (aI (nI q)), l3, l4, l5] [] K := by
    intro K kF k115 k4 k5 k3 kS k114
    have k2 : K.1 108 2 = nI t := (kF.2.2 2 (by decide) (by decide) (by decide) (by decide) (by decide)).trans e2
    have kT : ∀ j, j < t → K.1 109 j = nI (T j) ∧ T j < 127 := fun j hj => by
      rw [kF.1 109 (by decide) (by decide) (by decide) (by decide)]
      exact hT j hj
    have hbad : cpF (L, r, q, x, z, pl) = false → X 170 [some (aR 108), some (aI (nI r)), some (aI (nI q)), l3, l4, l5] [] K := by
      intro hf
      refine am_run hX 6 _ _ _ _ ?_
      conv => whnf
      refine am_c1 (ct_refu (d := d) ht hi k3 k2 kT) ?_
      conv => whnf
      refine ⟨fun _ => ?_, fun c => absurd rfl c⟩
      conv => whnf
      refine ⟨rfl, crF_t kF (crF_rf _ _), k115, Or.inr ⟨nxQ T t i, rfl, rfl, rfl, ?_⟩⟩
      rw [nxQ_s h32]
      exact crX_b hi hR hx h32 (fun y => by rw [hf] at y; exact absurd y.2.1 (by decide)) (fun _ => hf)
    refine am_run hX 2 _ _ _ _ ?_
    conv => whnf
    refine ⟨fun c => ?_, fun c => ?_⟩
    · have q0 : q = 0 := by
        rcases Nat.lt_or_ge 0 q with y | y
        · exact absurd c (nI_ge (a := 0) y (by omega))
        · omega
      refine hbad ?_
      unfold cpF
      simp only
      by_cases r0 : r = 0
      · rw [if_pos r0, q0]; rfl
      · rw [if_neg r0, q0]
        exact decide_eq_false (fun e => by have := g4 (by omega); omega)
    · have q0 : 0 < q := by
        rcases Nat.lt_or_ge 0 q with y | y
        · exact y
        · exact absurd (nI_le (b := 0) y (by decide)) c
      refine am_run hX 4 _ _ _ _ ?_
      conv => whnf
      rw [k114]
      refine ⟨fun c2 => ?_, fun c2 => ?_⟩
      · have e9 : q = if r = 0 then q else L := (nI_eq (by omega) (by split <;> omega)).mp c2
        have hf : cpF (L, r, q, x, z, pl) = true := by
          unfold cpF
          simp only
          by_cases r0 : r = 0
          · rw [if_pos r0]; exact decide_eq_true q0
          · rw [if_neg r0] at e9 ⊢
            exact decide_eq_true e9
        refine am_run hX 3 _ _ _ _ ?_
        conv => whnf
        refine ⟨rfl, kF, k115, Or.inl ⟨i, (L, r, q, x, z, pl), rfl, k4, k5, k3, hi, h32, hR, rfl, q0, hf, ?_, hx, kS⟩⟩
        rw [k114, ← e9]
      · refine hbad ?_
        unfold cpF
        simp only
        by_cases r0 : r = 0
        · rw [if_pos r0] at c2
          exact absurd rfl c2
        · rw [if_neg r0] at c2 ⊢
          exact decide_eq_false (fun e => c2 (by rw [e]))
  refine am_run hX 2 _ _ _ _ ?_
  conv => whnf
  refine ⟨fun c => ?_, fun c => ?_⟩
  · have r0 : ¬ r = 0 := fun e => c (by rw [e]; rfl)
    exact hend N hF h115 h4 h5 e3 hS (by rw [if_neg r0]; exact hS.1 (by show 0 < r; omega))
  · have r0 : r = 0 := (nI_eq (b := 0) (by omega) (by decide)).mp (Classical.not_not.mp c)
    refine am_run hX 3 _ _ _ _ ?_
    conv => whnf
    refine hend _ ?_ h115 h4 h5 e3 ⟨fun y => ?_, hS.2.1, hS.2.2⟩ ?_
    · refine ⟨fun k a b c e => by rw [mm_ne _ _ _ _ a]; exact hF.1 k a b c e, hF.2.1, fun y a b c e f => ?_⟩
      rw [mm_i1]
      unfold upd
      rw [if_neg e]
      exact hF.2.2 y a b c e f
    · simp only at y
      omega
    · rw [if_pos r0]
      rfl
set_option maxRecDepth 100000 in
theorem rr_x {P : am_Q} {X : am_X} {K : mm_M} {row q k x0 : Nat} {l5 : Option am_V} (hX : am_K (d + 2) false nm_X12_readRow P X) (hr : row < 9) (hq : q < 8) (ex : K.1 178 row = nI x0) (hx : x0 < 2 ^ q) (h4 : k < 4) (hk : X 111 [some (aR 108), some (aI (nI row)), some (aI (nI q)), some (aI 1), some (aI (nI k)), l5] [] (mm_i K 178 (upd (K.1 178) row (nI (x0 + cpX k * 2 ^ q))))) : X 83 [some (aR 108), some (aI (nI row)), some (aI (nI q)), some (aI 1), some (aI (nI k)), l5] [] K := by
  have e1 : x0 ||| 2 ^ q = x0 + 2 ^ q := by
    have := cp_add (a := 1) hx
    rw [Nat.one_mul] at this
    exact this
  rcases (by omega : k = 0 ∨ k = 1 ∨ k = 2 ∨ k = 3) with rfl | rfl | rfl | rfl <;> simp only [show cpX 0 = 0 from rfl, show cpX 1 = 1 from rfl, show cpX 2 = 1 from rfl, show cpX 3 = 0 from rfl, Nat.zero_mul, Nat.one_mul, Nat.add_zero] at hk
  · refine am_run hX 14 _ _ _ _ ?_
    conv => whnf
    refine ⟨vp_in_nI (by show row < 9; omega) (by decide), ?_⟩
    conv => whnf
    rw [nI_clamp (n := row) (by omega), ex]
    refine ⟨fun c => absurd c (by decide), fun _ => ?_⟩
    conv => whnf
    refine ⟨fun _ => ?_, fun c => absurd (by decide) c⟩
    conv => whnf
    rw [show (0 : Int32) = nI 0 from rfl, nI_or, Nat.or_zero]
    refine ⟨vp_in_nI (by show row < 9; omega) (by decide), ?_⟩
    conv => whnf
    rw [nI_clamp (n := row) (by omega)]
    exact hk
  · refine am_run hX 14 _ _ _ _ ?_
    conv => whnf
    refine ⟨vp_in_nI (by show row < 9; omega) (by decide), ?_⟩
    conv => whnf
    rw [nI_clamp (n := row) (by omega), ex]
    refine ⟨fun _ => ?_, fun c => absurd rfl c⟩
    conv => whnf
    rw [sh2 q (by omega), nI_or, e1]
    refine ⟨vp_in_nI (by show row < 9; omega) (by decide), ?_⟩
    conv => whnf
    rw [nI_clamp (n := row) (by omega)]
    exact hk
  · refine am_run hX 17 _ _ _ _ ?_
    conv => whnf
    refine ⟨vp_in_nI (by show row < 9; omega) (by decide), ?_⟩
    conv => whnf
    rw [nI_clamp (n := row) (by omega), ex]
    refine ⟨fun c => absurd c (by decide), fun _ => ?_⟩
    conv => whnf
    refine ⟨fun c => absurd rfl c, fun _ => ?_⟩
    conv => whnf
    rw [sh2 q (by omega), nI_or, e1]
    refine ⟨vp_in_nI (by show row < 9; omega) (by decide), ?_⟩
    conv => whnf
    rw [nI_clamp (n := row) (by omega)]
    exact hk
  · refine am_run hX 14 _ _ _ _ ?_
    conv => whnf
    refine ⟨vp_in_nI (by show row < 9; omega) (by decide), ?_⟩
    conv => whnf
    rw [nI_clamp (n := row) (by omega), ex]
    refine ⟨fun c => absurd c (by decide), fun _ => ?_⟩
    conv => whnf
    refine ⟨fun _ => ?_, fun c => absurd (by decide) c⟩
    conv => whnf
    rw [show (0 : Int32) = nI 0 from rfl, nI_or, Nat.or_zero]
    refine ⟨vp_in_nI (by show row < 9; omega) (by decide), ?_⟩
    conv => whnf
    rw [nI_clamp (n := row) (by omega)]
    exact hk
set_option maxRecDepth 100000 in
theorem rr_z {P : am_Q} {X : am_X} {K : mm_M} {row q k x0 : Nat} {l5 : Option am_V} (hX : am_K (d + 2) false nm_X12_readRow P X) (hr : row < 9) (hq : q < 8) (ex : K.1 179 row = nI x0) (hx : x0 < 2 ^ q) (h4 : k < 4) (hk : X 133 [some (aR 108), some (aI (nI row)), some (aI (nI q)), some (aI 1), some (aI (nI k)), l5] [] (mm_i K 179 (upd (K.1 179) row (nI (x0 + cpZ k * 2 ^ q))))) : X 111 [some (aR 108), some (aI (nI row)), some (aI (nI q)), some (aI 1), some (aI (nI k)), l5] [] K := by
  have e1 : x0 ||| 2 ^ q = x0 + 2 ^ q := by
    have := cp_add (a := 1) hx
    rw [Nat.one_mul] at this
    exact this
  rcases (by omega : k = 0 ∨ k = 1 ∨ k = 2 ∨ k = 3) with rfl | rfl | rfl | rfl <;> simp only [show cpZ 0 = 0 from rfl, show cpZ 1 = 0 from rfl, show cpZ 2 = 1 from rfl, show cpZ 3 = 1 from rfl, Nat.zero_mul, Nat.one_mul, Nat.add_zero] at hk
  · refine am_run hX 11 _ _ _ _ ?_
    conv => whnf
    refine ⟨vp_in_nI (by show row < 9; omega) (by decide), ?_⟩
    conv => whnf
    rw [nI_clamp (n := row) (by omega), ex]
    refine ⟨fun _ => ?_, fun c => absurd (by decide) c⟩
    conv => whnf
    rw [show (0 : Int32) = nI 0 from rfl, nI_or, Nat.or_zero]
    refine ⟨vp_in_nI (by show row < 9; omega) (by decide), ?_⟩
    conv => whnf
    rw [nI_clamp (n := row) (by omega)]
    exact hk
  · refine am_run hX 11 _ _ _ _ ?_
    conv => whnf
    refine ⟨vp_in_nI (by show row < 9; omega) (by decide), ?_⟩
    conv => whnf
    rw [nI_clamp (n := row) (by omega), ex]
    refine ⟨fun _ => ?_, fun c => absurd (by decide) c⟩
    conv => whnf
    rw [show (0 : Int32) = nI 0 from rfl, nI_or, Nat.or_zero]
    refine ⟨vp_in_nI (by show row < 9; omega) (by decide), ?_⟩
    conv => whnf
    rw [nI_clamp (n := row) (by omega)]
    exact hk
  · refine am_run hX 14 _ _ _ _ ?_
    conv => whnf
    refine ⟨vp_in_nI (by show row < 9; omega) (by decide), ?_⟩
    conv => whnf
    rw [nI_clamp (n := row) (by omega), ex]
    refine ⟨fun c => absurd c (by decide), fun _ => ?_⟩
    conv => whnf
    rw [sh2 q (by omega), nI_or, e1]
    refine ⟨vp_in_nI (by show row < 9; omega) (by decide), ?_⟩
    conv => whnf
    rw [nI_clamp (n := row) (by omega)]
    exact hk
  · refine am_run hX 14 _ _ _ _ ?_
    conv => whnf
    refine ⟨vp_in_nI (by show row < 9; omega) (by decide), ?_⟩
    conv => whnf
    rw [nI_clamp (n := row) (by omega), ex]
    refine ⟨fun c => absurd c (by decide), fun _ => ?_⟩
    conv => whnf
    rw [sh2 q (by omega), nI_or, e1]
    refine ⟨vp_in_nI (by show row < 9; omega) (by decide), ?_⟩
    conv => whnf
    rw [nI_clamp (n := row) (by omega)]
    exact hk
theorem cpR_1 {i : Nat} {s s' : cpS} (h : cpR T i = .inl s) (h32 : T i ≠ 32) (hc : cpT (T i) i s = some s') : cpR T (i + 1) = .inl s' := by
  conv => lhs; unfold cpR
  rw [h]
  simp only [if_neg h32, hc]
set_option maxRecDepth 100000 in
theorem rrL {X : am_X} {row : Nat} (hX : am_K (d + 2) false nm_X12_readRow (rrQ M T t row) X) (ht : t ≤ 400) (e2 : M.1 108 2 = nI t) (hT : ∀ j, j < t → M.1 109 j = nI (T j) ∧ T j < 127) : ∀ (m i : Nat) (N : mm_M) (s : cpS) (l4 l5 : Option am_V), t - i ≤ m → i ≤ t → crF M N → N.1 108 115 = M.1 108 115 → N.1 108 4 = M.1 108 4 → N.1 108 5 = M.1 108 5 → N.1 108 3 = nI i → cpR T i = .inl s → s.2.1 = row → crS N s → X 18 [some (aR 108), some (aI (nI row)), some (aI (nI s.2.2.1)), some (aI 1), l4, l5] [] N := by
  intro m
  induction m with
  | zero =>
    intro i N s l4 l5 hm hi hF h115 h4 h5 e3 hR hr hS
    have hit : i = t := by omega
    have n2 : N.1 108 2 = nI t := (hF.2.2 2 (by decide) (by decide) (by decide) (by decide) (by decide)).trans e2
    have nT : ∀ j, j < t → N.1 109 j = nI (T j) ∧ T j < 127 := fun j hj => by
      rw [hF.1 109 (by decide) (by decide) (by decide) (by decide)]
      exact hT j hj
    have hq := nxQ_s (T := T) (t := t) (i := i) (Or.inl hit)
    have hv : seV T t i = 0 := if_neg (by omega)
    have h149 : ∀ l4 l5, X 149 [some (aR 108), some (aI (nI row)), some (aI (nI s.2.2.1)), some (aI 1), l4, l5] [] (saM N i) := fun l4 l5 => rrE (d := d) hX ht hi (crF_t hF (crF_sa _ _)) h115 h4 h5 rfl e2 hT (Or.inl hit) hR hr (Or.inl hit) hS
    refine am_run hX 9 _ _ _ _ ?_
    conv => whnf
    refine ⟨fun c => absurd c (by decide), fun _ => ?_⟩
    conv => whnf
    refine am_c1 (ct_sees (d := d + 1) ht hi e3 n2 nT) ?_
    rw [hq, hv]
    conv => whnf
    refine am_c1 (ct_lop (d := d + 1) (c := 0) (by decide)) ?_
    rw [show (if cpD 0 < 4 then nI (cpD 0) else -1) = (-1 : Int32) from rfl]
    conv => whnf
    have h53 : ∀ b : Int32, X 53 [some (aR 108), some (aI (nI row)), some (aI (nI s.2.2.1)), some (aI 1), some (aI (-1)), l5] [aI b] (saM N i) := by
      intro b
      refine am_run hX 4 _ _ _ _ ?_
      conv => whnf
      exact ⟨fun _ => h149 _ _, fun c => absurd rfl c⟩
    have h45 : ∀ b : Int32, X 45 [some (aR 108), some (aI (nI row)), some (aI (nI s.2.2.1)), some (aI 1), some (aI (-1)), l5] [aI b, aI (nI s.2.2.1)] (saM N i) := by
      intro b
      refine am_run hX 1 _ _ _ _ ?_
      conv => whnf
      refine ⟨fun _ => ?_, fun _ => ?_⟩
      · refine am_run hX 1 _ _ _ _ ?_
        conv => whnf
        exact h53 0
      · refine am_run hX 2 _ _ _ _ ?_
        conv => whnf
        exact h53 1
    refine ⟨fun _ => ?_, fun _ => ?_⟩
    · refine am_run hX 2 _ _ _ _ ?_
      conv => whnf
      exact h45 _
    · refine am_run hX 2 _ _ _ _ ?_
      conv => whnf
      exact h45 _
  | succ m ih =>
    intro i N s l4 l5 hm hi hF h115 h4 h5 e3 hR hr hS
    have n2 : N.1 108 2 = nI t := (hF.2.2 2 (by decide) (by decide) (by decide) (by decide) (by decide)).trans e2
    have nT : ∀ j, j < t → N.1 109 j = nI (T j) ∧ T j < 127 := fun j hj => by
      rw [hF.1 109 (by decide) (by decide) (by decide) (by decide)]
      exact hT j hj
    obtain ⟨j1, j2, j3, j4⟩ := nxQ_1 (T := T) hi
    generalize hj : nxQ T t i = j at j1 j2 j3 j4
    have hR := j4.trans hR
    have hF1 := crF_t hF (crF_sa N j)
    have hS1 : crS (saM N j) s := hS
    have g := cpR_g T j (by omega) hR
    have hv7 : seV T t j < 127 := by
      unfold seV
      split
      · exact (hT j (by omega)).2
      · decide
    obtain ⟨L, r, q, x, z, pl⟩ := s
    obtain ⟨g1, g2, g3, g4, g5⟩ := g
    simp only at hr g1 g2 g3 g4 g5
    subst hr
    have h149 : crX T t j (L, r, q, x, z, pl) → ∀ l4 l5, X 149 [some (aR 108), some (aI (nI r)), some (aI (nI q)), some (aI 1), l4, l5] [] (saM N j) := fun hx l4 l5 => rrE (d := d) hX ht j2 hF1 h115 h4 h5 rfl e2 hT j3 hR rfl hx hS1
    refine am_run hX 9 _ _ _ _ ?_
    conv => whnf
    refine ⟨fun c => absurd c (by decide), fun _ => ?_⟩
    conv => whnf
    refine am_c1 (ct_sees (d := d + 1) ht hi e3 n2 nT) ?_
    rw [hj]
    conv => whnf
    refine am_c1 (ct_lop (d := d + 1) hv7) ?_
    conv => whnf
    have h45 : X 45 [some (aR 108), some (aI (nI r)), some (aI (nI q)), some (aI 1), some (aI (if cpD (seV T t j) < 4 then nI (cpD (seV T t j)) else -1)), l5] [aI (nI (cpL (L, r, q, x, z, pl))), aI (nI q)] (saM N j) := by
      have hL8 : cpL (L, r, q, x, z, pl) ≤ 8 := by
        unfold cpL
        simp only
        split <;> omega
      by_cases hd : cpD (seV T t j) < 4
      · have hjt : j < t := by
          rcases Nat.lt_or_ge j t with y | y
          · exact y
          · rw [show seV T t j = 0 from if_neg (by omega)] at hd
            exact absurd hd (by decide)
        have hv : seV T t j = T j := if_pos hjt
        rw [hv] at hd ⊢
        have h32 : T j ≠ 32 := j3.resolve_left (by omega)
        have hne : ¬ T j = 44 := fun e => by rw [e] at hd; exact absurd hd (by decide)
        have hnm : ¬ nI (cpD (T j)) = -1 := fun e => nI_pos (n := cpD (T j)) (by omega) (by rw [e]; decide)
        rw [if_pos hd]
        by_cases hq : q < cpL (L, r, q, x, z, pl)
        · have eT : cpT (T j) j (L, r, q, x, z, pl) = some (L, r, q + 1, cpU x r ((if q = 0 then 0 else x r) + cpX (cpD (T j)) * 2 ^ q), cpU z r ((if q = 0 then 0 else z r) + cpZ (cpD (T j)) * 2 ^ q), if q = 0 then cpU pl r j else pl) := by
            unfold cpT
            rw [if_neg hne, if_pos ⟨hd, hq⟩]
          have x0 : (if q = 0 then 0 else x r) < 2 ^ q ∧ (if q = 0 then 0 else z r) < 2 ^ q ∧ (saM N j).1 178 r = nI (if q = 0 then 0 else x r) ∧ (saM N j).1 179 r = nI (if q = 0 then 0 else z r) := by
            by_cases h0 : q = 0
            · rw [if_pos h0, if_pos h0, h0]
              exact ⟨by decide, by decide, (hS1.2.2 h0).1, (hS1.2.2 h0).2⟩
            · rw [if_neg h0, if_neg h0]
              have a := g5 r (Or.inr ⟨rfl, by omega⟩)
              rw [if_pos rfl] at a
              have b := hS1.2.1 r (Or.inr ⟨rfl, by show 0 < q; omega⟩)
              exact ⟨a.1, a.2.1, b.1, b.2.1⟩
          have hcont : ∀ (K : mm_M) (l5 : Option am_V), crF M K → K.1 108 = (saM N j).1 108 → K.1 178 = (saM N j).1 178 → K.1 179 = (saM N j).1 179 → (∀ k, k ≤ r → K.1 180 k = nI ((if q = 0 then cpU pl r j else pl) k)) → X 83 [some (aR 108), some (aI (nI r)), some (aI (nI q)), some (aI 1), some (aI (nI (cpD (T j)))), l5] [] K := by
            intro K l5 kF k108 k178 k179 k180
            refine rr_x (d := d) (x0 := if q = 0 then 0 else x r) hX (by omega) (by omega) (by rw [k178]; exact x0.2.2.1) x0.1 hd ?_
            refine rr_z (d := d) (x0 := if q = 0 then 0 else z r) hX (by omega) (by omega) (by
              rw [mm_ne _ _ _ _ (by decide), k179]
              exact x0.2.2.2) x0.2.1 hd ?_
            refine am_run hX 8 _ _ _ _ ?_
            conv => whnf
            generalize hK1 : mm_i K 178 (upd (K.1 178) r (nI ((if q = 0 then 0 else x r) + cpX (cpD (T j)) * 2 ^ q))) = K1
            generalize hK2 : mm_i K1 179 (upd (K1.1 179) r (nI ((if q = 0 then 0 else z r) + cpZ (cpD (T j)) * 2 ^ q))) = K2
            have a108 : K2.1 108 = (saM N j).1 108 := by
              rw [← hK2, mm_ne _ _ _ _ (by decide), ← hK1, mm_ne _ _ _ _ (by decide), k108]
            have a3 : K2.1 108 3 = nI j := by rw [a108]; rfl
            have a178 : K2.1 178 = upd ((saM N j).1 178) r (nI ((if q = 0 then 0 else x r) + cpX (cpD (T j)) * 2 ^ q)) := by
              rw [← hK2, mm_ne _ _ _ _ (by decide), ← hK1, mm_i1, k178]
            have a179 : K2.1 179 = upd ((saM N j).1 179) r (nI ((if q = 0 then 0 else z r) + cpZ (cpD (T j)) * 2 ^ q)) := by
              rw [← hK2, mm_i1, ← hK1, mm_ne _ _ _ _ (by decide), k179]
            have a180 : K2.1 180 = K.1 180 := by
              rw [← hK2, mm_ne _ _ _ _ (by decide), ← hK1, mm_ne _ _ _ _ (by decide)]
            have aF : crF M K2 := by
              refine ⟨fun k a b c e => ?_, ?_, fun y a b c e f => ?_⟩
              · rw [← hK2, mm_ne _ _ _ _ c, ← hK1, mm_ne _ _ _ _ b]
                exact kF.1 k a b c e
              · rw [← hK2, ← hK1]
                exact kF.2.1
              · rw [a108, ← k108]
                exact kF.2.2 y a b c e f
            rw [a3, nI_1, nI_1]
            refine ih (j + 1) _ (L, r, q + 1, cpU x r ((if q = 0 then 0 else x r) + cpX (cpD (T j)) * 2 ^ q), cpU z r ((if q = 0 then 0 else z r) + cpZ (cpD (T j)) * 2 ^ q), if q = 0 then cpU pl r j else pl) _ _ (by omega) (by omega) (crF_t aF (crF_sa K2 (j + 1))) ?_ ?_ ?_ rfl (cpR_1 hR h32 eT) rfl ⟨fun y => ?_, fun k hk => ?_, fun y => absurd y (Nat.succ_ne_zero q)⟩
            · show K2.1 108 115 = _
              rw [a108]; exact h115
            · show K2.1 108 4 = _
              rw [a108]; exact h4
            · show K2.1 108 5 = _
              rw [a108]; exact h5
            · show K2.1 108 114 = _
              rw [a108]; exact hS1.1 y
            · simp only at hk
              show K2.1 178 k = _ ∧ K2.1 179 k = _ ∧ K2.1 180 k = _
              rw [a178, a179, a180]
              refine ⟨?_, ?_, k180 k (by omega)⟩
              · simp only [upd, cpU]
                by_cases hkr : k = r
                · rw [if_pos hkr, if_pos hkr]
                · rw [if_neg hkr, if_neg hkr]
                  exact (hS1.2.1 k (Or.inl (by show k < r; omega))).1
              · simp only [upd, cpU]
                by_cases hkr : k = r
                · rw [if_pos hkr, if_pos hkr]
                · rw [if_neg hkr, if_neg hkr]
                  exact (hS1.2.1 k (Or.inl (by show k < r; omega))).2.1
          refine am_run hX 1 _ _ _ _ ?_
          conv => whnf
          refine ⟨fun c => absurd c (nI_ge hq (by omega)), fun _ => ?_⟩
          refine am_run hX 8 _ _ _ _ ?_
          conv => whnf
          refine ⟨fun c => absurd c hnm, fun _ => ?_⟩
          conv => whnf
          refine ⟨fun _ => ?_, fun c => absurd (by decide) c⟩
          refine am_run hX 2 _ _ _ _ ?_
          conv => whnf
          refine ⟨fun c => ?_, fun c => ?_⟩
          · have q0 : ¬ q = 0 := fun e => c (by rw [e]; rfl)
            refine hcont _ _ hF1 rfl rfl rfl (fun k hk => ?_)
            rw [if_neg q0]
            exact (hS1.2.1 k (by show k < r ∨ k = r ∧ 0 < q; omega)).2.2
          · have q0 : q = 0 := (nI_eq (b := 0) (by omega) (by decide)).mp (Classical.not_not.mp c)
            refine am_run hX 6 _ _ _ _ ?_
            conv => whnf
            refine ⟨vp_in_nI (by show r < 9; omega) (by decide), ?_⟩
            conv => whnf
            rw [nI_clamp (n := r) (by omega), show (saM N j).1 108 3 = nI j from rfl]
            refine hcont _ _ ?_ rfl rfl rfl (fun k hk => ?_)
            · refine ⟨fun k a b c e => by rw [mm_ne _ _ _ _ e]; exact hF1.1 k a b c e, hF1.2.1, fun y a b c e f => ?_⟩
              rw [mm_ne _ _ _ _ (by decide)]
              exact hF1.2.2 y a b c e f
            · rw [if_pos q0, mm_i1]
              simp only [upd, cpU]
              by_cases hkr : k = r
              · rw [if_pos hkr, if_pos hkr]
              · rw [if_neg hkr, if_neg hkr]
                exact (hS1.2.1 k (Or.inl (by show k < r; omega))).2.2
        · refine am_run hX 1 _ _ _ _ ?_
          conv => whnf
          refine ⟨fun _ => ?_, fun c => absurd (nI_le (by omega) (by omega)) c⟩
          refine am_run hX 8 _ _ _ _ ?_
          conv => whnf
          refine ⟨fun c => absurd c hnm, fun _ => ?_⟩
          conv => whnf
          refine ⟨fun c => absurd rfl c, fun _ => ?_⟩
          conv => whnf
          exact h149 (Or.inr (fun y => hq y.2)) _ _
      · have hx : crX T t j (L, r, q, x, z, pl) := by
          by_cases e : j = t
          · exact Or.inl e
          · rw [show seV T t j = T j from if_pos (by omega)] at hd
            exact Or.inr (fun y => hd y.1)
        rw [if_neg hd]
        have h53 : ∀ b : Int32, X 53 [some (aR 108), some (aI (nI r)), some (aI (nI q)), some (aI 1), some (aI (-1)), l5] [aI b] (saM N j) := by
          intro b
          refine am_run hX 4 _ _ _ _ ?_
          conv => whnf
          exact ⟨fun _ => h149 hx _ _, fun c => absurd rfl c⟩
        refine am_run hX 1 _ _ _ _ ?_
        conv => whnf
        refine ⟨fun _ => ?_, fun _ => ?_⟩
        · refine am_run hX 1 _ _ _ _ ?_
          conv => whnf
          exact h53 0
        · refine am_run hX 2 _ _ _ _ ?_
          conv => whnf
          exact h53 1
    refine ⟨fun c => ?_, fun c => ?_⟩
    · have r0 : ¬ r = 0 := fun e => c (by rw [e]; rfl)
      refine am_run hX 2 _ _ _ _ ?_
      conv => whnf
      rw [show (saM N j).1 108 114 = nI L from hS1.1 (by show 0 < r; omega)]
      rw [show cpL (L, r, q, x, z, pl) = L from if_neg r0] at h45
      exact h45
    · have r0 : r = 0 := (nI_eq (b := 0) (by omega) (by decide)).mp (Classical.not_not.mp c)
      refine am_run hX 2 _ _ _ _ ?_
      conv => whnf
      rw [show cpL (L, r, q, x, z, pl) = 8 from if_pos r0] at h45
      exact h45
end RPB
