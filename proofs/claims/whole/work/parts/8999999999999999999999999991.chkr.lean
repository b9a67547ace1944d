/-! code: do the rows commute, is one a product: the reference -/
section CHR
variable {d : Nat} {M : mm_M} {x z : Nat → Nat}
/-- rows at the reference -/
def crV (M : mm_M) (x z : Nat → Nat) (n : Nat) : Prop := ∀ j, j < n → M.1 178 j = nI (x j) ∧ M.1 179 j = nI (z j) ∧ x j < 256 ∧ z j < 256
theorem cm_q {a b u v : Nat} (hb : b < 256) (ha : a < 256) (hv : v < 256) (hu : u < 256) : cm (256 * a + b) (256 * u + v) ↔ qmB a b u v = true := by
  unfold cm qmB
  have e1 : (256 * a + b) / 256 = a := by omega
  have e2 : (256 * u + v) / 256 = u := by omega
  have e3 : a &&& (256 * u + v) = a &&& v := by
    have := and_m (a := a) (b := 256 * u + v) ha
    rw [← this]
    congr 1
    omega
  have e4 : (256 * a + b) &&& u = b &&& u := by
    rw [Nat.and_comm (256 * a + b), Nat.and_comm b]
    have := and_m (a := u) (b := 256 * a + b) hu
    rw [← this]
    congr 1
    omega
  rw [e1, e2, e3, e4, decide_eq_true_eq]
set_option maxRecDepth 100000 in
theorem ip_i {P : am_Q} {X : am_X} {i e : Nat} (hX : am_K d false nm_X12_isProduct P X) (hi : i < 8) (he : e < 256) (hV : crV M x z (i + 1)) (hk : ∀ l5, X 79 [some (aR 108), some (aI (nI i)), some (aI (nI e)), some (aI (nI (pxr x e i))), some (aI (nI (pxr z e i))), l5] [] M) : ∀ (m j : Nat), j + m = i → X 17 [some (aR 108), some (aI (nI i)), some (aI (nI e)), some (aI (nI (pxr x e j))), some (aI (nI (pxr z e j))), some (aI (nI j))] [] M := by
  intro m
  induction m with
  | zero =>
    intro j ej
    obtain rfl : j = i := by omega
    refine am_run hX 3 _ _ _ _ ?_
    conv => whnf
    exact ⟨fun _ => hk _, fun c => absurd (nI_le (Nat.le_refl _) (by omega)) c⟩
  | succ m ih =>
    intro j ej
    have ih := ih (j + 1) (by omega)
    obtain ⟨v1, v2, v3, v4⟩ := hV j (by omega)
    have e178 : M.1 178 (nI j).toNatClampNeg = nI (x j) := by
      rw [nI_clamp (by omega)]
      exact v1
    have e179 : M.1 179 (nI j).toNatClampNeg = nI (z j) := by
      rw [nI_clamp (by omega)]
      exact v2
    refine am_run hX 11 _ _ _ _ ?_
    conv => whnf
    refine ⟨fun c => absurd c (nI_ge (by omega) (by omega)), fun _ => ?_⟩
    conv => whnf
    rw [nI_sh (by omega) j (by omega), nI_m1]
    refine ⟨fun c => ?_, fun c => ?_⟩
    · have c1 : ¬ e / 2 ^ j % 2 = 1 := fun y => c (by rw [y]; rfl)
      simp only [pxr, if_neg c1, Nat.xor_zero] at ih
      refine am_run hX 11 _ _ _ _ ?_
      conv => whnf
      rw [show nI (pxr x e j) ^^^ 0 = nI (pxr x e j) from by rw [show (0 : Int32) = nI 0 from rfl, nI_xor, Nat.xor_zero], nI_sh (by omega) j (by omega), nI_m1]
      refine ⟨fun _ => ?_, fun y => absurd c y⟩
      refine am_run hX 5 _ _ _ _ ?_
      conv => whnf
      rw [show nI (pxr z e j) ^^^ 0 = nI (pxr z e j) from by rw [show (0 : Int32) = nI 0 from rfl, nI_xor, Nat.xor_zero], nI_1]
      exact ih
    · have c1 : e / 2 ^ j % 2 = 1 := (nI_eq (b := 1) (by omega) (by decide)).mp (Classical.not_not.mp c)
      simp only [pxr, if_pos c1] at ih
      refine am_run hX 15 _ _ _ _ ?_
      conv => whnf
      refine ⟨vp_in_nI (by show j < 9; omega) (by decide), ?_⟩
      conv => whnf
      rw [e178, nI_xor, nI_sh (by omega) j (by omega), nI_m1]
      refine ⟨fun y => absurd y c, fun _ => ?_⟩
      refine am_run hX 9 _ _ _ _ ?_
      conv => whnf
      refine ⟨vp_in_nI (by show j < 9; omega) (by decide), ?_⟩
      conv => whnf
      rw [e179, nI_xor, nI_1]
      exact ih
set_option maxRecDepth 100000 in
theorem ip_o {P : am_Q} {X : am_X} {i : Nat} (hX : am_K d false nm_X12_isProduct P X) (hi : i < 8) (hV : crV M x z (i + 1)) (h1 : deB x z i (2 ^ i) = true → P (.inl (some (aI 1))) M) (h0 : deB x z i (2 ^ i) = false → P (.inl (some (aI 0))) M) : ∀ (m e : Nat) (l3 l4 l5 : Option am_V), e + m = 2 ^ i → deB x z i e = false → X 2 [some (aR 108), some (aI (nI i)), some (aI (nI e)), l3, l4, l5] [] M := by
  have h7 : 2 ^ i ≤ 2 ^ 7 := Nat.pow_le_pow_right (by decide) (by omega)
  have mono : ∀ m e, deB x z i e = true → deB x z i (e + m) = true := by
    intro m
    induction m with
    | zero => intro e h; exact h
    | succ m ihm =>
      intro e h
      show (deB x z i (e + m) || _) = true
      rw [ihm e h]
      rfl
  intro m
  induction m with
  | zero =>
    intro e l3 l4 l5 em hd
    obtain rfl : e = 2 ^ i := by omega
    refine am_run hX 7 _ _ _ _ ?_
    conv => whnf
    rw [sh2 i (by omega)]
    refine ⟨fun _ => ?_, fun c => absurd (nI_le (Nat.le_refl _) (by omega)) c⟩
    conv => whnf
    exact ⟨rfl, h0 hd⟩
  | succ m ih =>
    intro e l3 l4 l5 em hd
    obtain ⟨v1, v2, v3, v4⟩ := hV i (by omega)
    have e178 : M.1 178 (nI i).toNatClampNeg = nI (x i) := by
      rw [nI_clamp (by omega)]
      exact v1
    have e179 : M.1 179 (nI i).toNatClampNeg = nI (z i) := by
      rw [nI_clamp (by omega)]
      exact v2
    have px : pxr x e i < 256 := pxr_lt (fun k hk => (hV k (by omega)).2.2.1)
    have pz : pxr z e i < 256 := pxr_lt (fun k hk => (hV k (by omega)).2.2.2)
    refine am_run hX 11 _ _ _ _ ?_
    conv => whnf
    rw [sh2 i (by omega)]
    refine ⟨fun c => absurd c (nI_ge (by omega) (by omega)), fun _ => ?_⟩
    conv => whnf
    refine ip_i (d := d) (P := P) (X := X) (x := x) (z := z) (M := M) (i := i) (e := e) hX hi (by omega) hV (fun l5 => ?_) i 0 (by omega)
    have hno : ¬ (pxr x e i = x i ∧ pxr z e i = z i) → X 102 [some (aR 108), some (aI (nI i)), some (aI (nI e)), some (aI (nI (pxr x e i))), some (aI (nI (pxr z e i))), l5] [] M := by
      intro hno
      have hn : deB x z i (e + 1) = false := by
        show (deB x z i e || (decide (pxr x e i = x i) && decide (pxr z e i = z i))) = false
        rw [hd]
        by_cases y1 : pxr x e i = x i
        · by_cases y2 : pxr z e i = z i
          · exact absurd ⟨y1, y2⟩ hno
          · simp [y2]
        · simp [y1]
      refine am_run hX 2 _ _ _ _ ?_
      conv => whnf
      rw [nI_1]
      exact ih (e + 1) _ _ _ (by omega) hn
    refine am_run hX 6 _ _ _ _ ?_
    conv => whnf
    refine ⟨vp_in_nI (by show i < 9; omega) (by decide), ?_⟩
    conv => whnf
    rw [e178]
    refine ⟨fun c => hno (fun y => c (by rw [y.1])), fun c => ?_⟩
    have y1 : pxr x e i = x i := (nI_eq (by omega) (by omega)).mp (Classical.not_not.mp c)
    refine am_run hX 6 _ _ _ _ ?_
    conv => whnf
    refine ⟨vp_in_nI (by show i < 9; omega) (by decide), ?_⟩
    conv => whnf
    rw [e179]
    refine ⟨fun c => hno (fun y => c (by rw [y.2])), fun c => ?_⟩
    have y2 : pxr z e i = z i := (nI_eq (by omega) (by omega)).mp (Classical.not_not.mp c)
    have hy : deB x z i (e + 1) = true := by
      show (deB x z i e || (decide (pxr x e i = x i) && decide (pxr z e i = z i))) = true
      simp [y1, y2]
    have hy2 := mono m (e + 1) hy
    rw [show e + 1 + m = 2 ^ i by omega] at hy2
    refine am_run hX 2 _ _ _ _ ?_
    conv => whnf
    exact ⟨rfl, h1 hy2⟩
set_option maxRecDepth 100000 in
theorem ct_isP {i : Nat} (hi : i < 8) (hV : crV M x z (i + 1)) : am_M (d + 1) false nm_X12_isProduct [aR 108, aI (nI i)] M (am_q1 (aI (if deB x z i (2 ^ i) = true then 1 else 0)) M) := by
  refine ⟨rfl, rfl, rfl, fun X hX => am_run hX 2 _ _ _ _ ?_⟩
  conv => whnf
  refine ip_o (d := d) hX hi hV (fun h => ⟨by rw [if_pos h], rfl⟩) (fun h => ⟨by rw [if_neg (by rw [h]; decide)], rfl⟩) (2 ^ i) 0 none none none (by omega) rfl
/-- what areRowsRight leaves -/
def arQ (M : mm_M) (x z pl : Nat → Nat) (n : Nat) : am_Q := fun r N => r = .inl (some (aI (if (chF x z n).1 = 0 then 1 else 0))) ∧ N = mm_i M 108 (upd (upd (M.1 108) 4 (nI (chF x z n).1)) 5 (if (chF x z n).1 = 0 then 0 else nI (pl (chF x z n).2)))
set_option maxRecDepth 100000 in
theorem ar_j {P : am_Q} {X : am_X} {n i : Nat} (hX : am_K (d + 2) false nm_X12_areRowsRight P X) (hn : n ≤ 8) (hi : i < n) (hV : crV M x z n) (hk : ∀ l3, X 65 [some (aR 108), some (aI (nI i)), some (aI (if alQ x z i i = true then 1 else 0)), l3] [] M) : ∀ (m j : Nat), j + m = i → X 14 [some (aR 108), some (aI (nI i)), some (aI (if alQ x z i j = true then 1 else 0)), some (aI (nI j))] [] M := by
  intro m
  induction m with
  | zero =>
    intro j ej
    obtain rfl : j = i := by omega
    refine am_run hX 3 _ _ _ _ ?_
    conv => whnf
    exact ⟨fun _ => hk _, fun c => absurd (nI_le (Nat.le_refl _) (by omega)) c⟩
  | succ m ih =>
    intro j ej
    obtain ⟨v1, v2, v3, v4⟩ := hV j (by omega)
    obtain ⟨w1, w2, w3, w4⟩ := hV i hi
    have ih := ih (j + 1) (by omega)
    have eA : alQ x z i (j + 1) = (alQ x z i j && qmB (x i) (z i) (x j) (z j)) := rfl
    have hno : alQ x z i (j + 1) = false → ∀ l2, X 57 [some (aR 108), some (aI (nI i)), l2, some (aI (nI j))] [] M := by
      intro h l2
      rw [h, if_neg (by decide)] at ih
      refine am_run hX 4 _ _ _ _ ?_
      conv => whnf
      rw [nI_1]
      exact ih
    refine am_run hX 5 _ _ _ _ ?_
    conv => whnf
    refine ⟨fun c => absurd c (nI_ge (by omega) (by omega)), fun _ => ?_⟩
    conv => whnf
    by_cases ha : alQ x z i j = true
    · rw [if_pos ha]
      refine ⟨fun c => absurd c (by decide), fun _ => ?_⟩
      refine am_run hX 18 _ _ _ _ ?_
      conv => whnf
      refine ⟨vp_in_nI (by show j < 9; omega) (by decide), ?_⟩
      conv => whnf
      refine ⟨vp_in_nI (by show j < 9; omega) (by decide), ?_⟩
      conv => whnf
      refine ⟨vp_in_nI (by show i < 9; omega) (by decide), ?_⟩
      conv => whnf
      refine ⟨vp_in_nI (by show i < 9; omega) (by decide), ?_⟩
      conv => whnf
      rw [nI_clamp (n := i) (by omega), nI_clamp (n := j) (by omega), v1, v2, w1, w2]
      have hcm := ct_comm (d := d) (M := M) (a := 256 * x j + z j) (b := 256 * x i + z i) (by omega) (by omega)
      rw [show (256 * x j + z j) / 256 = x j by omega, show (256 * x j + z j) % 256 = z j by omega, show (256 * x i + z i) / 256 = x i by omega, show (256 * x i + z i) % 256 = z i by omega] at hcm
      refine am_cq hcm fun r M' q => ?_
      obtain ⟨q1, q2⟩ := q
      subst q1
      have hiff := cm_q (a := x j) (b := z j) (u := x i) (v := z i) v4 v3 w4 w3
      rw [qmB_s] at hiff
      rcases q2 with ⟨q2, q3⟩ | ⟨q2, q3⟩
      · refine ⟨_, q3, ?_⟩
        conv => whnf
        refine ⟨fun c => absurd c (by decide), fun _ => ?_⟩
        rw [eA, ha, hiff.mp q2, if_pos (by rfl)] at ih
        refine am_run hX 5 _ _ _ _ ?_
        conv => whnf
        rw [nI_1]
        exact ih
      · refine ⟨_, q3, ?_⟩
        conv => whnf
        refine ⟨fun _ => ?_, fun c => absurd rfl c⟩
        refine hno ?_ _
        rw [eA, Bool.eq_false_iff.mpr (fun y => q2 (hiff.mpr y)), Bool.and_false]
    · rw [if_neg ha]
      refine ⟨fun _ => ?_, fun c => absurd rfl c⟩
      refine hno ?_ _
      rw [eA, Bool.eq_false_iff.mpr ha, Bool.false_and]
theorem ar_M (M : mm_M) (a b : Int32) : mm_i (mm_i M 108 (upd (M.1 108) 4 a)) 108 (upd ((mm_i M 108 (upd (M.1 108) 4 a)).1 108) 5 b) = mm_i M 108 (upd (upd (M.1 108) 4 a) 5 b) := by
  rw [mm_i1, mm_ii]
set_option maxRecDepth 100000 in
theorem ar_i {X : am_X} {n : Nat} {pl : Nat → Nat} (hX : am_K (d + 2) false nm_X12_areRowsRight (arQ M x z pl n) X) (hn : n ≤ 8) (h115 : M.1 108 115 = nI n) (hV : crV M x z n) (hp : ∀ j, j < n → M.1 180 j = nI (pl j)) : ∀ (m i : Nat) (l2 l3 : Option am_V), i + m = n → (chF x z i).1 = 0 → X 2 [some (aR 108), some (aI (nI i)), l2, l3] [] (mm_i M 108 (upd (upd (M.1 108) 4 0) 5 0)) := by
  intro m
  have e115 : (mm_i M 108 (upd (upd (M.1 108) 4 0) 5 0)).1 108 115 = nI n := h115
  induction m with
  | zero =>
    intro i l2 l3 ei hc
    obtain rfl : i = n := by omega
    refine am_run hX 6 _ _ _ _ ?_
    conv => whnf
    rw [e115]
    refine ⟨fun _ => ?_, fun c => absurd (nI_le (Nat.le_refl _) (by omega)) c⟩
    conv => whnf
    refine ⟨rfl, ?_, ?_⟩
    · rw [if_pos hc]
    · rw [if_pos hc, hc]
      rfl
  | succ m ih =>
    intro i l2 l3 ei hc
    have hE : chF x z (i + 1) = (chK x z i, i) := if_pos hc
    -- behind what is found of row i
    have h87 : ∀ (k : Nat) (l2 l3 : Option am_V), k = chK x z i → X 87 [some (aR 108), some (aI (nI i)), l2, l3] [aI (nI k), aR 108] (mm_i M 108 (upd (upd (M.1 108) 4 0) 5 0)) := by
      intro k l2 l3 hk
      have k3 : k ≤ 3 := by
        rw [hk]
        unfold chK
        split
        · decide
        · split <;> decide
      refine am_run hX 5 _ _ _ _ ?_
      conv => whnf
      generalize hK0 : mm_i (mm_i M 108 (upd (upd (M.1 108) 4 0) 5 0)) 108 (upd ((mm_i M 108 (upd (upd (M.1 108) 4 0) 5 0)).1 108) 4 (nI k)) = K
      have hK : mm_i M 108 (upd (upd (upd (M.1 108) 4 0) 5 0) 4 (nI k)) = K := by rw [← hK0, mm_i1, mm_ii]
      have k4 : K.1 108 4 = nI k := by rw [← hK]; rfl
      rw [k4]
      refine ⟨fun c => ?_, fun c => ?_⟩
      · have k0 : ¬ k = 0 := fun e => c (by rw [e]; rfl)
        have h5 := chF_m (x := x) (z := z) (i := i + 1) (by rw [hE, ← hk]; exact k0) (n - (i + 1))
        rw [show i + 1 + (n - (i + 1)) = n by omega, hE, ← hk] at h5
        refine am_run hX 8 _ _ _ _ ?_
        conv => whnf
        refine ⟨vp_in_nI (by show i < 9; omega) (by decide), ?_⟩
        conv => whnf
        rw [nI_clamp (n := i) (by omega), show K.1 180 i = nI (pl i) from by rw [← hK]; exact hp i (by omega)]
        rw [show (mm_i K 108 (upd (K.1 108) 5 (nI (pl i)))).1 108 4 = nI k from k4]
        refine ⟨fun y => absurd y (fun y => c y), fun _ => ?_⟩
        refine am_run hX 2 _ _ _ _ ?_
        conv => whnf
        refine ⟨rfl, ?_, ?_⟩
        · rw [h5, if_neg k0]
        · rw [h5, if_neg k0, ← hK, mm_i1, mm_ii]
          congr 1
          funext y
          by_cases y5 : y = 5
          · subst y5; rfl
          by_cases y4 : y = 4
          · subst y4; rfl
          simp only [upd, if_neg y5, if_neg y4]
      · have k0 : k = 0 := (nI_eq (b := 0) (by omega) (by decide)).mp (Classical.not_not.mp c)
        have hK2 : mm_i K 108 (upd (K.1 108) 5 0) = mm_i M 108 (upd (upd (M.1 108) 4 0) 5 0) := by
          rw [← hK, mm_i1, mm_ii, k0]
          congr 1
          funext y
          by_cases y5 : y = 5
          · subst y5; rfl
          by_cases y4 : y = 4
          · subst y4; rfl
          simp only [upd, if_neg y5, if_neg y4]
        refine am_run hX 8 _ _ _ _ ?_
        conv => whnf
        rw [hK2]
        refine ⟨fun _ => ?_, fun y => absurd rfl y⟩
        conv => whnf
        rw [nI_1]
        refine ih (i + 1) _ _ (by omega) ?_
        rw [hE, ← hk]
        exact k0
    refine am_run hX 8 _ _ _ _ ?_
    conv => whnf
    rw [e115]
    refine ⟨fun c => absurd c (nI_ge (by omega) (by omega)), fun _ => ?_⟩
    conv => whnf
    refine ar_j (d := d) (M := mm_i M 108 (upd (upd (M.1 108) 4 0) 5 0)) (n := n) (x := x) (z := z) hX hn (by omega) hV (fun l3 => ?_) i 0 (by omega)
    refine am_run hX 3 _ _ _ _ ?_
    conv => whnf
    by_cases ha : alQ x z i i = true
    · rw [if_pos ha]
      refine ⟨fun _ => ?_, fun c => absurd (by decide) c⟩
      refine am_run hX 4 _ _ _ _ ?_
      conv => whnf
      refine am_c1 (ct_isP (d := d + 1) (M := mm_i M 108 (upd (upd (M.1 108) 4 0) 5 0)) (x := x) (z := z) (by omega) (fun j hj => hV j (by omega))) ?_
      by_cases hd : deB x z i (2 ^ i) = true
      · rw [if_pos hd]
        conv => whnf
        refine ⟨fun c => absurd c (by decide), fun _ => ?_⟩
        refine am_run hX 2 _ _ _ _ ?_
        conv => whnf
        refine h87 3 _ _ ?_
        unfold chK
        rw [if_neg (by rw [ha]; decide), if_pos hd]
      · rw [if_neg hd]
        conv => whnf
        refine ⟨fun _ => ?_, fun c => absurd rfl c⟩
        refine am_run hX 1 _ _ _ _ ?_
        conv => whnf
        refine h87 0 _ _ ?_
        unfold chK
        rw [if_neg (by rw [ha]; decide), if_neg hd]
    · rw [if_neg ha]
      refine ⟨fun c => absurd rfl c, fun _ => ?_⟩
      refine am_run hX 2 _ _ _ _ ?_
      conv => whnf
      refine h87 2 _ _ ?_
      unfold chK
      rw [if_pos (Bool.eq_false_iff.mpr ha)]
set_option maxRecDepth 100000 in
theorem ct_arR {n : Nat} {pl : Nat → Nat} (hn : n ≤ 8) (h115 : M.1 108 115 = nI n) (h4 : M.1 108 4 = 0) (h5 : M.1 108 5 = 0) (hV : crV M x z n) (hp : ∀ j, j < n → M.1 180 j = nI (pl j)) : am_M (d + 3) false nm_X12_areRowsRight [aR 108] M (arQ M x z pl n) := by
  refine ⟨rfl, rfl, rfl, fun X hX => am_run hX 2 _ _ _ _ ?_⟩
  conv => whnf
  have hg := ar_i (d := d) hX hn h115 hV hp n 0 none none (by omega) rfl
  have e : mm_i M 108 (upd (upd (M.1 108) 4 0) 5 0) = M := by
    have e1 : upd (M.1 108) 4 0 = M.1 108 := by
      rw [← h4]
      exact upd_self _ _
    have e2 : upd (M.1 108) 5 0 = M.1 108 := by
      rw [← h5]
      exact upd_self _ _
    rw [e1, e2, mm_iz]
  rw [e] at hg
  exact hg
end CHR
