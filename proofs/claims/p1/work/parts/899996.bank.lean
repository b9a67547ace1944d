/-! a draft becomes a circuit: put, keep; lay, settle -/
def dwR (f F : Nat → Int32) (k : Nat) : Nat → Int32 := fun j => if j < k then F j else f j
def drM (M : mm_M) (F : Nat → Int32) (k : Nat) : mm_M := mm_i (mm_i M 13 (dwR (M.1 13) F k)) 9 (upd (M.1 9) 8 (nI k))
theorem mm_x {A B : mm_M} (h1 : ∀ c, A.1 c = B.1 c) (h2 : A.2 = B.2) : A = B := Prod.ext (funext h1) h2
theorem mm_ci (M : mm_M) {a b : Nat} (f g : Nat → Int32) (h : a ≠ b) : mm_i (mm_i M a f) b g = mm_i (mm_i M b g) a f := mm_x (fun c => by
  show (if c = b then g else if c = a then f else M.1 c) = (if c = a then f else if c = b then g else M.1 c)
  by_cases e : c = a
  · rw [if_neg (by omega), if_pos e, if_pos e]
  · rw [if_neg e, if_neg e]) rfl
theorem dr_c (M : mm_M) (F : Nat → Int32) (k : Nat) {c : Nat} (f : Nat → Int32) (h1 : c ≠ 13) (h2 : c ≠ 9) : mm_i (drM M F k) c f = drM (mm_i M c f) F k := by
  unfold drM
  rw [mm_ci _ _ _ (Ne.symm h2), mm_ci _ _ _ (Ne.symm h1), mm_ne _ _ _ _ (Ne.symm h1), mm_ne _ _ _ _ (Ne.symm h2)]
theorem dr_r (M : mm_M) (F : Nat → Int32) (k : Nat) {c : Nat} (h1 : c ≠ 13) (h2 : c ≠ 9) : (drM M F k).1 c = M.1 c := by
  unfold drM
  rw [mm_ne _ _ _ _ h2, mm_ne _ _ _ _ h1]
theorem dr_9 (M : mm_M) (F : Nat → Int32) (k : Nat) : (drM M F k).1 9 = upd (M.1 9) 8 (nI k) := mm_i1 _ _ _
theorem dr_13 (M : mm_M) (F : Nat → Int32) (k : Nat) : (drM M F k).1 13 = dwR (M.1 13) F k := by
  unfold drM
  rw [mm_ne _ _ _ _ (by decide), mm_i1]
theorem dw_0 (f F : Nat → Int32) : dwR f F 0 = f := funext fun j => if_neg (by omega)
theorem dw_s (f F : Nat → Int32) (k : Nat) : upd (dwR f F k) k (F k) = dwR f F (k + 1) := up_s rfl
theorem dr_0 (M : mm_M) (F : Nat → Int32) : drM M F 0 = mm_i M 9 (upd (M.1 9) 8 0) := by
  unfold drM
  rw [dw_0, mm_iz]
  rfl
section LED
variable {d : Nat} {M : mm_M} {F : Nat → Int32}
set_option maxRecDepth 100000 in
theorem ct_stD : am_M (d + 1) false nm_X0_startDraft [aR 9] M (am_q0 (drM M F 0)) := by
  refine ⟨rfl, rfl, rfl, fun X hX => am_run hX 10 _ _ _ _ ?_⟩
  conv => whnf
  exact ⟨trivial, rfl, (dr_0 M F).symm⟩
set_option maxRecDepth 100000 in
theorem ct_put {k : Nat} {v : Int32} (hk : k < 300) (hv : F k = v) : am_M (d + 1) false nm_X0_put [aR 9, aI v] (drM M F k) (am_q0 (drM M F (k + 1))) := by
  subst hv
  have e8 : (drM M F k).1 9 8 = nI k := by rw [dr_9]; rfl
  refine ⟨rfl, rfl, rfl, fun X hX => am_run hX 30 _ _ _ _ ?_⟩
  conv => whnf
  rw [e8]
  refine ⟨fun c => absurd c (nI_ge (b := 300) hk (by decide)), fun _ => ?_⟩
  conv => whnf
  rw [e8]
  refine ⟨vp_in_nI (by show k < 300; omega) (by decide), ?_⟩
  conv => whnf
  rw [nI_clamp (n := k) (by omega), mm_ne _ _ _ _ (by decide), e8, nI_1, dr_13, dw_s, dr_9, upd_two]
  refine ⟨trivial, rfl, ?_⟩
  unfold drM
  rw [mm_ci _ _ _ (by decide : (9 : Nat) ≠ 13), mm_ii, mm_ii]
/-- how many h there are -/
def hcN (f : Nat → Int32) : Nat → Nat
  | 0 => 0
  | k + 1 => hcN f k + (if f k &&& 15 = 3 then 1 else 0)
theorem hc_le (f : Nat → Int32) : ∀ k, hcN f k ≤ k
  | 0 => Nat.le_refl _
  | k + 1 => by
    have := hc_le f k
    show hcN f k + (if f k &&& 15 = 3 then 1 else 0) ≤ k + 1
    split <;> omega
set_option maxRecDepth 100000 in
theorem ct_kind {v : Int32} : am_M (d + 1) false nm_X0_kindOf [aI v] M (am_q1 (aI (v &&& 15)) M) := by
  refine ⟨rfl, rfl, rfl, fun X hX => am_run hX 10 _ _ _ _ ?_⟩
  conv => whnf
  exact ⟨trivial, rfl, rfl⟩
set_option maxRecDepth 100000 in
theorem hs_l {P : am_Q} {X : am_X} {k : Nat} (hX : am_K (d + 1) false nm_X0_hsIn P X) (hk : k ≤ 300) (hK : ∀ l4, X 43 [some (aR 13), some (aI 0), some (aI (nI k)), some (aI (nI (hcN (M.1 13) k))), l4] [] M) : ∀ (m i : Nat), i + m = k → X 5 [some (aR 13), some (aI 0), some (aI (nI k)), some (aI (nI (hcN (M.1 13) i))), some (aI (nI i))] [] M := by
  intro m
  induction m with
  | zero =>
    intro i hi
    have hi : i = k := by omega
    subst hi
    refine am_run hX 3 _ _ _ _ ?_
    conv => whnf
    exact ⟨fun _ => hK _, fun c => absurd (nI_le (Nat.le_refl _) (by omega)) c⟩
  | succ m ih =>
    intro i hi
    have ih := ih (i + 1) (by omega)
    have e : hcN (M.1 13) (i + 1) = hcN (M.1 13) i + (if M.1 13 i &&& 15 = 3 then 1 else 0) := rfl
    rw [e] at ih
    refine am_run hX 3 _ _ _ _ ?_
    conv => whnf
    refine ⟨fun c => absurd c (nI_ge (by omega) (by omega)), fun _ => ?_⟩
    refine am_run hX 4 _ _ _ _ ?_
    conv => whnf
    refine ⟨fun c => absurd c (nI_ge (b := 300) (by omega) (by decide)), fun _ => ?_⟩
    refine am_run hX 7 _ _ _ _ ?_
    conv => whnf
    refine ⟨vp_in_nI (by show i < 300; omega) (by decide), ?_⟩
    conv => whnf
    rw [nI_clamp (n := i) (by omega)]
    refine am_c1 ct_kind ?_
    conv => whnf
    refine ⟨fun c => ?_, fun c => ?_⟩
    · rw [if_neg c] at ih
      refine am_run hX 5 _ _ _ _ ?_
      conv => whnf
      rw [nI_1, show nI (hcN (M.1 13) i) + 0 = nI (hcN (M.1 13) i + 0) from nI_add _ 0]
      exact ih
    · rw [if_pos (Decidable.byContradiction c)] at ih
      refine am_run hX 6 _ _ _ _ ?_
      conv => whnf
      rw [nI_1, nI_1]
      exact ih
set_option maxRecDepth 100000 in
theorem ct_hsD {k : Nat} (hk : k ≤ 300) : am_M (d + 2) false nm_X0_hsIn [aR 13, aI 0, aI (nI k)] M (am_q1 (aI (nI (hcN (M.1 13) k))) M) := by
  refine ⟨rfl, rfl, rfl, fun X hX => am_run hX 4 _ _ _ _ ?_⟩
  conv => whnf
  refine hs_l hX hk (fun l4 => ?_) k 0 (by omega)
  refine am_run hX 2 _ _ _ _ ?_
  conv => whnf
  exact ⟨trivial, rfl, rfl⟩
/-- the draft is kept -/
def kpM (D : mm_M) (n k W : Nat) : mm_M := mm_i (mm_i (mm_i (mm_i D 10 (va_cpy (D.1 13) (D.1 10) 0 (300 * n) k)) 11 (upd (D.1 11) n (nI k))) 12 (upd (D.1 12) n (nI W))) 9 (upd (D.1 9) 7 (nI (n + 1)))
set_option maxRecDepth 100000 in
theorem ct_keep {n k W : Nat} (h7 : M.1 9 7 = nI n) (h8 : M.1 9 8 = nI k) (hn : n < 20) (hk : k ≤ 300) (hh : hcN (M.1 13) k ≤ 60) : am_M (d + 3) false nm_X0_keep [aR 9, aI (nI W)] M (am_q1 (aI (nI n)) (kpM M n k W)) := by
  refine ⟨rfl, rfl, rfl, fun X hX => am_run hX 100 _ _ _ _ ?_⟩
  conv => whnf
  rw [h7]
  refine ⟨fun c => absurd c (nI_ge (b := 20) hn (by decide)), fun _ => ?_⟩
  conv => whnf
  rw [h8]
  refine ⟨fun c => absurd c (nI_nlt (a := 300) hk (by decide)), fun _ => ?_⟩
  conv => whnf
  rw [h8]
  refine am_c1 (ct_hsD hk) ?_
  conv => whnf
  refine ⟨fun _ => ?_, fun c => absurd (nI_le (b := 60) hh (by decide)) c⟩
  conv => whnf
  rw [h7, h8, show nI n * 300 = nI (300 * n) from by rw [show (300 : Int32) = nI 300 from rfl, nI_mul, Nat.mul_comm]]
  refine ⟨⟨by decide, nI_pos (by omega), nI_pos (by omega), by rw [nI_clamp (n := k) (by omega)]; show 0 + k ≤ 300; omega, by rw [nI_clamp (n := k) (by omega), nI_clamp (n := 300 * n) (by omega)]; show _ ≤ 6000; omega⟩, ?_⟩
  conv => whnf
  rw [nI_clamp (n := k) (by omega), nI_clamp (n := 300 * n) (by omega), show (0 : Int32).toNatClampNeg = 0 from rfl]
  rw [mm_ne _ _ _ _ (by decide : (9 : Nat) ≠ 10), h7, h8]
  refine ⟨vp_in_nI (by show n < 20; omega) (by decide), ?_⟩
  conv => whnf
  rw [nI_clamp (n := n) (by omega), mm_ne _ _ _ _ (by decide : (11 : Nat) ≠ 10), mm_ne _ _ _ _ (by decide : (9 : Nat) ≠ 11), mm_ne _ _ _ _ (by decide : (9 : Nat) ≠ 10), h7]
  refine ⟨vp_in_nI (by show n < 20; omega) (by decide), ?_⟩
  conv => whnf
  rw [nI_clamp (n := n) (by omega)]
  simp only [mm_i1, mm_ne _ _ _ _ (by decide : (9 : Nat) ≠ 12), mm_ne _ _ _ _ (by decide : (12 : Nat) ≠ 11), mm_ne _ _ _ _ (by decide : (12 : Nat) ≠ 10), mm_ne _ _ _ _ (by decide : (9 : Nat) ≠ 11), mm_ne _ _ _ _ (by decide : (9 : Nat) ≠ 10), h7, nI_1, up_at]
  rw [nI_s1 (n + 1) (by omega), show n + 1 - 1 = n from rfl]
  exact ⟨trivial, rfl, rfl⟩
/-- rows of the other side: k OPS laid from b on -/
def lwR (f g : Nat → Int32) (b k : Nat) : Nat → Int32 := fun a => if b ≤ a ∧ a < b + k then g (a - b) else f a
theorem lw_0 (f g : Nat → Int32) (b : Nat) : lwR f g b 0 = f := funext fun j => if_neg (by omega)
theorem lw_s (f g : Nat → Int32) (b k : Nat) {v : Int32} (hv : g k = v) : upd (lwR f g b k) (b + k) v = lwR f g b (k + 1) := funext fun a => by
  subst hv
  unfold upd lwR
  by_cases e : a = b + k
  · rw [if_pos e, if_pos (by omega), e, show b + k - b = k by omega]
  · rw [if_neg e]
    by_cases h : b ≤ a ∧ a < b + k
    · rw [if_pos h, if_pos (by omega)]
    · rw [if_neg h, if_neg (by omega)]
def lyM (M : mm_M) (n : Nat) (Z : Nat → bk_X) (k h : Nat) : mm_M := mm_i (mm_i (mm_i (mm_i (mm_i (mm_i (mm_i M 112 (lwR (M.1 112) (fun j => nI (Z j).1) (300 * n) k)) 113 (lwR (M.1 113) (fun j => nI (Z j).2.1) (300 * n) k)) 114 (lwR (M.1 114) (fun j => nI (Z j).2.2.1) (300 * n) k)) 115 (lwR (M.1 115) (fun j => nI (Z j).2.2.2.1) (300 * n) k)) 116 (lwR (M.1 116) (fun j => nI (Z j).2.2.2.2.1) (300 * n) k)) 117 (lwR (M.1 117) (fun j => nI (Z j).2.2.2.2.2) (300 * n) k)) 108 (upd (upd (upd (M.1 108) 36 (nI k)) 37 (nI h)) 38 0)
theorem ly_0 (M : mm_M) (n : Nat) (Z : Nat → bk_X) : lyM M n Z 0 0 = mm_i M 108 (upd (upd (upd (M.1 108) 36 0) 37 0) 38 0) := by
  unfold lyM
  rw [lw_0, lw_0, lw_0, lw_0, lw_0, lw_0, mm_iz, show M.1 113 = M.1 113 from rfl, mm_iz, mm_iz, mm_iz, mm_iz, mm_iz]
  rfl
theorem ly_r (M : mm_M) (n : Nat) (Z : Nat → bk_X) (k h : Nat) {c : Nat} (h1 : c ≠ 108) (h2 : ¬ (112 ≤ c ∧ c ≤ 117)) : (lyM M n Z k h).1 c = M.1 c := by
  unfold lyM
  rw [mm_ne _ _ _ _ h1, mm_ne _ _ _ _ (by omega), mm_ne _ _ _ _ (by omega), mm_ne _ _ _ _ (by omega), mm_ne _ _ _ _ (by omega), mm_ne _ _ _ _ (by omega), mm_ne _ _ _ _ (by omega)]
theorem ly_108 (M : mm_M) (n : Nat) (Z : Nat → bk_X) (k h : Nat) : (lyM M n Z k h).1 108 = upd (upd (upd (M.1 108) 36 (nI k)) 37 (nI h)) 38 0 := mm_i1 _ _ _
theorem ly_112 (M : mm_M) (n : Nat) (Z : Nat → bk_X) (k h : Nat) : (lyM M n Z k h).1 112 = lwR (M.1 112) (fun j => nI (Z j).1) (300 * n) k := by
  unfold lyM
  rw [mm_ne _ _ _ _ (by decide : (112 : Nat) ≠ 108), mm_ne _ _ _ _ (by decide : (112 : Nat) ≠ 117), mm_ne _ _ _ _ (by decide : (112 : Nat) ≠ 116), mm_ne _ _ _ _ (by decide : (112 : Nat) ≠ 115), mm_ne _ _ _ _ (by decide : (112 : Nat) ≠ 114), mm_ne _ _ _ _ (by decide : (112 : Nat) ≠ 113), mm_i1]
theorem ly_113 (M : mm_M) (n : Nat) (Z : Nat → bk_X) (k h : Nat) : (lyM M n Z k h).1 113 = lwR (M.1 113) (fun j => nI (Z j).2.1) (300 * n) k := by
  unfold lyM
  rw [mm_ne _ _ _ _ (by decide : (113 : Nat) ≠ 108), mm_ne _ _ _ _ (by decide : (113 : Nat) ≠ 117), mm_ne _ _ _ _ (by decide : (113 : Nat) ≠ 116), mm_ne _ _ _ _ (by decide : (113 : Nat) ≠ 115), mm_ne _ _ _ _ (by decide : (113 : Nat) ≠ 114), mm_i1]
theorem ly_114 (M : mm_M) (n : Nat) (Z : Nat → bk_X) (k h : Nat) : (lyM M n Z k h).1 114 = lwR (M.1 114) (fun j => nI (Z j).2.2.1) (300 * n) k := by
  unfold lyM
  rw [mm_ne _ _ _ _ (by decide : (114 : Nat) ≠ 108), mm_ne _ _ _ _ (by decide : (114 : Nat) ≠ 117), mm_ne _ _ _ _ (by decide : (114 : Nat) ≠ 116), mm_ne _ _ _ _ (by decide : (114 : Nat) ≠ 115), mm_i1]
theorem ly_115 (M : mm_M) (n : Nat) (Z : Nat → bk_X) (k h : Nat) : (lyM M n Z k h).1 115 = lwR (M.1 115) (fun j => nI (Z j).2.2.2.1) (300 * n) k := by
  unfold lyM
  rw [mm_ne _ _ _ _ (by decide : (115 : Nat) ≠ 108), mm_ne _ _ _ _ (by decide : (115 : Nat) ≠ 117), mm_ne _ _ _ _ (by decide : (115 : Nat) ≠ 116), mm_i1]
theorem ly_116 (M : mm_M) (n : Nat) (Z : Nat → bk_X) (k h : Nat) : (lyM M n Z k h).1 116 = lwR (M.1 116) (fun j => nI (Z j).2.2.2.2.1) (300 * n) k := by
  unfold lyM
  rw [mm_ne _ _ _ _ (by decide : (116 : Nat) ≠ 108), mm_ne _ _ _ _ (by decide : (116 : Nat) ≠ 117), mm_i1]
theorem ly_117 (M : mm_M) (n : Nat) (Z : Nat → bk_X) (k h : Nat) : (lyM M n Z k h).1 117 = lwR (M.1 117) (fun j => nI (Z j).2.2.2.2.2) (300 * n) k := by
  unfold lyM
  rw [mm_ne _ _ _ _ (by decide : (117 : Nat) ≠ 108), mm_i1]
theorem ly_up (M : mm_M) (n : Nat) (Z : Nat → bk_X) (k h h2 : Nat) : mm_i (mm_i (mm_i (mm_i (mm_i (mm_i (mm_i (mm_i (lyM M n Z k h) 112 (upd ((lyM M n Z k h).1 112) (300 * n + k) (nI (Z k).1))) 113 (upd ((lyM M n Z k h).1 113) (300 * n + k) (nI (Z k).2.1))) 114 (upd ((lyM M n Z k h).1 114) (300 * n + k) (nI (Z k).2.2.1))) 115 (upd ((lyM M n Z k h).1 115) (300 * n + k) (nI (Z k).2.2.2.1))) 116 (upd ((lyM M n Z k h).1 116) (300 * n + k) (nI (Z k).2.2.2.2.1))) 117 (upd ((lyM M n Z k h).1 117) (300 * n + k) (nI (Z k).2.2.2.2.2))) 108 (upd ((lyM M n Z k h).1 108) 36 (nI (k + 1)))) 108 (upd (upd ((lyM M n Z k h).1 108) 36 (nI (k + 1))) 37 (nI h2)) = lyM M n Z (k + 1) h2 := by
  refine mm_x (fun c => ?_) rfl
  by_cases h1 : c = 108
  · subst h1
    rw [mm_i1, ly_108, ly_108]
    funext j
    unfold upd
    by_cases j1 : j = 38
    · subst j1; rfl
    · by_cases j2 : j = 37
      · subst j2; rfl
      · by_cases j3 : j = 36
        · subst j3; rfl
        · simp only [if_neg j1, if_neg j2, if_neg j3]
  · rw [mm_ne _ _ _ _ h1, mm_ne _ _ _ _ h1]
    by_cases e117 : c = 117
    · subst e117
      rw [mm_i1, ly_117, ly_117, lw_s _ _ _ _ rfl]
    · rw [mm_ne _ _ _ _ e117]
      by_cases e116 : c = 116
      · subst e116
        rw [mm_i1, ly_116, ly_116, lw_s _ _ _ _ rfl]
      · rw [mm_ne _ _ _ _ e116]
        by_cases e115 : c = 115
        · subst e115
          rw [mm_i1, ly_115, ly_115, lw_s _ _ _ _ rfl]
        · rw [mm_ne _ _ _ _ e115]
          by_cases e114 : c = 114
          · subst e114
            rw [mm_i1, ly_114, ly_114, lw_s _ _ _ _ rfl]
          · rw [mm_ne _ _ _ _ e114]
            by_cases e113 : c = 113
            · subst e113
              rw [mm_i1, ly_113, ly_113, lw_s _ _ _ _ rfl]
            · rw [mm_ne _ _ _ _ e113]
              by_cases e112 : c = 112
              · subst e112
                rw [mm_i1, ly_112, ly_112, lw_s _ _ _ _ rfl]
              · rw [mm_ne _ _ _ _ e112]
                rw [ly_r _ _ _ _ _ h1 (by omega), ly_r _ _ _ _ _ h1 (by omega)]
set_option maxRecDepth 100000 in
theorem ct_stL {n : Nat} {Z : Nat → bk_X} : am_M (d + 1) false nm_X12_startLaying [aR 108] M (am_q0 (lyM M n Z 0 0)) := by
  refine ⟨rfl, rfl, rfl, fun X hX => am_run hX 20 _ _ _ _ ?_⟩
  conv => whnf
  refine ⟨⟨rfl, rfl⟩, ?_⟩
  conv => whnf
  refine ⟨trivial, rfl, ?_⟩
  rw [ly_0, mm_i1, mm_ii, mm_i1, mm_ii]
set_option maxRecDepth 100000 in
theorem ct_lay {n k h : Nat} {Z : Nat → bk_X} (h6 : M.1 108 6 = nI n) (hn : n < 20) (hk : k < 300) (hh : h < 60) : am_M (d + 1) false nm_X12_lay [aR 108, aI (nI (Z k).1), aI (nI (Z k).2.1), aI (nI (Z k).2.2.1), aI (nI (Z k).2.2.2.1), aI (nI (Z k).2.2.2.2.1), aI (nI (Z k).2.2.2.2.2)] (lyM M n Z k h) (am_q0 (lyM M n Z (k + 1) (h + (if nI (Z k).1 = 3 then 1 else 0)))) := by
  have e36 : (lyM M n Z k h).1 108 36 = nI k := by rw [ly_108]; rfl
  have e37 : (lyM M n Z k h).1 108 37 = nI h := by rw [ly_108]; rfl
  have e38 : (lyM M n Z k h).1 108 38 = 0 := by rw [ly_108]; rfl
  have e6 : (lyM M n Z k h).1 108 6 = nI n := by rw [ly_108]; exact h6
  have u38 : mm_i (lyM M n Z k h) 108 (upd ((lyM M n Z k h).1 108) 38 0) = lyM M n Z k h := by
    rw [show upd ((lyM M n Z k h).1 108) 38 0 = (lyM M n Z k h).1 108 from by
      rw [ly_108, upd_two], mm_iz]
  have go : ∀ {P : am_Q} {X : am_X} (hX : am_K d false nm_X12_lay P X), P (.inl none) (lyM M n Z (k + 1) (h + (if nI (Z k).1 = 3 then 1 else 0))) → X 36 [some (aR 108), some (aI (nI (Z k).1)), some (aI (nI (Z k).2.1)), some (aI (nI (Z k).2.2.1)), some (aI (nI (Z k).2.2.2.1)), some (aI (nI (Z k).2.2.2.2.1)), some (aI (nI (Z k).2.2.2.2.2)), none] [aR 108] (lyM M n Z k h) := by
    intro P X hX hP
    refine am_run hX 100 _ _ _ _ ?_
    conv => whnf
    refine ⟨⟨rfl, rfl⟩, ?_⟩
    conv => whnf
    rw [u38, e38]
    refine ⟨fun _ => ?_, fun c => absurd rfl c⟩
    conv => whnf
    rw [e6, e36, show (300 : Int32) * nI n + nI k = nI (300 * n + k) from by rw [show (300 : Int32) = nI 300 from rfl, nI_mul, nI_add]]
    refine ⟨vp_in_nI (by show _ < 6300; omega) (by decide), ?_⟩
    conv => whnf
    refine ⟨vp_in_nI (by show _ < 6300; omega) (by decide), ?_⟩
    conv => whnf
    refine ⟨vp_in_nI (by show _ < 6300; omega) (by decide), ?_⟩
    conv => whnf
    refine ⟨vp_in_nI (by show _ < 6300; omega) (by decide), ?_⟩
    conv => whnf
    refine ⟨vp_in_nI (by show _ < 6300; omega) (by decide), ?_⟩
    conv => whnf
    refine ⟨vp_in_nI (by show _ < 6300; omega) (by decide), ?_⟩
    conv => whnf
    rw [nI_clamp (n := 300 * n + k) (by omega)]
    simp only [mm_ne _ _ _ _ (by decide : (113 : Nat) ≠ 112), mm_ne _ _ _ _ (by decide : (114 : Nat) ≠ 112), mm_ne _ _ _ _ (by decide : (114 : Nat) ≠ 113), mm_ne _ _ _ _ (by decide : (115 : Nat) ≠ 112), mm_ne _ _ _ _ (by decide : (115 : Nat) ≠ 113), mm_ne _ _ _ _ (by decide : (115 : Nat) ≠ 114), mm_ne _ _ _ _ (by decide : (116 : Nat) ≠ 112), mm_ne _ _ _ _ (by decide : (116 : Nat) ≠ 113), mm_ne _ _ _ _ (by decide : (116 : Nat) ≠ 114), mm_ne _ _ _ _ (by decide : (116 : Nat) ≠ 115), mm_ne _ _ _ _ (by decide : (117 : Nat) ≠ 112), mm_ne _ _ _ _ (by decide : (117 : Nat) ≠ 113), mm_ne _ _ _ _ (by decide : (117 : Nat) ≠ 114), mm_ne _ _ _ _ (by decide : (117 : Nat) ≠ 115), mm_ne _ _ _ _ (by decide : (117 : Nat) ≠ 116), mm_ne _ _ _ _ (by decide : (108 : Nat) ≠ 112), mm_ne _ _ _ _ (by decide : (108 : Nat) ≠ 113), mm_ne _ _ _ _ (by decide : (108 : Nat) ≠ 114), mm_ne _ _ _ _ (by decide : (108 : Nat) ≠ 115), mm_ne _ _ _ _ (by decide : (108 : Nat) ≠ 116), mm_ne _ _ _ _ (by decide : (108 : Nat) ≠ 117), mm_i1, e36, nI_1]
    refine ⟨fun c => ?_, fun c => ?_⟩
    · rw [if_neg c] at hP
      conv => whnf
      simp only [mm_ne _ _ _ _ (by decide : (113 : Nat) ≠ 112), mm_ne _ _ _ _ (by decide : (114 : Nat) ≠ 112), mm_ne _ _ _ _ (by decide : (114 : Nat) ≠ 113), mm_ne _ _ _ _ (by decide : (115 : Nat) ≠ 112), mm_ne _ _ _ _ (by decide : (115 : Nat) ≠ 113), mm_ne _ _ _ _ (by decide : (115 : Nat) ≠ 114), mm_ne _ _ _ _ (by decide : (116 : Nat) ≠ 112), mm_ne _ _ _ _ (by decide : (116 : Nat) ≠ 113), mm_ne _ _ _ _ (by decide : (116 : Nat) ≠ 114), mm_ne _ _ _ _ (by decide : (116 : Nat) ≠ 115), mm_ne _ _ _ _ (by decide : (117 : Nat) ≠ 112), mm_ne _ _ _ _ (by decide : (117 : Nat) ≠ 113), mm_ne _ _ _ _ (by decide : (117 : Nat) ≠ 114), mm_ne _ _ _ _ (by decide : (117 : Nat) ≠ 115), mm_ne _ _ _ _ (by decide : (117 : Nat) ≠ 116), mm_ne _ _ _ _ (by decide : (108 : Nat) ≠ 112), mm_ne _ _ _ _ (by decide : (108 : Nat) ≠ 113), mm_ne _ _ _ _ (by decide : (108 : Nat) ≠ 114), mm_ne _ _ _ _ (by decide : (108 : Nat) ≠ 115), mm_ne _ _ _ _ (by decide : (108 : Nat) ≠ 116), mm_ne _ _ _ _ (by decide : (108 : Nat) ≠ 117), mm_i1]
      rw [up_ne (by decide : (37 : Nat) ≠ 36), e37, show nI h + 0 = nI (h + 0) from nI_add _ 0]
      refine ⟨trivial, ?_⟩
      rw [ly_up]
      exact hP
    · rw [if_pos (Decidable.byContradiction c)] at hP
      conv => whnf
      simp only [mm_ne _ _ _ _ (by decide : (113 : Nat) ≠ 112), mm_ne _ _ _ _ (by decide : (114 : Nat) ≠ 112), mm_ne _ _ _ _ (by decide : (114 : Nat) ≠ 113), mm_ne _ _ _ _ (by decide : (115 : Nat) ≠ 112), mm_ne _ _ _ _ (by decide : (115 : Nat) ≠ 113), mm_ne _ _ _ _ (by decide : (115 : Nat) ≠ 114), mm_ne _ _ _ _ (by decide : (116 : Nat) ≠ 112), mm_ne _ _ _ _ (by decide : (116 : Nat) ≠ 113), mm_ne _ _ _ _ (by decide : (116 : Nat) ≠ 114), mm_ne _ _ _ _ (by decide : (116 : Nat) ≠ 115), mm_ne _ _ _ _ (by decide : (117 : Nat) ≠ 112), mm_ne _ _ _ _ (by decide : (117 : Nat) ≠ 113), mm_ne _ _ _ _ (by decide : (117 : Nat) ≠ 114), mm_ne _ _ _ _ (by decide : (117 : Nat) ≠ 115), mm_ne _ _ _ _ (by decide : (117 : Nat) ≠ 116), mm_ne _ _ _ _ (by decide : (108 : Nat) ≠ 112), mm_ne _ _ _ _ (by decide : (108 : Nat) ≠ 113), mm_ne _ _ _ _ (by decide : (108 : Nat) ≠ 114), mm_ne _ _ _ _ (by decide : (108 : Nat) ≠ 115), mm_ne _ _ _ _ (by decide : (108 : Nat) ≠ 116), mm_ne _ _ _ _ (by decide : (108 : Nat) ≠ 117), mm_i1]
      rw [up_ne (by decide : (37 : Nat) ≠ 36), e37, nI_1]
      refine ⟨trivial, ?_⟩
      rw [ly_up]
      exact hP
  refine ⟨rfl, rfl, rfl, fun X hX => am_run hX 4 _ _ _ _ ?_⟩
  conv => whnf
  rw [e38]
  refine ⟨fun c => absurd rfl c, fun _ => ?_⟩
  refine am_run hX 4 _ _ _ _ ?_
  conv => whnf
  rw [e36]
  refine ⟨fun c => absurd ((nI_eq (b := 300) (by omega) (by decide)).mp c) (by omega), fun _ => ?_⟩
  refine am_run hX 3 _ _ _ _ ?_
  conv => whnf
  refine ⟨fun _ => go hX ⟨rfl, rfl⟩, fun _ => ?_⟩
  refine am_run hX 4 _ _ _ _ ?_
  conv => whnf
  rw [e37]
  refine ⟨fun _ => go hX ⟨rfl, rfl⟩, fun c => absurd ((nI_eq (b := 60) (by omega) (by decide)).mp (Decidable.byContradiction c)) (by omega)⟩
end LED
