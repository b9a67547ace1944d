/-! THE REFERENCE'S doOp; WHAT A STEP KEEPS -/
/-- what holds of a RUN as it goes on -/
def aok (W : Nat) (σ : ru_A) : Prop := sI (fun i => nrm (σ.2.1 i)) (2 ^ W) ≤ 2 ^ σ.1 ∧ σ.2.2.2 < 2 ^ 8
theorem aok_bd {W : Nat} {σ : ru_A} (h : aok W σ) (hk : σ.1 ≤ 60) : ∀ j, j < 2 ^ W → bd (σ.2.1 j) := fun j hj => by
  have h1 := sI_at (F := fun i => nrm (σ.2.1 i)) (2 ^ W) (fun i _ => nrm0 _) j hj
  have h2 := h.1
  have h3 := p60 hk
  exact nrm_bd (by
    have h1 : nrm (σ.2.1 j) ≤ sI (fun i => nrm (σ.2.1 i)) (2 ^ W) := h1
    omega)
theorem ob_nrm (v : Nat) (xs : Nat → R4) (t W : Nat) : sI (fun i => nrm (obX v xs t i)) (2 ^ W) ≤ sI (fun i => nrm (xs i)) (2 ^ W) := by
  refine sI_le _ fun i _ => ?_
  show nrm (obX v xs t i) ≤ nrm (xs i)
  unfold obX
  by_cases h : i.testBit t = decide (v = 1)
  · rw [if_pos h]
    exact Int.le_refl _
  · rw [if_neg h]
    exact nrm0 _
theorem pw_1 (k : Nat) : (2 : Int) ^ (k + 1) = 2 * 2 ^ k := by rw [Int.pow_succ, Int.mul_comm]
theorem aok_s {W : Nat} {tape : Int64} {x : bk_X} {σ : ru_A} (hog : ogd W x) (h : aok W σ) : aok W (ast W tape x σ) := by
  have hap := ogd_a hog
  have hsec := hog.1.2.2.1
  unfold ast
  by_cases hc : σ.2.2.2 &&& x.2.2.2.2.1 = x.2.2.2.2.1 ∧ σ.2.2.2 &&& x.2.2.2.2.2 = 0
  · rw [if_pos hc]
    by_cases h9 : x.1 < 9
    · rw [if_pos h9]
      refine ⟨?_, h.2⟩
      show sI (fun i => nrm (gx x.1 x.2.1 x.2.2.1 x.2.2.2.1 false (2 ^ W) σ.2.1 i)) (2 ^ W) ≤ 2 ^ (if x.1 = 3 then σ.1 + 1 else σ.1)
      rw [gx_nrm hap]
      by_cases h3 : x.1 = 3
      · rw [if_pos h3, if_pos h3, pw_1]
        have := h.1
        omega
      · rw [if_neg h3, if_neg h3]
        exact h.1
    · rw [if_neg h9]
      by_cases hk9 : x.1 = 9
      · rw [if_pos hk9]
        refine ⟨Int.le_trans (ob_nrm _ _ _ _) h.1, ?_⟩
        show (if obV tape σ.2.2.1 σ.2.1 x.2.1 (2 ^ W) = 1 then σ.2.2.2 ||| 2 ^ x.2.2.1 else σ.2.2.2 ^^^ (σ.2.2.2 &&& 2 ^ x.2.2.1)) < 2 ^ 8
        have hb := h.2
        by_cases hv : obV tape σ.2.2.1 σ.2.1 x.2.1 (2 ^ W) = 1
        · rw [if_pos hv]
          exact or_lt hb (Nat.pow_lt_pow_right (by decide) hsec)
        · rw [if_neg hv]
          exact ax_lt hb
      · rw [if_neg hk9]
        refine ⟨?_, h.2⟩
        show sI (fun i => nrm ((if obV tape σ.2.2.1 σ.2.1 x.2.1 (2 ^ W) = 1 then gx 0 x.2.1 0 0 false (2 ^ W) (obX 1 σ.2.1 x.2.1) else obX 0 σ.2.1 x.2.1) i)) (2 ^ W) ≤ 2 ^ σ.1
        by_cases hv : obV tape σ.2.2.1 σ.2.1 x.2.1 (2 ^ W) = 1
        · simp only [if_pos hv]
          rw [gx_nrm ⟨hap.1, Nat.two_pow_pos W, Nat.zero_testBit _, fun q => absurd q (by decide)⟩, if_neg (by decide)]
          exact Int.le_trans (ob_nrm _ _ _ _) h.1
        · simp only [if_neg hv]
          exact Int.le_trans (ob_nrm _ _ _ _) h.1
  · rw [if_neg hc]
    exact h
theorem ast_k (W : Nat) (tape : Int64) (x : bk_X) (σ : ru_A) : (ast W tape x σ).1 ≤ σ.1 + (if x.1 = 3 then 1 else 0) := by
  unfold ast
  by_cases hc : σ.2.2.2 &&& x.2.2.2.2.1 = x.2.2.2.2.1 ∧ σ.2.2.2 &&& x.2.2.2.2.2 = 0
  · rw [if_pos hc]
    by_cases h9 : x.1 < 9
    · rw [if_pos h9]
      by_cases h3 : x.1 = 3
      · simp only [if_pos h3]
        omega
      · simp only [if_neg h3]
        omega
    · rw [if_neg h9]
      by_cases hk9 : x.1 = 9
      · rw [if_pos hk9]
        show σ.1 ≤ _
        omega
      · rw [if_neg hk9]
        show σ.1 ≤ _
        omega
  · rw [if_neg hc]
    omega
theorem ast_t (W : Nat) (tape : Int64) (x : bk_X) (σ : ru_A) : (ast W tape x σ).2.2.1 ≤ σ.2.2.1 + 1 := by
  have ht : obT σ.2.2.1 σ.2.1 x.2.1 (2 ^ W) ≤ σ.2.2.1 + 1 := by
    unfold obT
    by_cases h : obB σ.2.1 x.2.1 (2 ^ W) = true
    · rw [if_pos h]
      exact Nat.le_refl _
    · rw [if_neg h]
      omega
  unfold ast
  by_cases hc : σ.2.2.2 &&& x.2.2.2.2.1 = x.2.2.2.2.1 ∧ σ.2.2.2 &&& x.2.2.2.2.2 = 0
  · rw [if_pos hc]
    by_cases h9 : x.1 < 9
    · rw [if_pos h9]
      show σ.2.2.1 ≤ _
      omega
    · rw [if_neg h9]
      by_cases hk9 : x.1 = 9
      · rw [if_pos hk9]
        exact ht
      · rw [if_neg hk9]
        exact ht
  · rw [if_neg hc]
    omega
section DOP
variable {d : Nat} {M : mm_M} {g : Nat → Int64}
theorem g00 {t j : Nat} : gS0 t 0 j ↔ j.testBit t = false := by
  unfold gS0
  rw [Nat.and_zero]
  simp
set_option maxRecDepth 100000 in
theorem dx_l {P : am_Q} {X : am_X} {W a t : Nat} {ys : Nat → R4 × Nat} (hX : am_K (d + 1) false nm_X12_doOp P X) (w8 : W ≤ 8) (ht : t < W) (ha : a < 6300) (hw : M.1 108 71 = nI W) (hwi : M.1 113 a = nI t) (hP : P (.inl none) (mm_l M 150 (c5 g (2 ^ W) (pm (gS0 t 0) (2 ^ t) (fun _ b => b) (fun a _ => a) ys (2 ^ W))))) : ∀ (m j : Nat), j + m = 2 ^ W → X 124 [some (aR 108), some (aI (nI a)), some (aI (nI 1)), some (aI (nI j))] [] (mm_l M 150 (c5 g (2 ^ W) (pm (gS0 t 0) (2 ^ t) (fun _ b => b) (fun a _ => a) ys j))) := by
  have h8 := w256 w8
  have htl : 2 ^ t < 2 ^ W := Nat.pow_lt_pow_right (by decide) ht
  intro m
  induction m with
  | zero =>
    intro j hj
    have hj : j = 2 ^ W := by omega
    subst hj
    refine am_run hX 12 _ _ _ _ ?_
    conv => whnf
    rw [show (mm_l M 150 (c5 g (2 ^ W) (pm (gS0 t 0) (2 ^ t) (fun _ b => b) (fun a _ => a) ys (2 ^ W)))).1 108 71 = nI W from hw, sh2 W (by omega)]
    refine ⟨fun _ => ?_, fun c => absurd (nI_le (by omega) (by omega)) c⟩
    conv => whnf
    exact ⟨trivial, hP⟩
  | succ m ih =>
    intro j hj
    have ih := ih (j + 1) (by omega)
    have hj0 : j < 2 ^ W := by omega
    refine am_run hX 6 _ _ _ _ ?_
    conv => whnf
    rw [show (mm_l M 150 (c5 g (2 ^ W) (pm (gS0 t 0) (2 ^ t) (fun _ b => b) (fun a _ => a) ys j))).1 108 71 = nI W from hw, sh2 W (by omega)]
    refine ⟨fun c => absurd c (nI_ge (by omega) (by omega)), fun _ => ?_⟩
    refine am_run hX 9 _ _ _ _ ?_
    conv => whnf
    refine ⟨vp_in_nI (by show _ < 6300; omega) (by decide), ?_⟩
    conv => whnf
    rw [nI_clamp (n := a) (by omega), show (mm_l M 150 (c5 g (2 ^ W) (pm (gS0 t 0) (2 ^ t) (fun _ b => b) (fun a _ => a) ys j))).1 113 a = nI t from hwi, nI_sh (by omega) t (by omega), nI_m1, show (0 : Int32) = nI 0 from rfl, nI_eq (by omega) (by omega), tb_dm (v := 0) (by decide)]
    refine ⟨fun hb => ?_, fun hb => ?_⟩
    · refine am_run hX 2 _ _ _ _ ?_
      conv => whnf
      rw [nI_1, pm_n (S := gS0 t 0) (fun q => hb (by rw [q.2]; rfl))]
      exact ih
    · have hb : j.testBit t = false := by
        have := Decidable.byContradiction hb
        simpa using this
      have hS : gS0 t 0 j := g00.mpr hb
      have hnS := g0_n (Nat.zero_testBit t) hS
      have hj2 := xq_lt hj0 htl
      refine am_run hX 13 _ _ _ _ ?_
      conv => whnf
      refine ⟨vp_in_nI (by show _ < 6300; omega) (by decide), ?_⟩
      conv => whnf
      rw [nI_clamp (n := a) (by omega), show (mm_l M 150 (c5 g (2 ^ W) (pm (gS0 t 0) (2 ^ t) (fun _ b => b) (fun a _ => a) ys j))).1 113 a = nI t from hwi, sh2 t (by omega), nI_or, or_x hb]
      refine am_c0 (ct_exc5 (d := d) h8 hj0 hj2 (fun e => hnS (by rw [← e]; exact hS))) ?_
      rw [pm_at hnS, pm_at2 hnS, pm_s hS hnS]
      conv => whnf
      rw [nI_1]
      exact ih
set_option maxRecDepth 100000 in
theorem ct_doOp {W k a dn tk b : Nat} {xs : Nat → R4} {gk : Int32} {tape : Int64} {x : bk_X} {q o f : Nat → Int64} (w8 : W ≤ 8) (hog : ogd W x) (ha : a < 6300) (ho : bk_o M a x) (htk : tk < 2 ^ 30) (hk : k ≤ 60) (hk2 : (ast W tape x (k, xs, tk, b)).1 ≤ 60) (hao : aok W (k, xs, tk, b)) (hT : M.2 108 69 = tape) (hw : M.1 108 71 = nI W) : am_M (d + 6) false nm_X12_doOp [aR 108, aI (nI a)] (rF M (r108 (M.1 108) dn tk b gk) q o f (c5 g (2 ^ W) (fun j => red k (xs j)))) (fun r M' => r = .inl none ∧ ∃ q' o' f' gk', (gk' = 0 ∨ gk' = gk ∧ ast W tape x (k, xs, tk, b) = (k, xs, tk, b)) ∧ M' = rF M (r108 (M.1 108) dn (ast W tape x (k, xs, tk, b)).2.2.1 (ast W tape x (k, xs, tk, b)).2.2.2 gk') q' o' f' (c5 g (2 ^ W) (fun j => red (ast W tape x (k, xs, tk, b)).1 ((ast W tape x (k, xs, tk, b)).2.1 j)))) := by
  have ow := hog.1
  have hap := ogd_a hog
  have ht := ow.2.1
  have hsec := ow.2.2.1
  have hno := ow.2.2.2.2.1
  have hnz := ow.2.2.2.2.2
  have hk10 := ow.1
  have hb := hao.2
  have hb : b < 2 ^ 8 := hb
  have hN := w256 w8
  have hbd := aok_bd hao hk
  have hao2 := aok_s (tape := tape) hog hao
  have hbd2 := aok_bd hao2 hk2
  obtain ⟨o1', o2, o3, o4, o5, o6, o7⟩ := ho
  have rb : (rF M (r108 (M.1 108) dn tk b gk) q o f (c5 g (2 ^ W) (fun j => red k (xs j)))).1 108 70 = nI b := by
    rw [rF_108]
    rfl
  have h1 : b &&& x.2.2.2.2.1 < 2 ^ 8 := al_lt hb
  have h2 : b &&& x.2.2.2.2.2 < 2 ^ 8 := al_lt hb
  refine ⟨rfl, rfl, rfl, fun X hX => am_run hX 12 _ _ _ _ ?_⟩
  conv => whnf
  refine ⟨vp_in_nI (by show _ < 6300; omega) (by decide), ?_⟩
  conv => whnf
  refine ⟨vp_in_nI (by show _ < 6300; omega) (by decide), ?_⟩
  conv => whnf
  rw [rb, nI_clamp (n := a) (by omega), show (rF M (r108 (M.1 108) dn tk b gk) q o f (c5 g (2 ^ W) (fun j => red k (xs j)))).1 116 a = nI x.2.2.2.2.1 from o6, nI_and, nI_eq (by omega) (by omega)]
  refine ⟨fun hc => ?_, fun hc => ?_⟩
  · have e : (ast W tape x (k, xs, tk, b)) = (k, xs, tk, b) := by
      unfold ast
      rw [if_neg (fun q => hc q.1)]
    rw [e] at hX
    refine am_run hX 2 _ _ _ _ ?_
    conv => whnf
    exact ⟨trivial, rfl, _, _, _, _, Or.inr ⟨rfl, rfl⟩, rfl⟩
  have hc : b &&& x.2.2.2.2.1 = x.2.2.2.2.1 := Decidable.byContradiction hc
  refine am_run hX 8 _ _ _ _ ?_
  conv => whnf
  refine ⟨vp_in_nI (by show _ < 6300; omega) (by decide), ?_⟩
  conv => whnf
  rw [rb, nI_clamp (n := a) (by omega), show (rF M (r108 (M.1 108) dn tk b gk) q o f (c5 g (2 ^ W) (fun j => red k (xs j)))).1 117 a = nI x.2.2.2.2.2 from o7, nI_and, show (0 : Int32) = nI 0 from rfl, nI_eq (by omega) (by omega)]
  refine ⟨fun hc2 => ?_, fun hc2 => ?_⟩
  · refine am_run hX 6 _ _ _ _ ?_
    conv => whnf
    refine ⟨vp_in_nI (by show _ < 6300; omega) (by decide), ?_⟩
    conv => whnf
    rw [nI_clamp (n := a) (by omega), show (rF M (r108 (M.1 108) dn tk b gk) q o f (c5 g (2 ^ W) (fun j => red k (xs j)))).1 112 a = nI x.1 from o2]
    by_cases h9 : x.1 < 9
    · refine ⟨fun c => absurd c (nI_ge (a := x.1) (b := 9) h9 (by decide)), fun _ => ?_⟩
      have e : (ast W tape x (k, xs, tk, b)) = (if x.1 = 3 then k + 1 else k, gx x.1 x.2.1 x.2.2.1 x.2.2.2.1 false (2 ^ W) xs, tk, b) := by
        unfold ast
        rw [if_pos ⟨hc, hc2⟩, if_pos h9]
      rw [e] at hX hbd2
      refine am_run hX 10 _ _ _ _ ?_
      conv => whnf
      refine am_cq (ct_rap (d := d) (M := mm_i M 108 (r108 (M.1 108) dn tk b gk)) (k := k) (xs := xs) (g := g) ⟨ha, w8, by rw [mm_i1]; exact hw, o2, o3, o4, o5, hsec⟩ hap (by omega) (by omega) hbd2) ?_
      rintro r M' ⟨rfl, q', o', f', rfl⟩
      refine ⟨none, rfl, ?_⟩
      rw [mm_i1, mm_ii, r108_74]
      conv => whnf
      exact ⟨trivial, rfl, _, _, _, _, Or.inl rfl, rfl⟩
    · refine ⟨fun _ => ?_, fun c => absurd (nI_le (a := 9) (by omega) (by omega)) c⟩
      refine am_run hX 13 _ _ _ _ ?_
      conv => whnf
      refine ⟨vp_in_nI (by show _ < 6300; omega) (by decide), ?_⟩
      conv => whnf
      rw [nI_clamp (n := a) (by omega), show (rF M (r108 (M.1 108) dn tk b gk) q o f (c5 g (2 ^ W) (fun j => red k (xs j)))).1 113 a = nI x.2.1 from o3]
      refine am_c1 (ct_outc (d := d + 3) (M := M) (tape := tape) w8 ht htk hw hT hbd) ?_
      have v2 := obV_2 tape tk xs x.2.1 (2 ^ W)
      conv => whnf
      refine ⟨vp_in_nI (by show _ < 6300; omega) (by decide), ?_⟩
      conv => whnf
      generalize hv0 : obV tape tk xs x.2.1 (2 ^ W) = v at *
      have rb2 : (rF M (r108 (M.1 108) dn (obT tk xs x.2.1 (2 ^ W)) b 0) q o f (c5 g (2 ^ W) (fun j => red k (obX v xs x.2.1 j)))).1 108 70 = nI b := by
        rw [rF_108]
        rfl
      rw [nI_clamp (n := a) (by omega), show (rF M (r108 (M.1 108) dn (obT tk xs x.2.1 (2 ^ W)) b 0) q o f (c5 g (2 ^ W) (fun j => red k (obX v xs x.2.1 j)))).1 112 a = nI x.1 from o2]
      by_cases hk9 : x.1 = 9
      · rw [hk9]
        refine ⟨fun c => absurd rfl c, fun _ => ?_⟩
        refine am_run hX 4 _ _ _ _ ?_
        conv => whnf
        rcases (by omega : v = 0 ∨ v = 1) with rfl | rfl
        · have e : (ast W tape x (k, xs, tk, b)) = (k, obX 0 xs x.2.1, obT tk xs x.2.1 (2 ^ W), b ^^^ (b &&& 2 ^ x.2.2.1)) := by
            unfold ast
            rw [if_pos ⟨hc, hc2⟩, if_neg h9, if_pos hk9]
            simp only [hv0]
            rfl
          rw [e] at hX
          refine ⟨fun _ => ?_, fun c => absurd (by decide) c⟩
          refine am_run hX 20 _ _ _ _ ?_
          conv => whnf
          refine ⟨vp_in_nI (by show _ < 6300; omega) (by decide), ?_⟩
          conv => whnf
          rw [nI_clamp (n := a) (by omega), rb2, show (rF M (r108 (M.1 108) dn (obT tk xs x.2.1 (2 ^ W)) b 0) q o f (c5 g (2 ^ W) (fun j => red k (obX 0 xs x.2.1 j)))).1 114 a = nI x.2.2.1 from o4, sh2 _ (by omega), nI_andn]
          refine ⟨trivial, rfl, q, o, f, 0, Or.inl rfl, ?_⟩
          rw [rF_D, rF_108, r108_70]
        · have e : (ast W tape x (k, xs, tk, b)) = (k, obX 1 xs x.2.1, obT tk xs x.2.1 (2 ^ W), b ||| 2 ^ x.2.2.1) := by
            unfold ast
            rw [if_pos ⟨hc, hc2⟩, if_neg h9, if_pos hk9]
            simp only [hv0]
            rfl
          rw [e] at hX
          refine ⟨fun c => absurd rfl c, fun _ => ?_⟩
          refine am_run hX 20 _ _ _ _ ?_
          conv => whnf
          refine ⟨vp_in_nI (by show _ < 6300; omega) (by decide), ?_⟩
          conv => whnf
          rw [nI_clamp (n := a) (by omega), rb2, show (rF M (r108 (M.1 108) dn (obT tk xs x.2.1 (2 ^ W)) b 0) q o f (c5 g (2 ^ W) (fun j => red k (obX 1 xs x.2.1 j)))).1 114 a = nI x.2.2.1 from o4, sh2 _ (by omega), nI_or]
          refine ⟨trivial, rfl, q, o, f, 0, Or.inl rfl, ?_⟩
          rw [rF_D, rF_108, r108_70]
      · refine ⟨fun _ => ?_, fun c => absurd ((nI_eq (a := x.1) (b := 9) (by omega) (by decide)).mp (Decidable.byContradiction c)) hk9⟩
        refine am_run hX 3 _ _ _ _ ?_
        conv => whnf
        rcases (by omega : v = 0 ∨ v = 1) with rfl | rfl
        · have e : (ast W tape x (k, xs, tk, b)) = (k, obX 0 xs x.2.1, obT tk xs x.2.1 (2 ^ W), b) := by
            unfold ast
            rw [if_pos ⟨hc, hc2⟩, if_neg h9, if_neg hk9]
            simp only [hv0]
            rfl
          rw [e] at hX
          refine ⟨fun _ => ?_, fun c => absurd (by decide) c⟩
          refine am_run hX 2 _ _ _ _ ?_
          conv => whnf
          exact ⟨trivial, rfl, q, o, f, 0, Or.inl rfl, rfl⟩
        · have e : (ast W tape x (k, xs, tk, b)) = (k, gx 0 x.2.1 0 0 false (2 ^ W) (obX 1 xs x.2.1), obT tk xs x.2.1 (2 ^ W), b) := by
            unfold ast
            rw [if_pos ⟨hc, hc2⟩, if_neg h9, if_neg hk9]
            simp only [hv0]
            rfl
          rw [e] at hX
          refine ⟨fun c => absurd rfl c, fun _ => ?_⟩
          refine am_run hX 2 _ _ _ _ ?_
          conv => whnf
          have key := dx_l (d := d + 4) (M := rF M (r108 (M.1 108) dn (obT tk xs x.2.1 (2 ^ W)) b 0) q o f (c5 g (2 ^ W) (fun j => red k (obX 1 xs x.2.1 j)))) (g := g) (ys := fun j => red k (obX 1 xs x.2.1 j)) hX w8 ht ha (by rw [rF_108]; exact hw) o3 ?_ (2 ^ W) 0 (by omega)
          · rw [pm_0, rF_s] at key
            exact key
          · refine ⟨rfl, q, o, f, 0, Or.inl rfl, ?_⟩
            rw [rF_s]
            exact congrArg (rF M _ q o f) (c5_e fun j hj => pm_mp (F := red k) (f := fun _ b => b) (h := fun a _ => a) (f' := fun _ b => b) (h' := fun a _ => a) (fun _ _ => rfl) (fun _ _ => rfl) (obX 1 xs x.2.1) _ _)
  · have e : (ast W tape x (k, xs, tk, b)) = (k, xs, tk, b) := by
      unfold ast
      rw [if_neg (fun q => hc2 q.2)]
    rw [e] at hX
    refine am_run hX 2 _ _ _ _ ?_
    conv => whnf
    exact ⟨trivial, rfl, _, _, _, _, Or.inr ⟨rfl, rfl⟩, rfl⟩
end DOP
