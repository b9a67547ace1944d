/-! code: the reference whole, and the pair -/
section CPQ
variable {M : mm_M} {T : Nat → Nat} {t : Nat}
set_option maxRecDepth 100000 in
theorem ct_codeR {d : Nat} (ht : t ≤ 400) (e2 : M.1 108 2 = nI t) (hT : ∀ j, j < t → M.1 109 j = nI (T j) ∧ T j < 127) (hT0 : ∀ j, j < t → 0 < T j) : am_M (d + 5) false nm_X12_code [aR 108] M (crQ M T t) := by
  refine ⟨rfl, rfl, rfl, fun X hX => am_run hX 11 _ _ _ _ ?_⟩
  conv => whnf
  generalize hK : mm_i (mm_i (mm_i M 108 (upd (M.1 108) 4 0)) 108 (upd ((mm_i M 108 (upd (M.1 108) 4 0)).1 108) 5 0)) 108 (upd ((mm_i (mm_i M 108 (upd (M.1 108) 4 0)) 108 (upd ((mm_i M 108 (upd (M.1 108) 4 0)).1 108) 5 0)).1 108) 3 0) = K
  have gK : crG M K := by
    rw [← hK]
    exact crG_t (crG_t (crG_f (by omega)) (crG_f (by omega))) (crG_f (by omega))
  have fK : ∀ k, k ≠ 108 → K.1 k = M.1 k := fun k hk => by rw [← hK, mm_ne _ _ _ _ hk, mm_ne _ _ _ _ hk, mm_ne _ _ _ _ hk]
  have k2 : K.1 108 2 = nI t := by rw [← hK]; exact e2
  have k3 : K.1 108 3 = 0 := by rw [← hK]; rfl
  have k4 : K.1 108 4 = 0 := by rw [← hK]; rfl
  have k5 : K.1 108 5 = 0 := by rw [← hK]; rfl
  have kx : ∀ y, y = 109 ∨ y = 110 ∨ y = 111 ∨ y = 124 → K.1 108 y = M.1 108 y := fun y hy => by
    rw [← hK, mm_i1, mm_i1, mm_i1]
    unfold upd
    rw [if_neg (by omega), if_neg (by omega), if_neg (by omega)]
  have kT : ∀ j, j < t → K.1 109 j = nI (T j) ∧ T j < 127 := fun j hj => by
    rw [fK 109 (by decide)]
    exact hT j hj
  -- a wrong TAPE
  have hbad : ∀ (a b : Nat) (N : mm_M), crG K N → (∀ k, k ≠ 108 → k ≠ 178 → k ≠ 179 → k ≠ 180 → N.1 k = K.1 k) → (∀ y, y = 109 ∨ y = 110 ∨ y = 111 ∨ y = 124 → N.1 108 y = K.1 108 y) → cdW T t = (a, b) → a ≠ 0 → N.1 108 4 = nI a → N.1 108 5 = nI b → X 33 [some (aR 108), none, none] [] N := by
    intro a b N hG hF hy hW ha h4 h5
    refine am_run hX 7 _ _ _ _ ?_
    conv => whnf
    refine ⟨fun c => absurd rfl c, fun _ => ?_⟩
    refine am_run hX 3 _ _ _ _ ?_
    conv => whnf
    refine am_c1 (ct_raise (d := d + 3) 1) ?_
    refine am_run hX 1 _ _ _ _ ?_
    conv => whnf
    refine ⟨trivial, crG_t gK (crG_t hG (crG_t (crG_f (by omega)) (crG_f (by omega)))), rfl, ?_, ?_, Or.inl ⟨?_, ⟨0, rfl⟩, rfl, fun k a1 a2 a3 a4 => ?_, fun y hy1 => ?_⟩⟩
    · rw [hW]
      exact h4
    · rw [hW]
      exact h5
    · rw [hW]
      exact ha
    · rw [mm_ne _ _ _ _ a1, mm_ne _ _ _ _ a1, hF k a1 a2 a3 a4, fK k a1]
    · rw [← kx y hy1, ← hy y hy1, mm_i1, mm_i1]
      unfold upd
      rw [if_neg (by omega), if_neg (by omega)]
  refine am_cq (ct_readCode (d := d) (M := K) (T := T) (t := t) ht k2 k3 kT hT0) fun r N hq => ?_
  obtain ⟨hF, hq⟩ := hq
  rcases hq with ⟨s, rfl, h4, h5, hE, h114, h115, h0, hS⟩ | ⟨p, rfl, h4, h5, hE⟩
  · obtain ⟨b1, b2, b3, b4⟩ := cpE_b ht hE
    have hWl := cdW_l hE
    obtain ⟨L, r, q, x, z, pl⟩ := s
    obtain ⟨s1, s2, -⟩ := hS
    simp only at b1 b2 b3 b4 hWl h114 h115 h0 s1 s2
    have p8 : 2 ^ q ≤ 2 ^ 8 := Nat.pow_le_pow_right (by decide) b2
    have hV : crV N x z (r + 1) := fun j hj => by
      have h1 := s2 j (by omega)
      have h2 := b4 j hj
      exact ⟨h1.1, h1.2.1, by omega, by omega⟩
    refine ⟨_, rfl, ?_⟩
    refine am_run hX 3 _ _ _ _ ?_
    conv => whnf
    refine ⟨fun c => absurd c (by decide), fun _ => ?_⟩
    conv => whnf
    refine am_cq (ct_arR (d := d + 1) (M := N) (x := x) (z := z) (n := r + 1) (pl := pl) (by omega) h115 (h4.trans k4) (h5.trans k5) hV (fun j hj => (s2 j (by omega)).2.2)) fun r9 N2 hq => ?_
    obtain ⟨rfl, hN2⟩ := hq
    refine ⟨_, rfl, ?_⟩
    have g2 : crG K N2 := by
      refine crG_t (crG_c hF) ?_
      rw [hN2]
      have := crG_t (M := N) (crG_f (y := 4) (v := nI (chF x z (r + 1)).1) (by omega)) (crG_f (y := 5) (v := if (chF x z (r + 1)).1 = 0 then 0 else nI (pl (chF x z (r + 1)).2)) (by omega))
      rw [ar_M] at this
      exact this
    have f2 : ∀ k, k ≠ 108 → N2.1 k = N.1 k := fun k hk => by rw [hN2]; exact mm_ne _ _ _ _ hk
    have y2 : ∀ y, y ≠ 4 → y ≠ 5 → N2.1 108 y = N.1 108 y := fun y a b => by
      rw [hN2, mm_i1]
      unfold upd
      rw [if_neg b, if_neg a]
    have m4 : N2.1 108 4 = nI (chF x z (r + 1)).1 := by rw [hN2]; rfl
    have m5 : N2.1 108 5 = if (chF x z (r + 1)).1 = 0 then 0 else nI (pl (chF x z (r + 1)).2) := by rw [hN2]; rfl
    by_cases hc : (chF x z (r + 1)).1 = 0
    · rw [if_pos hc] at hWl m5
      rw [hc] at m4
      rw [if_pos hc]
      refine am_run hX 1 _ _ _ _ ?_
      conv => whnf
      refine ⟨fun c => absurd c (by decide), fun _ => ?_⟩
      refine am_run hX 8 _ _ _ _ ?_
      conv => whnf
      refine ⟨fun _ => ?_, fun c => absurd (by decide) c⟩
      refine am_run hX 16 _ _ _ _ ?_
      conv => whnf
      refine ⟨⟨rfl, rfl⟩, ?_⟩
      conv => whnf
      generalize hN3 : mm_i _ 108 (upd _ 111 _) = N3
      have f3 : ∀ k, k ≠ 108 → N3.1 k = N2.1 k := fun k hk => by
        rw [← hN3, mm_ne _ _ _ _ hk, mm_ne _ _ _ _ hk, mm_ne _ _ _ _ hk, mm_ne _ _ _ _ hk, mm_ne _ _ _ _ hk]
      have g3 : crG N2 N3 := by
        rw [← hN3]
        exact crG_t (crG_t (crG_t (crG_t (crG_f (by omega)) (crG_f (by omega))) (crG_f (by omega))) (crG_f (by omega))) (crG_f (by omega))
      have c0 : N3.1 108 0 = 0 := by rw [← hN3]; rfl
      have c2 : N3.1 108 2 = 0 := by rw [← hN3]; rfl
      have c4 : N3.1 108 4 = 0 := by rw [← hN3]; exact m4
      have c5 : N3.1 108 5 = 0 := by rw [← hN3]; exact m5
      have c109 : N3.1 108 109 = 1 := by rw [← hN3]; rfl
      have c110 : N3.1 108 110 = nI q := by
        rw [← hN3]
        show N2.1 108 114 = _
        rw [y2 114 (by decide) (by decide)]
        exact h114
      have c111 : N3.1 108 111 = nI (r + 1) := by
        rw [← hN3]
        show N2.1 108 115 = _
        rw [y2 115 (by decide) (by decide)]
        exact h115
      refine cd_cp (d := d) (M := N3) (x := x) (z := z) (s := r + 1) hX (by omega) c111 (fun j hj => by rw [f3 178 (by decide), f3 179 (by decide), f2 178 (by decide), f2 179 (by decide)]; exact ⟨(hV j hj).1, (hV j hj).2.1⟩) (fun N4 f4 e4 h4' => ?_) (r + 1) 0 N3 (by omega) (fun _ _ _ => rfl) rfl (fun j hj => absurd hj (Nat.not_lt_zero _))
      have g4 : crG N3 N4 := ⟨fun k a b => f4 k (by omega) (by omega), e4, fun y _ _ _ _ _ _ _ _ _ _ _ => by rw [f4 108 (by decide) (by decide)]⟩
      have y4 : ∀ y, N4.1 108 y = N3.1 108 y := fun y => by rw [f4 108 (by decide) (by decide)]
      have hR : exR N4 q (r + 1) x z := ⟨(y4 110).trans c110, (y4 111).trans c111, b1, b2, by omega, fun j hj => ⟨(h4' j hj).1, (h4' j hj).2, (hV j hj).2.2.1, (hV j hj).2.2.2⟩⟩
      refine am_run hX 2 _ _ _ _ ?_
      conv => whnf
      refine am_cq (ct_exam (d := d) hR (fun j hj => (b4 j hj).1) (fun j hj => (b4 j hj).2.1) (chF_q hc)) fun r8 N5 hq => ?_
      obtain ⟨rfl, f5, i1, i2, i3, i4, i5, i6⟩ := hq
      refine ⟨none, rfl, ?_⟩
      refine am_run hX 6 _ _ _ _ ?_
      conv => whnf
      have y5 : ∀ y, y ≠ 124 → N5.1 108 y = N3.1 108 y := fun y hy => (f5.2.2 y hy).trans (y4 y)
      refine ⟨trivial, crG_t gK (crG_t g2 (crG_t g3 (crG_t g4 (crG_e f5)))), (y5 2 (by decide)).trans c2, ?_, ?_, Or.inr ⟨_, hE, hc, ?_, (y5 0 (by decide)).trans c0, ?_, ?_⟩⟩
      · rw [hWl, y5 4 (by decide), c4]
        rfl
      · rw [hWl, y5 5 (by decide), c5]
        rfl
      · show Sum.inl (some (aI (N5.1 108 110 - N5.1 108 111))) = Sum.inl (some (aI (nI q - nI (r + 1))))
        rw [y5 110 (by decide), y5 111 (by decide), c110, c111]
      · refine ⟨(y5 109 (by decide)).trans c109, (y5 110 (by decide)).trans c110, (y5 111 (by decide)).trans c111, fun w hw => ⟨i2 w hw, i3 w hw, i4 w hw⟩, fun u hu => i5 u ?_, ?_⟩
        · exact Nat.lt_of_lt_of_le hu (Nat.pow_le_pow_right (n := 2) (j := 8) (by decide) (show r + 1 ≤ 8 by omega))
        · show N5.1 108 124 = nI (dsL (pD q (r + 1) (cdSy x z q (r + 1)) (fun v => nI (cdRe x z q (r + 1) v))) q 1)
          rw [i6, cod_d b1 b2 b3 (fun j hj => ⟨(b4 j hj).1, (b4 j hj).2.1⟩) hc]
      · refine ⟨x, z, fun j hj => ⟨?_, ?_, (hV j hj).2.2.1, (hV j hj).2.2.2⟩, fun v hv => ⟨?_, ?_⟩⟩
        · rw [f5.1 176 (by decide) (by omega)]
          exact (h4' j hj).1
        · rw [f5.1 177 (by decide) (by omega)]
          exact (h4' j hj).2
        · exact (syR_f b2 _ (fun j hj => ⟨(hV j hj).2.2.1, (hV j hj).2.2.2⟩)).symm
        · rw [i1 v hv]
          unfold srt
          split
          · rfl
          · split <;> rfl
    · rw [if_neg hc] at hWl m5
      rw [if_neg hc]
      refine am_run hX 1 _ _ _ _ ?_
      conv => whnf
      refine ⟨fun _ => ?_, fun c => absurd rfl c⟩
      refine hbad _ _ N2 g2 (fun k a1 a2 a3 a4 => (f2 k a1).trans (hF.1 k a1 a2 a3 a4)) (fun y hy => (y2 y (by omega) (by omega)).trans (hF.2.2 y (by omega) (by omega) (by omega) (by omega) (by omega))) hWl hc m4 m5
  · refine ⟨_, rfl, ?_⟩
    refine am_run hX 1 _ _ _ _ ?_
    conv => whnf
    refine ⟨fun _ => ?_, fun c => absurd rfl c⟩
    exact hbad 1 p N (crG_c hF) (fun k a1 a2 a3 a4 => hF.1 k a1 a2 a3 a4) (fun y hy => hF.2.2 y (by omega) (by omega) (by omega) (by omega) (by omega)) (cdW_r hE) (by decide) h4 h5
end CPQ
section CPR
variable {ac : Nat → ClassId} {lo : Nat} {ad as : Nat → Nat} {b L : Nat} {xs : Nat → Int32} {hp : mm_M → Nat → xm_H} {I J : mm_M → Prop}
/-- what both codes may change -/
def cdF (M N : mm_M) : Prop := (∀ k, k ≠ 0 → k ≠ 108 → (k < 46 ∨ 52 < k) → (k < 176 ∨ 185 < k) → N.1 k = M.1 k) ∧ (∀ k, k ≠ 202 → N.2 k = M.2 k) ∧ (∀ y, y ≠ 14 → y ≠ 15 → y ≠ 16 → N.1 0 y = M.1 0 y) ∧ ∀ y, y ≠ 0 → y ≠ 2 → y ≠ 3 → y ≠ 4 → y ≠ 5 → y ≠ 109 → y ≠ 110 → y ≠ 111 → y ≠ 114 → y ≠ 115 → y ≠ 124 → N.1 108 y = M.1 108 y
theorem cdI_c {M N : mm_M} (h : cdI M) (e1 : ∀ y, y = 10 ∨ y = 11 ∨ y = 17 → N.1 46 y = M.1 46 y) (e2 : ∀ k, 51 ≤ k → k ≤ 56 → N.1 k = M.1 k) (e3 : ∀ y, y = 109 ∨ y = 110 ∨ y = 111 ∨ y = 124 → N.1 108 y = M.1 108 y) (e4 : ∀ k, k = 176 ∨ k = 177 ∨ k = 181 ∨ k = 182 ∨ k = 183 ∨ k = 184 ∨ k = 185 → N.1 k = M.1 k) : cdI N := by
  rcases h with ⟨a, b⟩ | ⟨n, s, sy, re, ⟨⟨t1, t2, t3, t4, t5, t6⟩, tA, ⟨r1, r2, r3, r4, r5, r6⟩⟩, gx, gz, p1, p2⟩
  · exact Or.inl ⟨(e1 10 (by omega)).trans a, (e3 109 (by omega)).trans b⟩
  · refine Or.inr ⟨n, s, sy, re, ⟨⟨(e1 10 (by omega)).trans t1, (e1 11 (by omega)).trans t2, t3, t4, t5, ?_⟩, ?_, ⟨(e3 109 (by omega)).trans r1, (e3 110 (by omega)).trans r2, (e3 111 (by omega)).trans r3, ?_, ?_, (e3 124 (by omega)).trans r6⟩⟩, gx, gz, ?_, ?_⟩
    · rw [e2 51 (by omega) (by omega), e2 52 (by omega) (by omega)]
      exact t6
    · rw [e1 17 (by omega)]
      unfold cdA
      rw [e2 53 (by omega) (by omega), e2 54 (by omega) (by omega), e2 55 (by omega) (by omega), e2 56 (by omega) (by omega)]
      exact tA
    · rw [e4 182 (by omega), e4 183 (by omega), e4 184 (by omega)]
      exact r4
    · rw [e4 185 (by omega)]
      exact r5
    · rw [e4 176 (by omega), e4 177 (by omega)]
      exact p1
    · rw [e4 181 (by omega)]
      exact p2
theorem pr_code (H : mm_L ac lo hp) (h1 : ∀ M, I M → ∃ t, ty_iv M t) (h2 : ∀ M, I M → cdI M) (hJ : ∀ M N, I M → cdF M N → ty_iv N 0 → N.1 0 15 = N.1 108 4 → N.1 0 16 = N.1 108 5 → cdI N → J N) : la_TI ac lo ad as b L xs hp I J nm_L_code nm_X12_code [] := by
  refine lt_code H fun M hI => ?_
  obtain ⟨t, ht, e14, e2, hty⟩ := h1 M hI
  have hex : ∀ j, ∃ q : Nat, j < t → (32 ≤ q ∧ q ≤ 126 ∧ M.1 1 j = nI q ∧ M.1 109 j = nI q) := by
    intro j
    by_cases c : j < t
    · obtain ⟨a, q, q1, q2, q3⟩ := hty j c
      exact ⟨q, fun _ => ⟨q1, q2, q3, by rw [← a, q3]⟩⟩
    · exact ⟨0, fun h => absurd h c⟩
  have hT := fun j => Classical.choose_spec (hex j)
  generalize hTT : (fun j => Classical.choose (hex j)) = T
  have hT : ∀ j, j < t → 32 ≤ T j ∧ T j ≤ 126 ∧ M.1 1 j = nI (T j) ∧ M.1 109 j = nI (T j) := by
    intro j hj
    rw [← hTT]
    exact hT j hj
  refine am_wk (ct_codeC (M := M) (T := T) ht e14 (fun j hj => ⟨(hT j hj).2.2.1, by have := hT j hj; omega⟩)) fun r M1 hq => ?_
  obtain ⟨hF, h14, h15, h16, hq⟩ := hq
  rcases hq with ⟨hw, rfl, hF2, hF3⟩ | ⟨s, hE, hc, rfl, h17, hcd⟩
  · refine Or.inr ⟨rfl, ?_⟩
    have e2' : M1.1 108 2 = nI t := by rw [hF.1 108 (by decide) (by omega)]; exact e2
    have hT' : ∀ j, j < t → M1.1 109 j = nI (T j) ∧ T j < 127 := fun j hj => by
      rw [hF.1 109 (by decide) (by omega)]
      exact ⟨(hT j hj).2.2.2, by have := hT j hj; omega⟩
    refine am_wk (ct_codeR (d := 995) (M := M1) (T := T) ht e2' hT' (fun j hj => by have := hT j hj; omega)) fun r2 M2 hq => ?_
    obtain ⟨gF, g2, g4, g5, hq⟩ := hq
    rcases hq with ⟨_, hr, g0, gk, gy⟩ | ⟨s, hE, hc, _⟩
    · refine ⟨hr, g0, hJ M M2 hI ⟨fun k a b c d => ?_, fun k hk => ?_, fun y a b c => ?_, fun y a1 a2 a3 a4 a5 a6 a7 a8 a9 b1 b2 => ?_⟩ ⟨by omega, ?_, g2, fun j hj => absurd hj (Nat.not_lt_zero _)⟩ ?_ ?_ (cdI_c (h2 M hI) (fun y hy => ?_) (fun k a b => ?_) (fun y hy => ?_) (fun k hk => ?_))⟩
      · rw [gF.1 k b d, hF.1 k a c]
      · rw [gF.2.1, hF.2.1]
      · rw [gF.1 0 (by decide) (by omega)]
        exact hF.2.2 y a b c
      · rw [gF.2.2 y a1 a2 a3 a4 a5 a6 a7 a8 a9 b1 b2, hF.1 108 (by decide) (by omega)]
      · rw [gF.1 0 (by decide) (by omega)]
        exact h14
      · rw [gF.1 0 (by decide) (by omega), h15, g4]
      · rw [gF.1 0 (by decide) (by omega), h16, g5]
      · rw [gF.1 46 (by decide) (by omega)]
        exact hF3 y (by omega)
      · rw [gF.1 k (by omega) (by omega)]
        exact hF2 k (by omega) (by omega) (by omega) (by omega)
      · rw [gy y hy, hF.1 108 (by decide) (by omega)]
      · rw [gk k (by omega) (by omega) (by omega) (by omega)]
        exact hF.1 k (by omega) (by omega)
    · refine absurd ?_ hw
      rw [cdW_l hE, if_pos hc]
  · refine Or.inl ⟨_, rfl, ?_⟩
    have hw0 : (cdW T t).1 = 0 := by rw [cdW_l hE, if_pos hc]
    generalize hK : lt_o M1 (nI s.2.2.1 - nI (s.2.1 + 1)).toInt64 = K
    have k1 : K.1 = M1.1 := by rw [← hK]; rfl
    have k2 : ∀ k, k ≠ 202 → K.2 k = M1.2 k := fun k hk => by rw [← hK]; exact if_neg hk
    have k3 : K.2 202 0 = (nI s.2.2.1 - nI (s.2.1 + 1)).toInt64 := by rw [← hK]; simp [lt_o, mm_l, vp_updL]
    have e2' : K.1 108 2 = nI t := by rw [k1, hF.1 108 (by decide) (by omega)]; exact e2
    have hT' : ∀ j, j < t → K.1 109 j = nI (T j) ∧ T j < 127 := fun j hj => by
      rw [k1, hF.1 109 (by decide) (by omega)]
      exact ⟨(hT j hj).2.2.2, by have := hT j hj; omega⟩
    refine am_wk (ct_codeR (d := 995) (M := K) (T := T) ht e2' hT' (fun j hj => by have := hT j hj; omega)) fun r2 M2 hq => ?_
    obtain ⟨gF, g2, g4, g5, hq⟩ := hq
    rcases hq with ⟨hw, _⟩ | ⟨s', hE', hc', rfl, g0, gR, gP⟩
    · exact absurd hw0 hw
    · have es : s' = s := by
        rw [hE] at hE'
        cases hE'
        rfl
      subst es
      have f46 : ∀ k, 46 ≤ k → k ≤ 56 → M2.1 k = M1.1 k := fun k a b => by rw [gF.1 k (by omega) (by omega), k1]
      refine ⟨rfl, g0, ?_, hJ M M2 hI ⟨fun k a b c d => ?_, fun k hk => ?_, fun y a b c => ?_, fun y a1 a2 a3 a4 a5 a6 a7 a8 a9 b1 b2 => ?_⟩ ⟨by omega, ?_, g2, fun j hj => absurd hj (Nat.not_lt_zero _)⟩ ?_ ?_ (Or.inr ⟨_, _, _, _, ⟨?_, Or.inl ?_, gR⟩, gP⟩)⟩
      · rw [gF.2.1]
        exact k3
      · rw [gF.1 k b d, k1, hF.1 k a c]
      · rw [gF.2.1, k2 k hk, hF.2.1]
      · rw [gF.1 0 (by decide) (by omega), k1]
        exact hF.2.2 y a b c
      · rw [gF.2.2 y a1 a2 a3 a4 a5 a6 a7 a8 a9 b1 b2, k1, hF.1 108 (by decide) (by omega)]
      · rw [gF.1 0 (by decide) (by omega), k1]
        exact h14
      · rw [gF.1 0 (by decide) (by omega), k1, h15, g4]
      · rw [gF.1 0 (by decide) (by omega), k1, h16, g5]
      · obtain ⟨t1, t2, t3, t4, t5, t6⟩ := hcd
        refine ⟨by rw [f46 46 (by omega) (by omega)]; exact t1, by rw [f46 46 (by omega) (by omega)]; exact t2, t3, t4, t5, ?_⟩
        rw [f46 51 (by omega) (by omega), f46 52 (by omega) (by omega)]
        exact t6
      · rw [f46 46 (by omega) (by omega)]
        exact h17
end CPR
