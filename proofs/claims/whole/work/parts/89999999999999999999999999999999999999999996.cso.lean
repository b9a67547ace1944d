/-! THE PAIR circuit, whole -/
theorem bkX_cc {M N : mm_M} {n : Nat} {F : Nat → Nat × List bk_X} (e9 : N.1 9 7 = M.1 9 7) (e1 : ∀ k, 10 ≤ k → k ≤ 12 → N.1 k = M.1 k) (e2 : ∀ k, k = 110 ∨ k = 111 → N.1 k = M.1 k) (e3 : ∀ k a, 112 ≤ k → k ≤ 117 → a < 300 * n → N.1 k a = M.1 k a) (e6 : N.1 108 6 = M.1 108 6) (hB : bkX M n F) : bkX N n F := by
  obtain ⟨b1, b2, b3, b4⟩ := hB
  refine ⟨b1, e9.trans b2, e6.trans b3, fun c hc => ?_⟩
  obtain ⟨a1, a2, a3, a4, ⟨l1, l2, l3, l4⟩, a6⟩ := b4 c hc
  refine ⟨a1, a2, by rw [e1 12 (by decide) (by decide)]; exact a3, by rw [e2 110 (by omega)]; exact a4, ⟨by rw [e1 11 (by decide) (by decide)]; exact l1, by rw [e2 111 (by omega)]; exact l2, l3, fun j hj => ⟨(l4 j hj).1, ?_⟩⟩, a6⟩
  have h := (l4 j hj).2
  unfold bk_o at h ⊢
  rw [e1 10 (by decide) (by decide), e3 112 _ (by decide) (by decide) (by omega), e3 113 _ (by decide) (by decide) (by omega), e3 114 _ (by decide) (by decide) (by omega), e3 115 _ (by decide) (by decide) (by omega), e3 116 _ (by decide) (by decide) (by omega), e3 117 _ (by decide) (by decide) (by omega)]
  exact h
/-- what circuit may change -/
def ciF (M N : mm_M) : Prop := (∀ k, 14 ≤ k → k ≠ 108 → ¬ (110 ≤ k ∧ k ≤ 117) → ¬ (120 ≤ k ∧ k ≤ 131) → N.1 k = M.1 k) ∧ N.1 1 = M.1 1 ∧ (∀ k, k ≠ 202 → N.2 k = M.2 k) ∧ (∀ y, y ≠ 14 → y ≠ 15 → y ≠ 16 → N.1 0 y = M.1 0 y) ∧ ∀ y, ciY.contains y = false → y ≠ 6 → N.1 108 y = M.1 108 y
theorem og_256 {W : Nat} {x : bk_X} (W8 : W ≤ 8) (h : ogd W x) : x.2.2.2.1 < 256 := Nat.lt_of_lt_of_le h.1.2.2.2.1 (Nat.pow_le_pow_right (n := 2) (j := 8) (by decide) W8)
section CSO
variable {ac : Nat → ClassId} {lo : Nat} {ad as : Nat → Nat} {b L : Nat} {xs : Nat → Int32} {hp : mm_M → Nat → xm_H} {I J : mm_M → Prop}
def ci_iv (M : mm_M) : Prop := (∃ t, ty_iv M t) ∧ (∃ n F, bkX M n F) ∧ M.1 0 15 = M.1 108 4 ∧ M.1 0 16 = M.1 108 5
theorem pr_circuit (H : mm_L ac lo hp) (h1 : ∀ M, I M → ci_iv M) (hJ : ∀ M N, I M → ciF M N → ci_iv N → ty_iv N 0 → J N) : la_TI ac lo ad as b L xs hp I J nm_L_circuit nm_X12_circuit [] := by
  refine lt_circuit H fun M hI => ?_
  obtain ⟨⟨t, ht, e14, e2, hty⟩, ⟨n, F, hB⟩, e15, e16⟩ := h1 M hI
  have hex : ∀ j, ∃ q : Nat, j < t → (32 ≤ q ∧ q ≤ 126 ∧ M.1 1 j = nI q ∧ M.1 109 j = nI q) := by
    intro j
    by_cases c : j < t
    · obtain ⟨a, q, q1, q2, q3⟩ := hty j c
      exact ⟨q, fun _ => ⟨q1, q2, q3, by rw [← a, q3]⟩⟩
    · exact ⟨0, fun h => absurd h c⟩
  have hT := fun j => Classical.choose_spec (hex j)
  generalize hTT : (fun j => Classical.choose (hex j)) = T
  have hT : ∀ j, j < t → 32 ≤ T j ∧ T j ≤ 126 ∧ M.1 1 j = nI (T j) ∧ M.1 109 j = nI (T j) := by
    intro j hj
    rw [← hTT]
    exact hT j hj
  have hT7 : ∀ j, j < t → 32 ≤ T j ∧ T j < 127 := fun j hj => ⟨(hT j hj).1, by have := (hT j hj).2.1; omega⟩
  have n21 := hB.1
  refine am_wk (ct_ciC (M := M) (T := T) (n := n) ht e14 (fun j hj => ⟨(hT j hj).2.2.1, hT7 j hj⟩) hB.2.1 hB.1) fun r M1 hq => ?_
  rcases hq with ⟨n20, rfl, rfl⟩ | ⟨n20, K, gK, ⟨F', ⟨F8, Fl, hF⟩, rfl, rfl⟩ | ⟨W, c, s, hG, W8, f0, ok, og, rfl, rfl⟩⟩
  · refine Or.inr (Or.inl ⟨rfl, ?_⟩)
    generalize hM1 : mm_i M 0 (upd (M.1 0) 14 0) = M1
    have k1 : ∀ k, k ≠ 0 → M1.1 k = M.1 k := fun k hk => by rw [← hM1, mm_ne _ _ _ _ hk]
    have k0 : M1.1 0 = upd (M.1 0) 14 0 := by rw [← hM1, mm_i1]
    have k2 : M1.2 = M.2 := by rw [← hM1]; rfl
    refine am_wk (ct_ciR (M := M1) (T := T) (t := t) (n := n) ⟨ht, by rw [k1 108 (by decide)]; exact e2, fun j hj => ⟨by rw [k1 109 (by decide)]; exact (hT j hj).2.2.2, hT7 j hj⟩⟩ (by rw [k1 108 (by decide)]; exact hB.2.2.1) hB.1 (fun z => absurd n20 (by omega))) fun r2 M2 hq2 => ?_
    rcases hq2 with ⟨_, rfl, rfl⟩ | ⟨z, _⟩ | ⟨z, _⟩
    · generalize hM2 : mm_i M1 108 (upd (upd (M1.1 108) 2 0) 0 1) = M2
      have m1 : ∀ k, k ≠ 108 → M2.1 k = M1.1 k := fun k hk => by rw [← hM2, mm_ne _ _ _ _ hk]
      have m8 : M2.1 108 = upd (upd (M1.1 108) 2 0) 0 1 := by rw [← hM2, mm_i1]
      have m2 : M2.2 = M1.2 := by rw [← hM2]; rfl
      have f8 : ∀ y, y ≠ 0 → y ≠ 2 → M2.1 108 y = M.1 108 y := fun y a b => by rw [m8, up_ne a, up_ne b, k1 108 (by decide)]
      have f0' : ∀ y, y ≠ 14 → M2.1 0 y = M.1 0 y := fun y a => by rw [m1 0 (by decide), k0, up_ne a]
      have tv : ty_iv M2 0 := ⟨by omega, by rw [m1 0 (by decide), k0]; exact up_at, by rw [m8, up_ne (by decide)]; exact up_at, fun j hj => absurd hj (Nat.not_lt_zero _)⟩
      refine ⟨⟨_, rfl⟩, by rw [m8]; exact up_at, hJ M M2 hI ⟨fun k a b' _ _ => ?_, ?_, fun k _ => ?_, fun y a _ _ => f0' y a, fun y a _ => ?_⟩ ⟨⟨0, tv⟩, ⟨n, F, bkX_cc ?_ (fun k a b' => ?_) (fun k a => ?_) (fun k a x1 x2 _ => ?_) ?_ hB⟩, ?_, ?_⟩ tv⟩
      · rw [m1 k b', k1 k (by omega)]
      · rw [m1 1 (by decide), k1 1 (by decide)]
      · rw [m2, k2]
      · exact f8 y (fun e => by rw [e] at a; exact absurd a (by decide)) (fun e => by rw [e] at a; exact absurd a (by decide))
      · rw [m1 9 (by decide), k1 9 (by decide)]
      · rw [m1 k (by omega), k1 k (by omega)]
      · rw [m1 k (by omega), k1 k (by omega)]
      · rw [m1 k (by omega), k1 k (by omega)]
      · exact f8 6 (by decide) (by decide)
      · rw [f0' 15 (by decide), f8 4 (by decide) (by decide)]; exact e15
      · rw [f0' 16 (by decide), f8 5 (by decide) (by decide)]; exact e16
    · omega
    · omega
  · refine Or.inr (Or.inr ⟨rfl, ?_⟩)
    generalize hM1 : mm_i K 0 _ = M1
    have k1 : ∀ k, k ≠ 0 → M1.1 k = K.1 k := fun k hk => by rw [← hM1, mm_ne _ _ _ _ hk]
    have k0 : M1.1 0 = upd (upd (upd (M.1 0) 14 0) 15 (nI (F' % 8))) 16 (nI (F' / 8)) := by rw [← hM1, mm_i1]
    have k2 : M1.2 = M.2 := by rw [← hM1]; exact gK.2
    have kk : ∀ k, 9 ≤ k → M1.1 k = M.1 k := fun k hk => by rw [k1 k (by omega), gK.1 k (by omega)]
    refine am_wk (ct_ciR (M := M1) (T := T) (t := t) (n := n) ⟨ht, by rw [kk 108 (by decide)]; exact e2, fun j hj => ⟨by rw [kk 109 (by decide)]; exact (hT j hj).2.2.2, hT7 j hj⟩⟩ (by rw [kk 108 (by decide)]; exact hB.2.2.1) hB.1 (fun _ W' c' s' hG' f0' => ?_)) fun r2 M2 hq2 => ?_
    · rcases hF with ⟨p, hp, _⟩ | ⟨W, c, s, hG, W8, hf⟩
      · exact absurd hp (fun g => tx_RG hT7 hG' g)
      · obtain ⟨rfl, rfl, rfl⟩ := tx_GG hT7 hG hG'
        rcases hf with ⟨z, _⟩ | ⟨_, _, _, og⟩
        · exact absurd f0' z
        · exact ⟨W8, fun x hx => og_256 W8 (og x hx)⟩
    · rcases hq2 with ⟨z, _⟩ | ⟨_, rfl, g, z0, z2, hq⟩ | ⟨_, W', c', s', N2, hG', f0', ok', _⟩
      · omega
      · have e4 : M2.1 108 4 = nI (F' % 8) ∧ M2.1 108 5 = nI (F' / 8) := by
          rcases hF with ⟨p, hp, rfl⟩ | ⟨W, c, s, hG, W8, hf⟩
          · rcases hq with ⟨p', hp', z4, z5⟩ | ⟨W', c', s', hG', _⟩
            · rw [tx_RR hp hp', z4, z5]
              exact ⟨by rw [show (8 * p' + 1) % 8 = 1 by omega]; rfl, by rw [show (8 * p' + 1) / 8 = p' by omega]⟩
            · exact absurd hp (fun g => tx_RG hT7 hG' g)
          · rcases hq with ⟨p', hp', _⟩ | ⟨W', c', s', hG', hq⟩
            · exact absurd hp' (fun g => tx_RG hT7 hG g)
            · obtain ⟨rfl, rfl, rfl⟩ := tx_GG hT7 hG hG'
              rcases hf with ⟨z, rfl⟩ | ⟨z, nk, rfl, _⟩ <;> rcases hq with ⟨y, z4, z5⟩ | ⟨y, mk, z4, z5⟩
              · exact ⟨z4, z5⟩
              · exact absurd y z
              · exact absurd z y
              · rw [z4, z5]
                exact ⟨rfl, rfl⟩
        have f0' : ∀ y, y ≠ 14 → y ≠ 15 → y ≠ 16 → M2.1 0 y = M.1 0 y := fun y a b' c => by rw [g.1 0 (by decide) (by decide) (by decide), k0, up_ne c, up_ne b', up_ne a]
        have m0 : M2.1 0 = M1.1 0 := g.1 0 (by decide) (by decide) (by decide)
        have tv : ty_iv M2 0 := ⟨by omega, by rw [m0, k0, up_ne (by decide), up_ne (by decide)]; exact up_at, z2, fun j hj => absurd hj (Nat.not_lt_zero _)⟩
        refine ⟨⟨_, rfl⟩, z0, hJ M M2 hI ⟨fun k a b' c e => ?_, ?_, fun k _ => ?_, f0', fun y a _ => ?_⟩ ⟨⟨0, tv⟩, ⟨n, F, bkX_cc ?_ (fun k a b' => ?_) (fun k a => ?_) (fun k a x1 x2 x3 => ?_) ?_ hB⟩, ?_, ?_⟩ tv⟩
        · rw [g.1 k b' (by omega) e, kk k (by omega)]
        · rw [g.1 1 (by decide) (by decide) (by decide), k1 1 (by decide), gK.1 1 (by decide)]
        · rw [g.2.1, k2]
        · rw [g.2.2.1 y a, kk 108 (by decide)]
        · rw [g.1 9 (by decide) (by decide) (by decide), kk 9 (by decide)]
        · rw [g.1 k (by omega) (by omega) (by omega), kk k (by omega)]
        · rw [g.1 k (by omega) (by omega) (by omega), kk k (by omega)]
        · rw [g.2.2.2 k a x1 x2 x3, kk k (by omega)]
        · rw [g.2.2.1 6 rfl, kk 108 (by decide)]
        · rw [m0, k0, up_ne (by decide), e4.1]
          exact up_at
        · rw [m0, k0, e4.2]
          exact up_at
      · rcases hF with ⟨p, hp, _⟩ | ⟨W, c, s, hG, W8, hf⟩
        · exact absurd hp (fun g => tx_RG hT7 hG' g)
        · obtain ⟨rfl, rfl, rfl⟩ := tx_GG hT7 hG hG'
          rcases hf with ⟨z, _⟩ | ⟨_, nk, _⟩
          · exact absurd f0' z
          · exact absurd ok' nk
  · refine Or.inl ⟨nI n, rfl, ?_⟩
    have W1 : 1 ≤ W := by
      have := hG.1
      have := hG.2.2.1
      omega
    generalize hN0 : mm_i K 0 (upd (upd (upd (M.1 0) 14 0) 15 0) 16 0) = N0
    have k1 : ∀ k, k ≠ 0 → N0.1 k = K.1 k := fun k hk => by rw [← hN0, mm_ne _ _ _ _ hk]
    have k0 : N0.1 0 = upd (upd (upd (M.1 0) 14 0) 15 0) 16 0 := by rw [← hN0, mm_i1]
    have k2 : N0.2 = M.2 := by rw [← hN0]; exact gK.2
    have kk : ∀ k, 9 ≤ k → N0.1 k = M.1 k := fun k hk => by rw [k1 k (by omega), gK.1 k (by omega)]
    have hB1 : bkX (dlM N0 (gO s)) n F := bkX_cc (by rw [dl_9, up_ne (by decide), kk 9 (by decide)]) (fun k a b' => by rw [dl_r _ _ (by omega) (by omega), kk k (by omega)]) (fun k a => by rw [dl_r _ _ (by omega) (by omega), kk k (by omega)]) (fun k a x1 x2 _ => by rw [dl_r _ _ (by omega) (by omega), kk k (by omega)]) (by rw [dl_r _ _ (by decide) (by decide), kk 108 (by decide)]) hB
    have dr := drw_l N0 (gO s)
    have d1 : ∀ k, k ≠ 13 → k ≠ 9 → (dlM N0 (gO s)).1 k = N0.1 k := fun k a b' => dl_r _ _ a b'
    have d2 : (dlM N0 (gO s)).2 = N0.2 := rfl
    generalize dlM N0 (gO s) = N1 at *
    generalize hK : lt_o (kpM N1 n (gO s).length W) (nI n).toInt64 = K1
    have q1 : K1.1 = (kpM N1 n (gO s).length W).1 := by rw [← hK]; rfl
    have q2 : ∀ k, k ≠ 202 → K1.2 k = N1.2 k := fun k hk => by rw [← hK]; exact if_neg hk
    have q3 : K1.2 202 0 = (nI n).toInt64 := by rw [← hK]; simp [lt_o, mm_l, vp_updL]
    have kr : ∀ k, ¬ (9 ≤ k ∧ k ≤ 12) → K1.1 k = N1.1 k := fun k hk => by rw [q1, kp_r _ _ _ _ hk]
    have kN : ∀ k, 14 ≤ k → K1.1 k = M.1 k := fun k hk => by rw [kr k (by omega), d1 k (by omega) (by omega), kk k (by omega)]
    refine am_wk (ct_ciR (M := K1) (T := T) (t := t) (n := n) ⟨ht, by rw [kN 108 (by decide)]; exact e2, fun j hj => ⟨by rw [kN 109 (by decide)]; exact (hT j hj).2.2.2, hT7 j hj⟩⟩ (by rw [kN 108 (by decide)]; exact hB.2.2.1) hB.1 (fun _ W' c' s' hG' _ => ?_)) fun r2 M2 hq2 => ?_
    · obtain ⟨rfl, rfl, rfl⟩ := tx_GG hT7 hG hG'
      exact ⟨W8, fun x hx => og_256 W8 (og x hx)⟩
    · rcases hq2 with ⟨z, _⟩ | ⟨_, rfl, g, z0, z2, hq⟩ | ⟨_, W', c', s', N2, hG', _, _, rfl, g, l2, z0, z2, z4, z5, rfl⟩
      · omega
      · rcases hq with ⟨p', hp', _⟩ | ⟨W', c', s', hG', hq⟩
        · exact absurd hp' (fun g => tx_RG hT7 hG g)
        · obtain ⟨rfl, rfl, rfl⟩ := tx_GG hT7 hG hG'
          rcases hq with ⟨y, _⟩ | ⟨_, mk, _⟩
          · exact absurd f0 y
          · exact absurd ok mk
      · obtain ⟨rfl, rfl, rfl⟩ := tx_GG hT7 hG hG'
        have eS : ∀ k, k ≠ 108 → k ≠ 110 → k ≠ 111 → (stM N2 n W).1 k = N2.1 k := fun k a b' c => by
          unfold stM
          rw [mm_ne _ _ _ _ a, mm_ne _ _ _ _ c, mm_ne _ _ _ _ b']
        have s8 : ∀ y, y ≠ 6 → (stM N2 n W).1 108 y = N2.1 108 y := fun y hy => by
          unfold stM
          rw [mm_i1, up_ne hy]
        have s2 : (stM N2 n W).2 = N2.2 := rfl
        have m0 : (stM N2 n W).1 0 = N0.1 0 := by rw [eS 0 (by decide) (by decide) (by decide), g.1 0 (by decide) (by decide) (by decide), kr 0 (by decide), d1 0 (by decide) (by decide)]
        have tv : ty_iv (stM N2 n W) 0 := ⟨by omega, by rw [m0, k0, up_ne (by decide), up_ne (by decide)]; exact up_at, by rw [s8 2 (by decide)]; exact z2, fun j hj => absurd hj (Nat.not_lt_zero _)⟩
        refine ⟨rfl, by rw [s8 0 (by decide)]; exact z0, by rw [s2, g.2.1]; exact q3, hJ M _ hI ⟨fun k a b' c e => ?_, ?_, fun k hk => ?_, fun y a b' c => ?_, fun y a b' => ?_⟩ ⟨⟨0, tv⟩, ⟨n + 1, _, bkX_ng hB1 n20 ok dr (fun k a b' => ?_) (fun k a => ?_) (fun k a x1 x2 x3 => ?_) l2 W1 W8 og⟩, ?_, ?_⟩ tv⟩
        · rw [eS k b' (by omega) (by omega), g.1 k b' (by omega) e, kN k a]
        · rw [eS 1 (by decide) (by decide) (by decide), g.1 1 (by decide) (by decide) (by decide), kr 1 (by decide), d1 1 (by decide) (by decide), k1 1 (by decide), gK.1 1 (by decide)]
        · rw [s2, g.2.1, q2 k hk, d2, k2]
        · rw [m0, k0, up_ne c, up_ne b', up_ne a]
        · rw [s8 y b', g.2.2.1 y a, kN 108 (by decide)]
        · rw [g.1 k (by omega) (by omega) (by omega), q1]
        · rw [g.1 k (by omega) (by omega) (by omega), kr k (by omega)]
        · rw [g.2.2.2 k a x1 x2 x3, kr k (by omega)]
        · rw [m0, k0, up_ne (by decide), s8 4 (by decide), z4]
          exact up_at
        · rw [m0, k0, s8 5 (by decide), z5]
          exact up_at
end CSO
