/-! the pairs that let the bank grow -/
section CSOX
variable {ac : Nat → ClassId} {lo : Nat} {ad as : Nat → Nat} {b L : Nat} {xs : Nat → Int32} {hp : mm_M → Nat → xm_H} {I J : mm_M → Prop}
theorem pr_circuitX (H : mm_L ac lo hp) (h1 : ∀ M, I M → ci_iv M) (hJ : ∀ M N, I M → ciF M N → ci_iv N → ty_iv N 0 → bgG M N → J N) : la_TI ac lo ad as b L xs hp I J nm_L_circuit nm_X12_circuit [] := by
  have hJ' : ∀ M N n F n' F', I M → ciF M N → bkX M n F → bkX N n' F' → n ≤ n' → (∀ c, c < n → F' c = F c) → N.1 0 15 = N.1 108 4 → N.1 0 16 = N.1 108 5 → ty_iv N 0 → J N := fun M N n F n' F' hI hF h1 h2 h3 h4 h5 h6 h7 => hJ M N hI hF ⟨⟨0, h7⟩, ⟨n', F', h2⟩, h5, h6⟩ h7 ⟨n, F, n', F', h1, h2, h3, h4⟩
  refine lt_circuit H fun M hI => ?_
  obtain ⟨⟨t, ht, e14, e2, hty⟩, ⟨n, F, hB⟩, e15, e16⟩ := h1 M hI
  have hex : ∀ j, ∃ q : Nat, j < t → (32 ≤ q ∧ q ≤ 126 ∧ M.1 1 j = nI q ∧ M.1 109 j = nI q) := by
    intro j
    by_cases c : j < t
    · obtain ⟨a, q, q1, q2, q3⟩ := hty j c
      exact ⟨q, fun _ => ⟨q1, q2, q3, by rw [← a, q3]⟩⟩
    · exact ⟨0, fun h => absurd h c⟩
  have hT := fun j => Classical.choose_spec (hex j)
  generalize hTT : (fun j => Classical.choose (hex j)) = T
  have hT : ∀ j, j < t → 32 ≤ T j ∧ T j ≤ 126 ∧ M.1 1 j = nI (T j) ∧ M.1 109 j = nI (T j) := by
    intro j hj
    rw [← hTT]
    exact hT j hj
  have hT7 : ∀ j, j < t → 32 ≤ T j ∧ T j < 127 := fun j hj => ⟨(hT j hj).1, by have := (hT j hj).2.1; omega⟩
  have n21 := hB.1
  refine am_wk (ct_ciC (M := M) (T := T) (n := n) ht e14 (fun j hj => ⟨(hT j hj).2.2.1, hT7 j hj⟩) hB.2.1 hB.1) fun r M1 hq => ?_
  rcases hq with ⟨n20, rfl, rfl⟩ | ⟨n20, K, gK, ⟨F', ⟨F8, Fl, hF⟩, rfl, rfl⟩ | ⟨W, c, s, hG, W8, f0, ok, og, rfl, rfl⟩⟩
  · refine Or.inr (Or.inl ⟨rfl, ?_⟩)
    generalize hM1 : mm_i M 0 (upd (M.1 0) 14 0) = M1
    have k1 : ∀ k, k ≠ 0 → M1.1 k = M.1 k := fun k hk => by rw [← hM1, mm_ne _ _ _ _ hk]
    have k0 : M1.1 0 = upd (M.1 0) 14 0 := by rw [← hM1, mm_i1]
    have k2 : M1.2 = M.2 := by rw [← hM1]; rfl
    refine am_wk (ct_ciR (M := M1) (T := T) (t := t) (n := n) ⟨ht, by rw [k1 108 (by decide)]; exact e2, fun j hj => ⟨by rw [k1 109 (by decide)]; exact (hT j hj).2.2.2, hT7 j hj⟩⟩ (by rw [k1 108 (by decide)]; exact hB.2.2.1) hB.1 (fun z => absurd n20 (by omega))) fun r2 M2 hq2 => ?_
    rcases hq2 with ⟨_, rfl, rfl⟩ | ⟨z, _⟩ | ⟨z, _⟩
    · generalize hM2 : mm_i M1 108 (upd (upd (M1.1 108) 2 0) 0 1) = M2
      have m1 : ∀ k, k ≠ 108 → M2.1 k = M1.1 k := fun k hk => by rw [← hM2, mm_ne _ _ _ _ hk]
      have m8 : M2.1 108 = upd (upd (M1.1 108) 2 0) 0 1 := by rw [← hM2, mm_i1]
      have m2 : M2.2 = M1.2 := by rw [← hM2]; rfl
      have f8 : ∀ y, y ≠ 0 → y ≠ 2 → M2.1 108 y = M.1 108 y := fun y a b => by rw [m8, up_ne a, up_ne b, k1 108 (by decide)]
      have f0' : ∀ y, y ≠ 14 → M2.1 0 y = M.1 0 y := fun y a => by rw [m1 0 (by decide), k0, up_ne a]
      have tv : ty_iv M2 0 := ⟨by omega, by rw [m1 0 (by decide), k0]; exact up_at, by rw [m8, up_ne (by decide)]; exact up_at, fun j hj => absurd hj (Nat.not_lt_zero _)⟩
      refine ⟨⟨_, rfl⟩, by rw [m8]; exact up_at, hJ' M M2 n F n F hI ⟨fun k a b' _ _ => ?_, ?_, fun k _ => ?_, fun y a _ _ => f0' y a, fun y a _ => ?_⟩ hB (bkX_cc ?_ (fun k a b' => ?_) (fun k a => ?_) (fun k a x1 x2 _ => ?_) ?_ hB) (Nat.le_refl _) (fun _ _ => rfl) ?_ ?_ tv⟩
      · rw [m1 k b', k1 k (by omega)]
      · rw [m1 1 (by decide), k1 1 (by decide)]
      · rw [m2, k2]
      · exact f8 y (fun e => by rw [e] at a; exact absurd a (by decide)) (fun e => by rw [e] at a; exact absurd a (by decide))
      · rw [m1 9 (by decide), k1 9 (by decide)]
      · rw [m1 k (by omega), k1 k (by omega)]
      · rw [m1 k (by omega), k1 k (by omega)]
      · rw [m1 k (by omega), k1 k (by omega)]
      · exact f8 6 (by decide) (by decide)
      · rw [f0' 15 (by decide), f8 4 (by decide) (by decide)]; exact e15
      · rw [f0' 16 (by decide), f8 5 (by decide) (by decide)]; exact e16
    · omega
    · omega
  · refine Or.inr (Or.inr ⟨rfl, ?_⟩)
    generalize hM1 : mm_i K 0 _ = M1
    have k1 : ∀ k, k ≠ 0 → M1.1 k = K.1 k := fun k hk => by rw [← hM1, mm_ne _ _ _ _ hk]
    have k0 : M1.1 0 = upd (upd (upd (M.1 0) 14 0) 15 (nI (F' % 8))) 16 (nI (F' / 8)) := by rw [← hM1, mm_i1]
    have k2 : M1.2 = M.2 := by rw [← hM1]; exact gK.2
    have kk : ∀ k, 9 ≤ k → M1.1 k = M.1 k := fun k hk => by rw [k1 k (by omega), gK.1 k (by omega)]
    refine am_wk (ct_ciR (M := M1) (T := T) (t := t) (n := n) ⟨ht, by rw [kk 108 (by decide)]; exact e2, fun j hj => ⟨by rw [kk 109 (by decide)]; exact (hT j hj).2.2.2, hT7 j hj⟩⟩ (by rw [kk 108 (by decide)]; exact hB.2.2.1) hB.1 (fun _ W' c' s' hG' f0' => ?_)) fun r2 M2 hq2 => ?_
    · rcases hF with ⟨p, hp, _⟩ | ⟨W, c, s, hG, W8, hf⟩
      · exact absurd hp (fun g => tx_RG hT7 hG' g)
      · obtain ⟨rfl, rfl, rfl⟩ := tx_GG hT7 hG hG'
        rcases hf with ⟨z, _⟩ | ⟨_, _, _, og⟩
        · exact absurd f0' z
        · exact ⟨W8, fun x hx => og_256 W8 (og x hx)⟩
    · rcases hq2 with ⟨z, _⟩ | ⟨_, rfl, g, z0, z2, hq⟩ | ⟨_, W', c', s', N2, hG', f0', ok', _⟩
      · omega
      · have e4 : M2.1 108 4 = nI (F' % 8) ∧ M2.1 108 5 = nI (F' / 8) := by
          rcases hF with ⟨p, hp, rfl⟩ | ⟨W, c, s, hG, W8, hf⟩
          · rcases hq with ⟨p', hp', z4, z5⟩ | ⟨W', c', s', hG', _⟩
            · rw [tx_RR hp hp', z4, z5]
              exact ⟨by rw [show (8 * p' + 1) % 8 = 1 by omega]; rfl, by rw [show (8 * p' + 1) / 8 = p' by omega]⟩
            · exact absurd hp (fun g => tx_RG hT7 hG' g)
          · rcases hq with ⟨p', hp', _⟩ | ⟨W', c', s', hG', hq⟩
            · exact absurd hp' (fun g => tx_RG hT7 hG g)
            · obtain ⟨rfl, rfl, rfl⟩ := tx_GG hT7 hG hG'
              rcases hf with ⟨z, rfl⟩ | ⟨z, nk, rfl, _⟩ <;> rcases hq with ⟨y, z4, z5⟩ | ⟨y, mk, z4, z5⟩
              · exact ⟨z4, z5⟩
              · exact absurd y z
              · exact absurd z y
              · rw [z4, z5]
                exact ⟨rfl, rfl⟩
        have f0' : ∀ y, y ≠ 14 → y ≠ 15 → y ≠ 16 → M2.1 0 y = M.1 0 y := fun y a b' c => by rw [g.1 0 (by decide) (by decide) (by decide), k0, up_ne c, up_ne b', up_ne a]
        have m0 : M2.1 0 = M1.1 0 := g.1 0 (by decide) (by decide) (by decide)
        have tv : ty_iv M2 0 := ⟨by omega, by rw [m0, k0, up_ne (by decide), up_ne (by decide)]; exact up_at, z2, fun j hj => absurd hj (Nat.not_lt_zero _)⟩
        refine ⟨⟨_, rfl⟩, z0, hJ' M M2 n F n F hI ⟨fun k a b' c e => ?_, ?_, fun k _ => ?_, f0', fun y a _ => ?_⟩ hB (bkX_cc ?_ (fun k a b' => ?_) (fun k a => ?_) (fun k a x1 x2 x3 => ?_) ?_ hB) (Nat.le_refl _) (fun _ _ => rfl) ?_ ?_ tv⟩
        · rw [g.1 k b' (by omega) e, kk k (by omega)]
        · rw [g.1 1 (by decide) (by decide) (by decide), k1 1 (by decide), gK.1 1 (by decide)]
        · rw [g.2.1, k2]
        · rw [g.2.2.1 y a, kk 108 (by decide)]
        · rw [g.1 9 (by decide) (by decide) (by decide), kk 9 (by decide)]
        · rw [g.1 k (by omega) (by omega) (by omega), kk k (by omega)]
        · rw [g.1 k (by omega) (by omega) (by omega), kk k (by omega)]
        · rw [g.2.2.2 k a x1 x2 x3, kk k (by omega)]
        · rw [g.2.2.1 6 rfl, kk 108 (by decide)]
        · rw [m0, k0, up_ne (by decide), e4.1]
          exact up_at
        · rw [m0, k0, e4.2]
          exact up_at
      · rcases hF with ⟨p, hp, _⟩ | ⟨W, c, s, hG, W8, hf⟩
        · exact absurd hp (fun g => tx_RG hT7 hG' g)
        · obtain ⟨rfl, rfl, rfl⟩ := tx_GG hT7 hG hG'
          rcases hf with ⟨z, _⟩ | ⟨_, nk, _⟩
          · exact absurd f0' z
          · exact absurd ok' nk
  · refine Or.inl ⟨nI n, rfl, ?_⟩
    have W1 : 1 ≤ W := by
      have := hG.1
      have := hG.2.2.1
      omega
    generalize hN0 : mm_i K 0 (upd (upd (upd (M.1 0) 14 0) 15 0) 16 0) = N0
    have k1 : ∀ k, k ≠ 0 → N0.1 k = K.1 k := fun k hk => by rw [← hN0, mm_ne _ _ _ _ hk]
    have k0 : N0.1 0 = upd (upd (upd (M.1 0) 14 0) 15 0) 16 0 := by rw [← hN0, mm_i1]
    have k2 : N0.2 = M.2 := by rw [← hN0]; exact gK.2
    have kk : ∀ k, 9 ≤ k → N0.1 k = M.1 k := fun k hk => by rw [k1 k (by omega), gK.1 k (by omega)]
    have hB1 : bkX (dlM N0 (gO s)) n F := bkX_cc (by rw [dl_9, up_ne (by decide), kk 9 (by decide)]) (fun k a b' => by rw [dl_r _ _ (by omega) (by omega), kk k (by omega)]) (fun k a => by rw [dl_r _ _ (by omega) (by omega), kk k (by omega)]) (fun k a x1 x2 _ => by rw [dl_r _ _ (by omega) (by omega), kk k (by omega)]) (by rw [dl_r _ _ (by decide) (by decide), kk 108 (by decide)]) hB
    have dr := drw_l N0 (gO s)
    have d1 : ∀ k, k ≠ 13 → k ≠ 9 → (dlM N0 (gO s)).1 k = N0.1 k := fun k a b' => dl_r _ _ a b'
    have d2 : (dlM N0 (gO s)).2 = N0.2 := rfl
    generalize dlM N0 (gO s) = N1 at *
    generalize hK : lt_o (kpM N1 n (gO s).length W) (nI n).toInt64 = K1
    have q1 : K1.1 = (kpM N1 n (gO s).length W).1 := by rw [← hK]; rfl
    have q2 : ∀ k, k ≠ 202 → K1.2 k = N1.2 k := fun k hk => by rw [← hK]; exact if_neg hk
    have q3 : K1.2 202 0 = (nI n).toInt64 := by rw [← hK]; simp [lt_o, mm_l, vp_updL]
    have kr : ∀ k, ¬ (9 ≤ k ∧ k ≤ 12) → K1.1 k = N1.1 k := fun k hk => by rw [q1, kp_r _ _ _ _ hk]
    have kN : ∀ k, 14 ≤ k → K1.1 k = M.1 k := fun k hk => by rw [kr k (by omega), d1 k (by omega) (by omega), kk k (by omega)]
    refine am_wk (ct_ciR (M := K1) (T := T) (t := t) (n := n) ⟨ht, by rw [kN 108 (by decide)]; exact e2, fun j hj => ⟨by rw [kN 109 (by decide)]; exact (hT j hj).2.2.2, hT7 j hj⟩⟩ (by rw [kN 108 (by decide)]; exact hB.2.2.1) hB.1 (fun _ W' c' s' hG' _ => ?_)) fun r2 M2 hq2 => ?_
    · obtain ⟨rfl, rfl, rfl⟩ := tx_GG hT7 hG hG'
      exact ⟨W8, fun x hx => og_256 W8 (og x hx)⟩
    · rcases hq2 with ⟨z, _⟩ | ⟨_, rfl, g, z0, z2, hq⟩ | ⟨_, W', c', s', N2, hG', _, _, rfl, g, l2, z0, z2, z4, z5, rfl⟩
      · omega
      · rcases hq with ⟨p', hp', _⟩ | ⟨W', c', s', hG', hq⟩
        · exact absurd hp' (fun g => tx_RG hT7 hG g)
        · obtain ⟨rfl, rfl, rfl⟩ := tx_GG hT7 hG hG'
          rcases hq with ⟨y, _⟩ | ⟨_, mk, _⟩
          · exact absurd f0 y
          · exact absurd ok mk
      · obtain ⟨rfl, rfl, rfl⟩ := tx_GG hT7 hG hG'
        have eS : ∀ k, k ≠ 108 → k ≠ 110 → k ≠ 111 → (stM N2 n W).1 k = N2.1 k := fun k a b' c => by
          unfold stM
          rw [mm_ne _ _ _ _ a, mm_ne _ _ _ _ c, mm_ne _ _ _ _ b']
        have s8 : ∀ y, y ≠ 6 → (stM N2 n W).1 108 y = N2.1 108 y := fun y hy => by
          unfold stM
          rw [mm_i1, up_ne hy]
        have s2 : (stM N2 n W).2 = N2.2 := rfl
        have m0 : (stM N2 n W).1 0 = N0.1 0 := by rw [eS 0 (by decide) (by decide) (by decide), g.1 0 (by decide) (by decide) (by decide), kr 0 (by decide), d1 0 (by decide) (by decide)]
        have tv : ty_iv (stM N2 n W) 0 := ⟨by omega, by rw [m0, k0, up_ne (by decide), up_ne (by decide)]; exact up_at, by rw [s8 2 (by decide)]; exact z2, fun j hj => absurd hj (Nat.not_lt_zero _)⟩
        refine ⟨rfl, by rw [s8 0 (by decide)]; exact z0, by rw [s2, g.2.1]; exact q3, hJ' M _ n F (n + 1) _ hI ⟨fun k a b' c e => ?_, ?_, fun k hk => ?_, fun y a b' c => ?_, fun y a b' => ?_⟩ hB (bkX_ng hB1 n20 ok dr (fun k a b' => ?_) (fun k a => ?_) (fun k a x1 x2 x3 => ?_) l2 W1 W8 og) (by omega) (fun c hc => nw_o (by omega)) ?_ ?_ tv⟩
        · rw [eS k b' (by omega) (by omega), g.1 k b' (by omega) e, kN k a]
        · rw [eS 1 (by decide) (by decide) (by decide), g.1 1 (by decide) (by decide) (by decide), kr 1 (by decide), d1 1 (by decide) (by decide), k1 1 (by decide), gK.1 1 (by decide)]
        · rw [s2, g.2.1, q2 k hk, d2, k2]
        · rw [m0, k0, up_ne c, up_ne b', up_ne a]
        · rw [s8 y b', g.2.2.1 y a, kN 108 (by decide)]
        · rw [g.1 k (by omega) (by omega) (by omega), q1]
        · rw [g.1 k (by omega) (by omega) (by omega), kr k (by omega)]
        · rw [g.2.2.2 k a x1 x2 x3, kr k (by omega)]
        · rw [m0, k0, up_ne (by decide), s8 4 (by decide), z4]
          exact up_at
        · rw [m0, k0, s8 5 (by decide), z5]
          exact up_at
end CSOX
section PDVX
variable {ac : Nat → ClassId} {lo : Nat} {ad as : Nat → Nat} {b L : Nat} {zs : Nat → Int32} {hp : mm_M → Nat → xm_H} {I J : mm_M → Prop}
theorem pr_deriveX (H : mm_L ac lo hp) (h1 : ∀ M, I M → dv_iv scZ rsZ M) (hJ : ∀ M N, I M → dvF M N → dv_iv scZ rsZ N → bgG M N → J N) (how p q : Int32) : la_I ac lo ad as b L zs hp I J nm_X11_derive nm_X12_derive [.int how, .int p, .int q] := pr_dvOX H scZ_k rsZ_k shC_Z shR_Z shZ_L h1 hJ how p q
end PDVX
section TRSX
variable {ac : Nat → ClassId} {lo : Nat} {ad as : Nat → Nat} {b L : Nat} {xs : Nat → Int32} {hp : mm_M → Nat → xm_H} {I J : mm_M → Prop}
theorem pr_turnX (H : mm_L ac lo hp) (h1 : ∀ M, I M → ∃ n F, bkX M n F) (hJ0 : ∀ M, I M → J (th0 M)) (hJ : ∀ M N, I M → tuF M N → bgG M N → J N) (p x z e : Int32) : la_I ac lo ad as b L xs hp I J nm_X11_turn nm_X12_turn [.int p, .int x, .int z, .int e] := by
  refine am_la_I (us := [aI p, aI x, aI z, aI e]) H fun M hI => ?_
  obtain ⟨n, F, hB⟩ := h1 M hI
  have h := bkX_i hB
  have hn := h.1
  have h6 := h.2.2.1
  rcases bk_no (p := p) hn with c | ⟨c, hc, rfl⟩
  · refine am_wk (tn_x0 (d := 995) h (.inl c)) fun r M1 e => ⟨-1, e.1, ?_⟩
    rw [e.2]
    exact am_wk (tn_m0 (d := 995) h6 hn (.inl c)) fun r M1 e => ⟨e.1, by rw [e.2]; exact hJ0 M hI⟩
  · obtain ⟨W, l, hC, hl, ogl⟩ : ∃ W l, bk_c M c W l.length ∧ opsL M c W l ∧ ∀ x ∈ l, ogd W x := ⟨(F c).1, (F c).2, bkX_c hB hc, (hB.2.2.2 c hc).2.2.2.2.1, zg_all.mp (hB.2.2.2 c hc).2.2.2.2.2.2⟩
    have w1 := hC.1
    have w8 := hC.2.1
    have hW := hC.2.2.2.2.1
    by_cases k : tnk W x z e
    · obtain ⟨X, Z, E, hX, hZ, s0, hE, rfl, rfl, rfl⟩ := k
      have og : ∀ x ∈ l ++ trL X Z E, ogd W x := fun x hx => by
        rcases List.mem_append.mp hx with hx | hx
        · exact ogl x hx
        · exact og_tr w8 hX hZ s0 x hx
      refine am_wk (tn_x1 (d := 995) h hc hC hl hX hZ s0 hE) fun r M1 q => ?_
      rcases q with ⟨ok, n20, rfl, rfl⟩ | ⟨no, rfl, rfl⟩
      · refine ⟨nI n, rfl, ?_⟩
        refine am_wk (tn_m1 (d := 997) (n := n) (by rw [kp_r _ _ _ _ (by decide), dl_r _ _ (by decide) (by decide)]; exact h6) n20 hc (by rw [kp_r _ _ _ _ (by decide), dl_r _ _ (by decide) (by decide)]; exact hW) w1 w8 (kp_ops hc (dl_ops hl)) hX hZ s0 hE) fun r M2 q => ?_
        rcases q with ⟨_, rfl, rfl⟩ | ⟨no, _⟩
        · have q := tu_C _ hB n20 ok w1 w8 og
          exact ⟨rfl, hJ M _ hI q.1 q.2⟩
        · exact absurd ok no
      · refine ⟨-1, rfl, ?_⟩
        by_cases n20 : n = 20
        · refine am_wk (tn_m0 (d := 995) (n := n) (by rw [dl_r _ _ (by decide) (by decide)]; exact h6) hn (.inr ⟨c, W, hc, rfl, by rw [dl_r _ _ (by decide) (by decide)]; exact hW, w8, .inl n20⟩)) fun r M2 q => ⟨q.1, ?_⟩
          rw [q.2]
          have q := tu_A (l ++ trL X Z E) hB
          exact hJ M _ hI q.1 q.2
        · have nok : ¬ okL (l ++ trL X Z E) := no.resolve_right n20
          refine am_wk (tn_m1 (d := 997) (n := n) (by rw [dl_r _ _ (by decide) (by decide)]; exact h6) (by omega) hc (by rw [dl_r _ _ (by decide) (by decide)]; exact hW) w1 w8 (dl_ops hl) hX hZ s0 hE) fun r M2 q => ?_
          rcases q with ⟨ok, _⟩ | ⟨_, rfl, rfl⟩
          · exact absurd ok nok
          · have q := tu_B (l ++ trL X Z E) hB
            exact ⟨rfl, hJ M _ hI q.1 q.2⟩
    · refine am_wk (tn_x0 (d := 995) h (.inr ⟨c, W, l.length, hc, rfl, hC, k⟩)) fun r M1 e => ⟨-1, e.1, ?_⟩
      rw [e.2]
      exact am_wk (tn_m0 (d := 995) h6 hn (.inr ⟨c, W, hc, rfl, hW, w8, .inr k⟩)) fun r M1 e => ⟨e.1, by rw [e.2]; exact hJ0 M hI⟩
end TRSX
section LEPX
variable {ac : Nat → ClassId} {lo : Nat} {ad as : Nat → Nat} {b L : Nat} {xs : Nat → Int32} {hp : mm_M → Nat → xm_H} {I J : mm_M → Prop}
theorem pr_leastX (H : mm_L ac lo hp) (h1 : ∀ M, I M → (∃ n F, bkX M n F) ∧ le_t M ∧ le_f M) (hJ0 : ∀ M, I M → J (th0 M)) (hJ : ∀ M N, I M → leF M N → bgG M N → le_t N → le_f N → J N) (p : Int32) : la_I ac lo ad as b L xs hp I J nm_X11_least nm_X12_least [.int p] := by
  refine am_la_I (us := [aI p]) H fun M hI => ?_
  obtain ⟨⟨n, B, hB⟩, ht, hf⟩ := h1 M hI
  have h := bkX_i hB
  have hJ0 := hJ0 M hI
  have hn := h.1
  by_cases c : npm p ∨ n = 20
  · refine am_wk (le_x0 (d := 998) h.2.1 hn c) fun r M1 e => ⟨-1, e.1, ?_⟩
    rw [e.2]
    exact am_wk (le_m0 (d := 998) h.2.2.1 hn c) fun r M1 e => ⟨e.1, by rw [e.2]; exact hJ0⟩
  · have c1 : ¬ npm p := fun z => c (.inl z)
    have c2 : n < 20 := by
      have : n ≠ 20 := fun z => c (.inr z)
      omega
    have ⟨x, hx, e, h255⟩ := Decidable.byContradiction c1
    subst e
    have hr := iv_R hx h255
    have hq : isP (ivN x 8) := ⟨_, Rv_s hr⟩
    have q8 := (dq_p hq).1
    have lx := le_x1 (d := 990) (F := fun j => nI (opN (gw j (ivN x 8)))) hx h255 h.2.1 c2 ht (fun _ _ => rfl)
    refine am_wk lx fun r M1 e => ⟨nI n, e.1, ?_⟩
    obtain ⟨_, f, p, T, t1, t2, rfl⟩ := e
    have e6 : (kpM (drM (mm_i (mm_i M 78 f) 73 p) (fun j => nI (opN (gw j (ivN x 8)))) (dq (ivN x 8))) n (dq (ivN x 8)) 3).1 108 = M.1 108 := by
      rw [kp_r _ _ _ _ (by decide), dr_r _ _ _ (by decide) (by decide), mm_ne _ _ _ _ (by decide), mm_ne _ _ _ _ (by decide)]
    have e193 : (kpM (drM (mm_i (mm_i M 78 f) 73 p) (fun j => nI (opN (gw j (ivN x 8)))) (dq (ivN x 8))) n (dq (ivN x 8)) 3).1 193 = M.1 193 := by
      rw [kp_r _ _ _ _ (by decide), dr_r _ _ _ (by decide) (by decide), mm_ne _ _ _ _ (by decide), mm_ne _ _ _ _ (by decide)]
    refine am_wk (le_m1 (d := 996) hx h255 (by rw [e6]; exact h.2.2.1) c2 (by unfold le_f; rw [e6, e193]; exact hf)) fun r M2 e => ⟨e.1, ?_⟩
    obtain ⟨_, f2, l, hf2, rfl⟩ := e
    have q := leG (f := f) (p := p) (f2 := f2) (l := l) (F := fun j => nI (opN (gw j (ivN x 8)))) (Z := opZ (ivN x 8)) hB c2 q8 (fun j hj => ?_) (fun j hj => ?_)
    · exact hJ M _ hI q.1 q.2 (le_tt t1 t2) (le_ff hf2)
    · have g12 := (gw_p hq hj).1
      have c8 := cg_8 _ g12
      show nI (opN (gw j (ivN x 8))) = nI (0 + 16 * (gw j (ivN x 8) / 4) + 128 * 0 + 1024 * lsC (gw j (ivN x 8)) + 262144 * 0 + 4194304 * 0)
      unfold opN
      congr 1
      omega
    · have g12 := (gw_p hq hj).1
      have c8 := cg_8 _ g12
      exact ⟨⟨by show 0 ≤ 10; decide, by show _ / 4 < 3; omega, by show 0 < 8; decide, c8, by show 0 < 16; decide, by show 0 < 16; decide⟩, og_ls _ g12, fun e => absurd e (by show ¬ (0 = 8); decide)⟩
end LEPX
section IVI
variable {KI : List Nat} {KO : List (Nat × Nat)} {KL : List Nat} {M N K : mm_M}
theorem jv_derive (h1 : dvF M N) (h2 : dv_iv scZ rsZ N) (h3 : bgG M N) (h : IV M) : IV (N) := by
  have F : ivF [9, 10, 11, 12, 13, 14, 15, 16, 58, 59, 60, 61, 62, 63, 64, 65, 110, 111, 112, 113, 114, 115, 116, 117, 133, 134, 135, 136, 137, 138, 139, 140] [(57, 9), (108, 0), (108, 6), (108, 36), (108, 37), (108, 38), (108, 45), (108, 46), (108, 47), (108, 48), (108, 49)] [57, 58, 59, 60, 61, 62, 63, 64, 65] M (N) := by
    refine ⟨fun k y a b => ?_, fun k a => ?_⟩
    · by_cases e : k = 108
      · subst e
        exact h1.2.2.1 y (ko_n b rfl) (ko_n b rfl) (ko_n b rfl) (ko_n b rfl) (ko_n b rfl) (by
          have q5 : y ≠ 45 := ko_n b rfl
          have q6 : y ≠ 46 := ko_n b rfl
          have q7 : y ≠ 47 := ko_n b rfl
          have q8 : y ≠ 48 := ko_n b rfl
          have q9 : y ≠ 49 := ko_n b rfl
          omega)
      · by_cases e7 : k = 57
        · subst e7
          exact h1.2.2.2 y (ko_n b rfl)
        · have x1 := ki_q (a := 9) (n := 8) (by decide) a
          have x2 := ki_q (a := 58) (n := 8) (by decide) a
          have x3 := ki_q (a := 110) (n := 8) (by decide) a
          have x4 := ki_q (a := 133) (n := 8) (by decide) a
          rw [h1.1 k (by omega) (by omega) e (by omega) (by omega)]
    · have x1 := ki_q (a := 57) (n := 9) (by decide) a
      exact h1.2.1 k (by omega)
  refine IV_k h F (Or.inl rfl) (Or.inr ?_) (Or.inl rfl) (Or.inl rfl) (Or.inl rfl) (Or.inl rfl) (Or.inl rfl) (Or.inl rfl) (Or.inl rfl) (Or.inl rfl) (Or.inl rfl) (Or.inl rfl) (Or.inl rfl) (Or.inl rfl) (Or.inl rfl) (Or.inl rfl) (Or.inl rfl) (Or.inr ?_) (Or.inr ?_) (Or.inl rfl) (Or.inl rfl) (Or.inl rfl)
  · exact iBR_g h.2.1 h3 F rfl
  · exact h2.1
  · exact h2.2.1

theorem jv_route (h1 : rotF M N) (h2 : rt_iv N) (h3 : bgG M N) (h : IV M) : IV (N) := by
  have F : ivF [9, 10, 11, 12, 13, 73, 74, 75, 76, 77, 110, 111, 112, 113, 114, 115, 116, 117, 133, 134, 135, 196, 197, 198, 199, 200, 201] [(70, 13), (108, 0), (108, 6), (108, 36), (108, 37), (108, 38), (108, 139), (108, 146)] [75, 77] M (N) := by
    refine ⟨fun k y a b => ?_, fun k a => ?_⟩
    · by_cases e : k = 108
      · subst e
        exact h1.2.2.1 y (ko_n b rfl) (ko_n b rfl) (ko_n b rfl) (ko_n b rfl) (ko_n b rfl) (ko_n b rfl) (ko_n b rfl)
      · by_cases e7 : k = 70
        · subst e7
          exact h1.2.2.2.1 y (ko_n b rfl)
        · have x1 := ki_q (a := 9) (n := 5) (by decide) a
          have x2 := ki_q (a := 73) (n := 5) (by decide) a
          have x3 := ki_q (a := 110) (n := 8) (by decide) a
          have x4 := ki_q (a := 133) (n := 3) (by decide) a
          have x5 := ki_q (a := 196) (n := 6) (by decide) a
          rw [h1.1 k (by omega) e7 (by omega) e (by omega) (by omega) (by omega)]
    · exact h1.2.1 k (ki_n a rfl) (ki_n a rfl)
  refine IV_k h F (Or.inl rfl) (Or.inr ?_) (Or.inl rfl) (Or.inl rfl) (Or.inl rfl) (Or.inl rfl) (Or.inl rfl) (Or.inl rfl) (Or.inl rfl) (Or.inl rfl) (Or.inl rfl) (Or.inl rfl) (Or.inl rfl) (Or.inl rfl) (Or.inr ?_) (Or.inl rfl) (Or.inl rfl) (Or.inl rfl) (Or.inl rfl) (Or.inl rfl) (Or.inl rfl) (Or.inl rfl)
  · exact iBR_g h.2.1 h3 F rfl
  · rcases h1.2.2.2.2 with ⟨a, b⟩ | a
    · have := h.2.2.2.2.2.2.2.2.2.2.2.2.2.2.1
      exact a.trans (this.trans b.symm)
    · exact a

theorem jv_circuit (h1 : ciF M N) (h2 : ci_iv N) (h3 : bgG M N) (h : IV M) : IV (N) := by
  have F : ivF [2, 3, 4, 5, 6, 7, 8, 9, 10, 11, 12, 13, 110, 111, 112, 113, 114, 115, 116, 117, 120, 121, 122, 123, 124, 125, 126, 127, 128, 129, 130, 131] [(0, 14), (0, 15), (0, 16), (108, 0), (108, 2), (108, 3), (108, 4), (108, 5), (108, 6), (108, 17), (108, 18), (108, 19), (108, 27), (108, 32), (108, 33), (108, 34), (108, 35), (108, 36), (108, 37), (108, 38)] [202] M (N) := by
    refine ⟨fun k y a b => ?_, fun k a => h1.2.2.1 k (ki_n a rfl)⟩
    by_cases e : k = 108
    · subst e
      refine h1.2.2.2.2 y ?_ (ko_n b rfl)
      cases q : ciY.contains y with
      | false => rfl
      | true =>
        have := List.contains_iff_mem.mp q
        have : ∀ z ∈ ciY, [(0, 14), (0, 15), (0, 16), (108, 0), (108, 2), (108, 3), (108, 4), (108, 5), (108, 6), (108, 17), (108, 18), (108, 19), (108, 27), (108, 32), (108, 33), (108, 34), (108, 35), (108, 36), (108, 37), (108, 38)].contains (108, z) = true := by decide
        rw [this y (List.contains_iff_mem.mp q)] at b
        exact absurd b (by decide)
    · by_cases e0 : k = 0
      · subst e0
        exact h1.2.2.2.1 y (ko_n b rfl) (ko_n b rfl) (ko_n b rfl)
      · by_cases e1 : k = 1
        · subst e1
          rw [h1.2.1]
        · have x1 := ki_q (a := 2) (n := 12) (by decide) a
          have x3 := ki_q (a := 110) (n := 8) (by decide) a
          have x4 := ki_q (a := 120) (n := 12) (by decide) a
          rw [h1.1 k (by omega) e (by omega) (by omega)]
  refine IV_k h F (Or.inr ?_) (Or.inr ?_) (Or.inl rfl) (Or.inr ?_) (Or.inl rfl) (Or.inl rfl) (Or.inl rfl) (Or.inl rfl) (Or.inl rfl) (Or.inl rfl) (Or.inl rfl) (Or.inl rfl) (Or.inl rfl) (Or.inl rfl) (Or.inl rfl) (Or.inl rfl) (Or.inl rfl) (Or.inl rfl) (Or.inl rfl) (Or.inl rfl) (Or.inl rfl) (Or.inl rfl)
  · exact h2.1
  · exact iBR_g h.2.1 h3 F rfl
  · exact h2.2.2

theorem jv_turn (h1 : tuF M N) (h3 : bgG M N) (h : IV M) : IV (N) := by
  have F : ivF [9, 10, 11, 12, 13, 110, 111, 112, 113, 114, 115, 116, 117, 133, 134, 135] [(108, 0), (108, 6), (108, 36), (108, 37), (108, 38)] [] M (N) := by
    refine ⟨fun k y a b => ?_, fun k a => by rw [h1.2.1]⟩
    by_cases e : k = 108
    · subst e
      exact h1.2.2 y (ko_n b rfl) (ko_n b rfl) (ko_n b rfl) (ko_n b rfl) (ko_n b rfl)
    · have x3 := ki_q (a := 110) (n := 8) (by decide) a
      have x4 := ki_q (a := 133) (n := 3) (by decide) a
      rw [h1.1 k (ki_n a rfl) (ki_n a rfl) (ki_n a rfl) (ki_n a rfl) (ki_n a rfl) e (by omega) (by omega)]
  refine IV_k h F (Or.inl rfl) (Or.inr ?_) (Or.inl rfl) (Or.inl rfl) (Or.inl rfl) (Or.inl rfl) (Or.inl rfl) (Or.inl rfl) (Or.inl rfl) (Or.inl rfl) (Or.inl rfl) (Or.inl rfl) (Or.inl rfl) (Or.inl rfl) (Or.inl rfl) (Or.inl rfl) (Or.inl rfl) (Or.inl rfl) (Or.inl rfl) (Or.inl rfl) (Or.inl rfl) (Or.inl rfl)
  · exact iBR_g h.2.1 h3 F rfl

theorem jv_least (h1 : leF M N) (h3 : bgG M N) (h4 : le_t N) (h5 : le_f N) (h : IV M) : IV (N) := by
  have F : ivF [9, 10, 11, 12, 13, 73, 78, 110, 111, 112, 113, 114, 115, 116, 117, 193, 194] [(108, 0), (108, 6), (108, 36), (108, 37), (108, 38), (108, 135)] [] M (N) := by
    refine ⟨fun k y a b => ?_, fun k a => by rw [h1.2.1]⟩
    by_cases e : k = 108
    · subst e
      exact h1.2.2 y (ko_n b rfl) (ko_n b rfl) (ko_n b rfl) (ko_n b rfl) (ko_n b rfl) (ko_n b rfl)
    · have x3 := ki_q (a := 110) (n := 8) (by decide) a
      rw [h1.1 k (ki_n a rfl) (ki_n a rfl) (ki_n a rfl) (ki_n a rfl) (ki_n a rfl) (ki_n a rfl) (ki_n a rfl) e (by omega) (ki_n a rfl) (ki_n a rfl)]
  refine IV_k h F (Or.inl rfl) (Or.inr ?_) (Or.inl rfl) (Or.inl rfl) (Or.inl rfl) (Or.inl rfl) (Or.inl rfl) (Or.inl rfl) (Or.inr ?_) (Or.inr ?_) (Or.inl rfl) (Or.inl rfl) (Or.inl rfl) (Or.inl rfl) (Or.inl rfl) (Or.inl rfl) (Or.inl rfl) (Or.inl rfl) (Or.inl rfl) (Or.inl rfl) (Or.inl rfl) (Or.inl rfl)
  · exact iBR_g h.2.1 h3 F rfl
  · exact h4
  · exact h5

theorem jv_form (h1 : foF M N) (h2 : fo_iv N) (h3 : fm_iv N) (h : IV M) : IV (N) := by
  have F : ivF [65, 66, 67, 68, 69, 189, 191, 192] [(57, 10), (57, 11), (57, 12), (57, 13), (57, 14), (57, 15), (108, 0), (108, 129), (108, 130), (108, 131)] [118, 119, 152, 153, 186, 187, 188, 190] M (N) := by
    refine ⟨fun k y a b => ?_, fun k a => ?_⟩
    · by_cases e : k = 108
      · subst e
        exact h1.2.2.2 y (ko_n b rfl) (ko_n b rfl) (ko_n b rfl) (ko_n b rfl)
      · by_cases e7 : k = 57
        · subst e7
          refine h1.2.2.1 y ?_
          have q0 : y ≠ 10 := ko_n b rfl
          have q1 : y ≠ 11 := ko_n b rfl
          have q2 : y ≠ 12 := ko_n b rfl
          have q3 : y ≠ 13 := ko_n b rfl
          have q4 : y ≠ 14 := ko_n b rfl
          have q5 : y ≠ 15 := ko_n b rfl
          omega
        · have x3 := ki_q (a := 65) (n := 5) (by decide) a
          rw [h1.1 k e7 (by omega) e (ki_n a rfl) (ki_n a rfl) (ki_n a rfl)]
    · have x3 := ki_q (a := 186) (n := 3) (by decide) a
      exact h1.2.1 k (ki_n a rfl) (ki_n a rfl) (ki_n a rfl) (ki_n a rfl) (by omega) (ki_n a rfl)
  refine IV_k h F (Or.inl rfl) (Or.inl rfl) (Or.inl rfl) (Or.inl rfl) (Or.inl rfl) (Or.inl rfl) (Or.inl rfl) (Or.inr ?_) (Or.inl rfl) (Or.inl rfl) (Or.inl rfl) (Or.inl rfl) (Or.inl rfl) (Or.inl rfl) (Or.inl rfl) (Or.inl rfl) (Or.inl rfl) (Or.inl rfl) (Or.inl rfl) (Or.inr ?_) (Or.inr ?_) (Or.inl rfl)
  · exact h3
  · exact h2.1
  · exact h2.2.1

end IVI
