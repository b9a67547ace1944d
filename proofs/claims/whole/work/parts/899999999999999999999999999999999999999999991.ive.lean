/-! the bank grows: old circuits stay -/
/-- the bank of M stays, in N -/
def bgG (M N : mm_M) : Prop := ∃ n F n' F', bkX M n F ∧ bkX N n' F' ∧ n ≤ n' ∧ ∀ c, c < n → F' c = F c
theorem bgG_s {M N : mm_M} {n : Nat} {F : Nat → Nat × List bk_X} (h : bkX M n F) (g : bkX N n F) : bgG M N := ⟨n, F, n, F, h, g, Nat.le_refl _, fun _ _ => rfl⟩
theorem bk_oU {M : mm_M} {a W : Nat} {x y : bk_X} (w8 : W ≤ 8) (hx : bk_w W x) (hy : bk_w W y) (h : bk_o M a x) (g : bk_o M a y) : x = y := by
  obtain ⟨_, h1, h2, h3, h4, h5, h6⟩ := h
  obtain ⟨_, g1, g2, g3, g4, g5, g6⟩ := g
  obtain ⟨x1, x2, x3, x4, x5, x6⟩ := hx
  obtain ⟨y1, y2, y3, y4, y5, y6⟩ := hy
  have p8 : 2 ^ W ≤ 2 ^ 8 := Nat.pow_le_pow_right (by decide) w8
  have e1 := (nI_eq (a := x.1) (b := y.1) (by omega) (by omega)).mp (h1.symm.trans g1)
  have e2 := (nI_eq (a := x.2.1) (b := y.2.1) (by omega) (by omega)).mp (h2.symm.trans g2)
  have e3 := (nI_eq (a := x.2.2.1) (b := y.2.2.1) (by omega) (by omega)).mp (h3.symm.trans g3)
  have e4 := (nI_eq (a := x.2.2.2.1) (b := y.2.2.2.1) (by omega) (by omega)).mp (h4.symm.trans g4)
  have e5 := (nI_eq (a := x.2.2.2.2.1) (b := y.2.2.2.2.1) (by omega) (by omega)).mp (h5.symm.trans g5)
  have e6 := (nI_eq (a := x.2.2.2.2.2) (b := y.2.2.2.2.2) (by omega) (by omega)).mp (h6.symm.trans g6)
  exact Prod.ext e1 (Prod.ext e2 (Prod.ext e3 (Prod.ext e4 (Prod.ext e5 e6))))
/-- the bank is one thing -/
theorem bkX_u {M : mm_M} {n m : Nat} {F G : Nat → Nat × List bk_X} (h : bkX M n F) (g : bkX M m G) : n = m ∧ ∀ c, c < n → F c = G c := by
  obtain ⟨h1, h2, _, h4⟩ := h
  obtain ⟨g1, g2, _, g4⟩ := g
  have e : n = m := (nI_eq (by omega) (by omega)).mp (h2.symm.trans g2)
  subst e
  refine ⟨rfl, fun c hc => ?_⟩
  obtain ⟨a1, a2, a3, _, ⟨l1, _, l3, l4⟩, _⟩ := h4 c hc
  obtain ⟨b1, b2, b3, _, ⟨k1, _, k3, k4⟩, _⟩ := g4 c hc
  have ew : (F c).1 = (G c).1 := (nI_eq (by omega) (by omega)).mp (a3.symm.trans b3)
  have el : (F c).2.length = (G c).2.length := (nI_eq (by omega) (by omega)).mp (l1.symm.trans k1)
  refine Prod.ext ew (zg_ex el (fun j hj => ?_))
  have q := l4 j hj
  have r := k4 j (by omega)
  rw [← ew] at r
  exact bk_oU a2 q.1 r.1 q.2 r.2
section IVG
variable {KI : List Nat} {KO : List (Nat × Nat)} {KL : List Nat} {M N : mm_M}
theorem ruP_F {n n' : Nat} {F F' : Nat → Nat × List bk_X} (hn : n ≤ n') (hF : ∀ c, c < n → F' c = F c) (h : ruP N n F) : ruP N n' F' := by
  rcases h with z | ⟨c, k, xs, dn, tk, b, hc, h1, h2, h3, h4, h5, h6, h7, h8, h9⟩
  · exact Or.inl z
  · refine Or.inr ⟨c, k, xs, dn, tk, b, by omega, ?_⟩
    rw [hF c hc]
    exact ⟨h1, h2, h3, h4, h5, h6, h7, h8, h9⟩
/-- the bank grows, the RUN stays -/
theorem iBR_g (h : iBRD M) (hG : bgG M N) (F : ivF KI KO KL M N) (c : ckM [21, 22, 154, 155, 156] [(17, 5), (17, 6), (17, 7), (17, 8), (17, 9), (17, 10), (18, 2), (18, 3), (108, 65), (108, 66), (108, 67), (108, 68), (108, 70), (108, 71), (108, 74), (108, 77)] [17, 20, 108, 150] KI KO KL = true) : iBRD N := by
  obtain ⟨n, F1, hB, hR⟩ := h
  obtain ⟨m, G, n', F', b1, b2, b3, b4⟩ := hG
  obtain ⟨rfl, hu⟩ := bkX_u hB b1
  refine ⟨n', F', b2, ruP_F (F := F1) b3 (fun c hc => by rw [b4 c hc, hu c hc]) ?_⟩
  have h' : ruP (rsM [21, 22, 154, 155, 156] [(17, 5), (17, 6), (17, 7), (17, 8), (17, 9), (17, 10), (18, 2), (18, 3), (108, 65), (108, 66), (108, 67), (108, 68), (108, 70), (108, 71), (108, 74), (108, 77)] [17, 20, 108, 150] M) n F1 := hR
  rw [← ckM_e c F] at h'
  exact h'
end IVG
section DVLX
variable {ac : Nat → ClassId} {lo : Nat} {ad as : Nat → Nat} {b L : Nat} {zs : Nat → Int32} {hp : mm_M → Nat → xm_H} {I J : mm_M → Prop} {SC RS : mm_M → Prop} {sh : List bk_X → List bk_X}
theorem pr_dvOX (H : mm_L ac lo hp) (kS : scK SC) (kR : rsK RS) (hC : shC SC sh) (hR : shR RS sh) (hS : shL sh) (h1 : ∀ M, I M → dv_iv SC RS M) (hJ : ∀ M N, I M → dvF M N → dv_iv SC RS N → bgG M N → J N) (how p q : Int32) : la_I ac lo ad as b L zs hp I J nm_X11_derive nm_X12_derive [.int how, .int p, .int q] := by
  refine am_la_I (us := [aI how, aI p, aI q]) H fun M hI => ?_
  obtain ⟨sc, rs, n, F, hB⟩ := h1 M hI
  have dr : dvcF M M := ⟨fun _ _ _ => rfl, fun _ _ => rfl, fun _ _ => rfl, rfl, fun _ _ => rfl⟩
  -- the reference says no, and nothing changed but its FAULT
  have hsc0 : ∀ N, SC N → SC (th0 N) := fun N h => kS N _ h (fun k a b => ⟨by unfold th0; rw [mm_ne _ _ _ _ (by omega)], rfl⟩)
  have hrs0 : ∀ N, RS N → RS (th0 N) := fun N h => kR N _ h (fun k a b => by
    unfold th0
    rw [mm_ne _ _ _ _ (by omega)]) (fun y a b => by
    unfold th0
    rw [mm_i1, up_ne (by omega)]) (fun _ _ => rfl)
  have hrsC : ∀ N, dvcF M N → RS N := fun N h => kR M N rs (fun k a b => h.1 k (by omega) (by omega)) (fun y a b => by rw [h.1 108 (by omega) (by omega)]) (fun k a => h.2.1 k (by omega))
  have hno : ∀ N, dvcF M N → SC N → J (th0 N) := by
    intro N h s
    have hb : bkX N n F := bkX_F (bkF_v h) hB
    exact hJ M _ hI (dvF_0 h) ⟨hsc0 N s, hrs0 N (hrsC N h), n, F, hb⟩ (bgG_s hB hb)
  by_cases hv : vaD n F how p q
  · obtain ⟨c, c', hv⟩ := va_C hv
    have hog := og_dv hB hS hv
    have hvD := C_va hv
    refine am_wk (ct_dvC1 hB sc kS hC hS hv) fun r M1 hq => ?_
    rcases hq with ⟨hK, ok, hn, rfl, N1, f1, s1, d1, rfl⟩ | ⟨hK, rfl, f1, s1⟩
    · refine ⟨nI n, rfl, ?_⟩
      have hB1 := bkX_F (bkF_v f1) hB
      have rsK : RS (kpM N1 n (dvL sh F how c c').length (dvW F how c)) := kR N1 _ (hrsC N1 f1) (fun k a b => kp_r _ _ _ _ (by omega)) (fun y _ _ => by rw [kp_r _ _ _ _ (by decide)]) (fun _ _ => rfl)
      refine am_wk (ct_dvR1 (sh := sh) (bkR_kp hB1 _) rsK kR hR hv hK hn) fun r2 M2 hq2 => ?_
      rcases hq2 with ⟨_, rfl, N2, f2, s2, l2, rfl⟩ | ⟨nok, _⟩
      · obtain ⟨⟨v1, v8⟩, _, ho⟩ := hog hK
        refine ⟨rfl, hJ M _ hI (dvF_s f1 f2) ⟨?_, ?_, n + 1, _, bkX_n hB1 hn ok d1 f2 l2 v1 v8 ho⟩ ⟨n, F, n + 1, _, hB, bkX_n hB1 hn ok d1 f2 l2 v1 v8 ho, by omega, fun c hc => nw_o (by omega)⟩⟩
        · refine kS N1 _ s1 (fun k a b => ⟨?_, ?_⟩)
          · unfold stM
            rw [mm_ne _ _ _ _ (by omega), mm_ne _ _ _ _ (by omega), mm_ne _ _ _ _ (by omega), f2.1 k (by omega) (by omega) (by omega)]
            unfold th0
            rw [mm_ne _ _ _ _ (by omega), kp_r _ _ _ _ (by omega)]
          · show N2.2 k = _
            rw [f2.2.1]
            rfl
        · refine kR N2 _ s2 (fun k a b => ?_) (fun y a b => ?_) (fun _ _ => rfl)
          · unfold stM
            rw [mm_ne _ _ _ _ (by omega), mm_ne _ _ _ _ (by omega), mm_ne _ _ _ _ (by omega)]
          · unfold stM
            rw [mm_i1, up_ne (by omega)]
      · exact absurd ok nok
    · refine ⟨-1, rfl, ?_⟩
      have hB1 := bkX_F (bkF_v f1) hB
      by_cases hr : rvD n F how p q
      · have hK1 : dvK F how c := hr.2.2 c hv.2.2.1 hv.2.2.2.1
        have hn : n < 20 := by
          have := hB.1
          have := hr.2.1
          omega
        refine am_wk (ct_dvR1 (sh := sh) (bkX_r hB1) (hrsC _ f1) kR hR hv hK1 hn) fun r2 M2 hq2 => ?_
        rcases hq2 with ⟨ok, _⟩ | ⟨_, rfl, f2, s2⟩
        · exact absurd ⟨hK1, ok, hn⟩ hK
        · refine ⟨rfl, hJ M _ hI (dvF_2 f1 f2) ⟨?_, s2, n, F, bkX_rf f2 hB1⟩ (bgG_s hB (bkX_rf f2 hB1))⟩
          refine kS M1 _ s1 (fun k a b => ⟨?_, by rw [f2.2.1]; rfl⟩)
          rw [f2.1 k (by omega) (by omega) (by omega)]
          unfold th0
          rw [mm_ne _ _ _ _ (by omega)]
      · refine am_wk (ct_dvR0 (bkX_r hB1) hr) fun r2 M2 hq2 => ?_
        rw [hq2.2]
        exact ⟨hq2.1, hno M1 f1 s1⟩
  · refine am_wk (ct_dvC0 hB hv) fun r M1 hq => ⟨-1, hq.1, ?_⟩
    rw [hq.2]
    refine am_wk (ct_dvR0 (bkX_r hB) (fun z => hv z.1)) fun r2 M2 hq2 => ?_
    rw [hq2.2]
    exact ⟨hq2.1, hno M dr sc⟩
end DVLX

section PRTX
variable {ac : Nat → ClassId} {lo : Nat} {ad as : Nat → Nat} {b L : Nat} {zs : Nat → Int32} {hp : mm_M → Nat → xm_H} {I J : mm_M → Prop}
theorem pr_routeX (H : mm_L ac lo hp) (h1 : ∀ M, I M → rt_iv M) (hJ : ∀ M N, I M → rotF M N → rt_iv N → bgG M N → J N) (p : Int32) : la_I ac lo ad as b L zs hp I J nm_X11_route nm_X12_route [.int p] := by
  refine am_la_I (us := [aI p]) H fun M hI => ?_
  obtain ⟨⟨Lk, hC⟩, n, F, hB⟩ := h1 M hI
  refine am_wk (ct_rtC hB hC p) fun r M1 hq => ?_
  rcases hq with ⟨c, w, N1, hv, rfl, f1, d1, rfl⟩ | ⟨hno, rfl, f1⟩
  · refine ⟨nI n, rfl, ?_⟩
    have hB1 := bkX_F (rcF_b f1) hB
    generalize hT : rtT (F c).1 (F c).2 Lk w = T at *
    generalize hK : mm_i (kpM N1 n T.length 6) 70 (upd (M.1 70) 13 (nI w.length)) = K
    have k1 : ∀ k, k ≠ 70 → K.1 k = (kpM N1 n T.length 6).1 k := fun k hk => by rw [← hK, mm_ne _ _ _ _ hk]
    have k2 : ∀ k, K.2 k = N1.2 k := fun k => by rw [← hK]; rfl
    have k3 : K.1 70 = upd (M.1 70) 13 (nI w.length) := by rw [← hK, mm_i1]
    have hR : bkR K n F := by
      obtain ⟨x1, x2, x3⟩ := bkR_kp (V := 6) hB1 T.length
      refine ⟨x1, by rw [k1 108 (by decide)]; exact x2, fun c' hc' => ?_⟩
      obtain ⟨a1, a2, a3, a4, a5⟩ := x3 c' hc'
      refine ⟨a1, a2, by rw [k1 110 (by decide)]; exact a3, ?_, a5⟩
      unfold opsL bk_o at a4 ⊢
      rw [k1 10 (by decide), k1 11 (by decide), k1 111 (by decide), k1 112 (by decide), k1 113 (by decide), k1 114 (by decide), k1 115 (by decide), k1 116 (by decide), k1 117 (by decide)]
      exact a4
    have hk : lkR K Lk := by
      have := hC.2.2
      unfold lkR at this ⊢
      rw [k1 195 (by decide), kp_r _ _ _ _ (by decide), f1.1 195 (by decide) (by decide) (by decide) (by decide) (by decide)]
      exact this
    refine am_wk (ct_rtR hR hk p) fun r2 M2 hq2 => ?_
    rcases hq2 with ⟨c', w', N2, hv', rfl, f2, l2, s2, rfl⟩ | ⟨hno, _⟩
    · have ec : c' = c := by
        have a := hv.2.1
        have b := hv'.2.1
        rw [a] at b
        have n20 := hB.1
        exact ((nI_eq (by have := hv.1; omega) (by have := hv'.1; omega)).mp b).symm
      subst ec
      have ew : w' = w := rtY_u hv'.2.2.2.2.1 hv.2.2.2.2.1
      subst ew
      rw [hT] at l2
      have e2 : ∀ k, k ≠ 108 → (k < 112 ∨ 117 < k) → (k < 133 ∨ 135 < k) → (k < 196 ∨ 201 < k) → N2.1 k = K.1 k := fun k a b c e => (f2.1 k a b c e).trans (mm_ne _ _ _ _ a)
      have eS : ∀ k, k ≠ 108 → k ≠ 110 → k ≠ 111 → (stM N2 n 6).1 k = N2.1 k := fun k a b c => by
        unfold stM
        rw [mm_ne _ _ _ _ a, mm_ne _ _ _ _ c, mm_ne _ _ _ _ b]
      have s13 : (stM N2 n 6).1 70 = upd (M.1 70) 13 (nI w'.length) := by
        rw [eS 70 (by decide) (by decide) (by decide), e2 70 (by decide) (by omega) (by omega) (by omega), k3]
      have eM : ∀ k, (k < 9 ∨ 13 < k) → k ≠ 70 → (k < 73 ∨ 77 < k) → k ≠ 108 → (k < 110 ∨ 117 < k) → (k < 133 ∨ 135 < k) → (k < 196 ∨ 201 < k) → (stM N2 n 6).1 k = M.1 k := fun k a b c e f g i => by
        rw [eS k e (by omega) (by omega), e2 k e (by omega) g i, k1 k b, kp_r _ _ _ _ (by omega), f1.1 k (by omega) (by omega) (by omega) (by omega) (by omega)]
      have hnew : bkX (stM N2 n 6) (n + 1) (nwF F n 6 T) := by
        refine bkX_ng hB1 hv.2.2.1 (by rw [← hT]; exact hv.2.2.2.2.2) d1 (fun k a b => ?_) (fun k a => ?_) (fun k a x1 x2 x3 => ?_) l2 (by decide) (by decide) ?_
        · rw [e2 k (by omega) (by omega) (by omega) (by omega), k1 k (by omega)]
        · rw [e2 k (by omega) (by omega) (by omega) (by omega), k1 k (by omega), kp_r _ _ _ _ (by omega)]
        · rw [f2.2.2.2 k a x1 x2 x3]
          unfold th0
          rw [mm_ne _ _ _ _ (by omega), k1 k (by omega), kp_r _ _ _ _ (by omega)]
        · rw [← hT]
          exact rtT_o hv.2.2.2.1.2.1 (hB.2.2.2 _ hv.1).2.2.2.2.2.2 hv.2.2.2.2.1.1
      refine ⟨rfl, hJ M _ hI ⟨eM, fun k a b => ?_, fun y a b c e f g i => ?_, fun y hy => by rw [s13, up_ne hy], Or.inr ?_⟩ ⟨⟨Lk, chJ_f (eM 72 (by omega) (by decide) (by omega) (by decide) (by omega) (by omega) (by omega)) (by rw [s13, up_ne (by decide)]) (eM 195 (by omega) (by decide) (by omega) (by decide) (by omega) (by omega) (by omega)) hC⟩, n + 1, _, hnew⟩ ⟨n, F, n + 1, _, hB, hnew, by omega, fun c hc => nw_o (by omega)⟩⟩
      · show N2.2 k = M.2 k
        rw [f2.2.1]
        show K.2 k = M.2 k
        rw [k2 k]
        exact f1.2.1 k a b
      · unfold stM
        rw [mm_i1, up_ne b, f2.2.2.1 y c e f g i]
        unfold th0
        rw [mm_i1, up_ne a, k1 108 (by decide), kp_r _ _ _ _ (by decide), f1.1 108 (by decide) (by decide) (by decide) (by decide) (by decide)]
      · rw [s13, up_at]
        unfold stM
        rw [mm_i1, up_ne (by decide), s2]
    · exact absurd hv (hno c w)
  · refine ⟨-1, rfl, ?_⟩
    have hB1 := bkX_F (rcF_b f1) hB
    have hk : lkR M1 Lk := by
      have := hC.2.2
      unfold lkR at this ⊢
      rw [f1.1 195 (by decide) (by decide) (by decide) (by decide) (by decide)]
      exact this
    refine am_wk (ct_rtR (bkX_r hB1) hk p) fun r2 M2 hq2 => ?_
    rcases hq2 with ⟨c', w', N2, hv', _⟩ | ⟨_, rfl, f2⟩
    · exact absurd hv' (hno c' w')
    · have e2 : ∀ k, k ≠ 108 → (k < 112 ∨ 117 < k) → (k < 133 ∨ 135 < k) → (k < 196 ∨ 201 < k) → M2.1 k = M1.1 k := fun k a b c e => (f2.1 k a b c e).trans (mm_ne _ _ _ _ a)
      have eM : ∀ k, (k < 9 ∨ 13 < k) → k ≠ 70 → (k < 73 ∨ 77 < k) → k ≠ 108 → (k < 110 ∨ 117 < k) → (k < 133 ∨ 135 < k) → (k < 196 ∨ 201 < k) → M2.1 k = M.1 k := fun k a b c e f g i => by
        rw [e2 k e (by omega) g i, f1.1 k (by omega) (by omega) (by omega) (by omega) (by omega)]
      have e70 : M2.1 70 = M.1 70 := by
        rw [e2 70 (by decide) (by omega) (by omega) (by omega), f1.1 70 (by decide) (by decide) (by decide) (by decide) (by decide)]
      refine ⟨rfl, hJ M _ hI ⟨eM, fun k a b => ?_, fun y a b c e f g i => ?_, fun y hy => by rw [e70], Or.inl ⟨by rw [e70], ?_⟩⟩ ⟨⟨Lk, chJ_f (eM 72 (by omega) (by decide) (by omega) (by decide) (by omega) (by omega) (by omega)) (by rw [e70]) (eM 195 (by omega) (by decide) (by omega) (by decide) (by omega) (by omega) (by omega)) hC⟩, n, F, bkX_rq f2 hB1⟩ (bgG_s hB (bkX_rq f2 hB1))⟩
      · rw [f2.2.1]
        exact f1.2.1 k a b
      · rw [f2.2.2.1 y c e f i]
        unfold th0
        rw [mm_i1, up_ne a, f1.1 108 (by decide) (by decide) (by decide) (by decide) (by decide)]
      · rw [f2.2.2.1 139 (by decide) (by decide) (by decide) (by decide)]
        unfold th0
        rw [mm_i1, up_ne (by decide), f1.1 108 (by decide) (by decide) (by decide) (by decide) (by decide)]
end PRTX

