/-! circuit: the reference reads WIRES, brackets, digits -/
/-- the WIRES that a node has so far -/
def wsH (M : mm_M) (n fw : Nat) (ws : List Nat) : Prop := M.1 121 n = nI fw ∧ M.1 122 n = nI ws.length ∧ (∀ j, j < ws.length → M.1 127 (fw + j) = nI (ws.getD j 0) ∧ ws.getD j 0 < 10) ∧ M.1 108 27 = nI (fw + ws.length)
theorem wsH_f {S K : List Nat} {M N : mm_M} {n fw : Nat} {ws : List Nat} (hS : S.contains 27 = false) (h1 : K.contains 121 = false) (h2 : K.contains 122 = false) (h7 : K.contains 127 = false) (h : rjF S K M N) (g : wsH M n fw ws) : wsH N n fw ws := ⟨by rw [h.1 121 (by decide) h1]; exact g.1, by rw [h.1 122 (by decide) h2]; exact g.2.1, fun j hj => by rw [h.1 127 (by decide) h7]; exact g.2.2.1 j hj, by rw [h.2.1 27 hS]; exact g.2.2.2⟩
theorem gD_a {ws : List Nat} {w j : Nat} (h : j < ws.length) : (ws ++ [w]).getD j 0 = ws.getD j 0 := by
  rw [List.getD_eq_getElem?_getD, List.getElem?_append_left h, ← List.getD_eq_getElem?_getD]
theorem gD_b (ws : List Nat) (w : Nat) : (ws ++ [w]).getD ws.length 0 = w := by
  rw [List.getD_eq_getElem?_getD, List.getElem?_append_right (Nat.le_refl _), Nat.sub_self]
  rfl
theorem ntF_22 (f p : Nat) : ntF (ntF f p 2) p 3 = ntF f p 2 := by
  unfold ntF
  by_cases h : f = 0
  · rw [if_pos h, if_neg (by omega)]
    omega
  · rw [if_neg h]
    by_cases g : min f (8 * p + 2) = 0
    · omega
    · rw [if_neg g]
      omega
theorem ntF_33 (f p : Nat) : ntF (ntF f p 3) p 3 = ntF f p 3 := by
  unfold ntF
  by_cases h : f = 0
  · rw [if_pos h, if_neg (by omega)]
    omega
  · rw [if_neg h]
    by_cases g : min f (8 * p + 3) = 0
    · omega
    · rw [if_neg g]
      omega
/-- what is noted when the first k WIRES were looked at -/
def gkF (fr f p w : Nat) (ws : List Nat) (k : Nat) : Nat := if fr ≤ w then ntF f p 2 else if w ∈ ws.take k then ntF f p 3 else f
theorem gkF_0 {fr f p w : Nat} {ws : List Nat} : gkF fr f p w ws 0 = if fr ≤ w then ntF f p 2 else f := by
  unfold gkF
  by_cases h : fr ≤ w
  · rw [if_pos h, if_pos h]
  · rw [if_neg h, if_neg h, if_neg (by rw [List.take_zero]; exact List.not_mem_nil)]
theorem tk_gd {ws : List Nat} {k : Nat} (h : k < ws.length) : ws.take (k + 1) = ws.take k ++ [ws.getD k 0] := by
  rw [List.take_succ, List.getElem?_eq_getElem h, List.getD_eq_getElem?_getD, List.getElem?_eq_getElem h]
  rfl
theorem gkF_y {fr f p w : Nat} {ws : List Nat} {k : Nat} (h : k < ws.length) (e : ws.getD k 0 = w) : gkF fr f p w ws (k + 1) = ntF (gkF fr f p w ws k) p 3 := by
  have m : w ∈ ws.take (k + 1) := by rw [tk_gd h, e]; exact List.mem_append.mpr (Or.inr (List.mem_singleton.mpr rfl))
  unfold gkF
  by_cases q : fr ≤ w
  · rw [if_pos q, if_pos q, ntF_22]
  · rw [if_neg q, if_neg q, if_pos m]
    by_cases r : w ∈ ws.take k
    · rw [if_pos r, ntF_33]
    · rw [if_neg r]
theorem gkF_n {fr f p w : Nat} {ws : List Nat} {k : Nat} (h : k < ws.length) (e : ws.getD k 0 ≠ w) : gkF fr f p w ws (k + 1) = gkF fr f p w ws k := by
  unfold gkF
  have m : w ∈ ws.take (k + 1) ↔ w ∈ ws.take k := by
    rw [tk_gd h, List.mem_append, List.mem_singleton]
    exact ⟨fun z => z.elim id (fun z => absurd z.symm e), Or.inl⟩
  by_cases q : fr ≤ w
  · rw [if_pos q, if_pos q]
  · rw [if_neg q, if_neg q]
    by_cases r : w ∈ ws.take k
    · rw [if_pos r, if_pos (m.mpr r)]
    · rw [if_neg r, if_neg (fun z => r (m.mp z))]
theorem gkF_l {fr f p w : Nat} {ws : List Nat} : gkF fr f p w ws ws.length = twF fr (mskL ws) f p w := by
  unfold gkF twF
  rw [List.take_length, mskL_t]
  by_cases q : fr ≤ w
  · rw [if_pos q, if_pos q]
  · rw [if_neg q, if_neg q]
    by_cases r : w ∈ ws
    · rw [if_pos r, if_pos (decide_eq_true r)]
    · rw [if_neg r, if_neg (by rw [decide_eq_false r]; decide)]
section CRW
variable {d : Nat} {M : mm_M} {T : Nat → Nat} {t i : Nat}
set_option maxRecDepth 100000 in
theorem rw_l {P : am_Q} {X : am_X} {n fw w p fr f : Nat} {ws : List Nat} (hX : am_K (d + 1) false nm_X12_readWire P X) (hn : n < 401) (w10 : w < 10) (hw : wsH M n fw ws) (tl : fw + ws.length < 401) (h3 : M.1 108 3 = nI p) (hp : p ≤ 400) (hK : ∀ N, rjF [17, 18] [] M N → rjN N (gkF fr f p w ws ws.length) → X 86 [some (aR 108), some (aI (nI n)), some (aI (nI w)), some (aI (nI (fw + ws.length)))] [] N) : ∀ (m k : Nat) (N : mm_M), k + m = ws.length → rjF [17, 18] [] M N → rjN N (gkF fr f p w ws k) → X 44 [some (aR 108), some (aI (nI n)), some (aI (nI w)), some (aI (nI (fw + k)))] [] N := by
  have ix : vp_in (nI n) 401 := vp_in_nI hn (by decide)
  have cl : (nI n).toNatClampNeg = n := nI_clamp (by omega)
  obtain ⟨w1, w2, w3, w4⟩ := hw
  intro m
  induction m with
  | zero =>
    intro k N hk hF hN
    obtain rfl : k = ws.length := by omega
    have e1 : N.1 121 n = nI fw := by rw [hF.1 121 (by decide) rfl]; exact w1
    have e2 : N.1 122 n = nI ws.length := by rw [hF.1 122 (by decide) rfl]; exact w2
    refine am_run hX 5 _ _ _ _ ?_
    conv => whnf
    refine ⟨ix, ?_⟩
    rw [cl, e1]
    refine am_run hX 4 _ _ _ _ ?_
    conv => whnf
    refine ⟨ix, ?_⟩
    rw [cl, e2]
    refine am_run hX 2 _ _ _ _ ?_
    conv => whnf
    rw [nI_add]
    exact ⟨fun _ => hK N hF hN, fun z => absurd (nI_le (Nat.le_refl _) (by omega)) z⟩
  | succ m ih =>
    intro k N hk hF hN
    have e1 : N.1 121 n = nI fw := by rw [hF.1 121 (by decide) rfl]; exact w1
    have e2 : N.1 122 n = nI ws.length := by rw [hF.1 122 (by decide) rfl]; exact w2
    obtain ⟨w5, w6⟩ := w3 k (by omega)
    have e7 : N.1 127 (fw + k) = nI (ws.getD k 0) := by rw [hF.1 127 (by decide) rfl]; exact w5
    refine am_run hX 5 _ _ _ _ ?_
    conv => whnf
    refine ⟨ix, ?_⟩
    rw [cl, e1]
    refine am_run hX 4 _ _ _ _ ?_
    conv => whnf
    refine ⟨ix, ?_⟩
    rw [cl, e2]
    refine am_run hX 2 _ _ _ _ ?_
    conv => whnf
    rw [nI_add]
    refine ⟨fun z => absurd z (nI_ge (by omega) (by omega)), fun _ => ?_⟩
    refine am_run hX 4 _ _ _ _ ?_
    conv => whnf
    refine ⟨vp_in_nI (by show fw + k < 401; omega) (by decide), ?_⟩
    rw [nI_clamp (n := fw + k) (by omega), e7]
    refine am_run hX 2 _ _ _ _ ?_
    conv => whnf
    by_cases q : ws.getD k 0 = w
    · refine ⟨fun z => absurd (by rw [q]) z, fun _ => ?_⟩
      refine am_run hX 5 _ _ _ _ ?_
      conv => whnf
      rw [hF.2.1 3 rfl, h3]
      refine am_cq (ct_nt (d := d) (k := 3) hN hp (by decide)) ?_
      rintro r1 N1 ⟨rfl, f1, n1⟩
      refine ⟨none, rfl, ?_⟩
      refine am_run hX 2 _ _ _ _ ?_
      conv => whnf
      rw [nI_1]
      exact ih (k + 1) N1 (by omega) (rjF_t hF f1) (by rw [gkF_y (by omega) q]; exact n1)
    · refine ⟨fun _ => ?_, fun z => absurd (fun e => q ((nI_eq (by omega) (by omega)).mp e)) z⟩
      refine am_run hX 2 _ _ _ _ ?_
      conv => whnf
      rw [nI_1]
      exact ih (k + 1) N (by omega) hF (by rw [gkF_n (by omega) q]; exact hN)
/-- a WIRE was told -/
def rzK (M : mm_M) (T : Nat → Nat) (t i n fw fr f : Nat) (ws : List Nat) (r : am_R) (N : mm_M) : Prop := r = .inl (some (aI 1)) ∧ rjF [3, 17, 18, 27] [122, 127] M N ∧ N.1 108 3 = nI (crA T t i) ∧ rjN N (twF fr (mskL ws) f (crP T t i) (crC T t i - 48)) ∧ wsH N n fw (ws ++ [crC T t i - 48]) ∧ (∀ j, j ≠ n → N.1 122 j = M.1 122 j) ∧ ∀ j, j < fw + ws.length → N.1 127 j = M.1 127 j
set_option maxRecDepth 100000 in
theorem ct_rw1 {n fw fr f : Nat} {ws : List Nat} (hR : rjX M T t) (hA : rjA M T t i) (hn : n < 401) (hw : wsH M n fw ws) (tl : fw + ws.length < 401) (h33 : M.1 108 33 = nI fr) (hfr : fr ≤ 8) (hN : rjN M f) (hd : isDg (crC T t i) = true) : am_M (d + 3) false nm_X12_readWire [aR 108, aI (nI n)] M (rzK M T t i n fw fr f ws) := by
  have ix : vp_in (nI n) 401 := vp_in_nI hn (by decide)
  have cl : (nI n).toNatClampNeg = n := nI_clamp (by omega)
  obtain ⟨c1, c2⟩ := isDg_w hd
  have pt : crP T t i < t := crn_1 (by omega)
  have t4 := hR.1
  have ea : crA T t i = crP T t i + 1 := cra_p (by omega)
  have w10 : crC T t i - 48 < 10 := by omega
  have pe : ∀ K0, K0.1 108 3 = nI (crP T t i) → rjX K0 T t → am_M (d + 2) false nm_X12_see [aR 108] K0 (am_q1 (aI (nI (crC T t i))) K0) := fun K0 a b => ct_se0 (d := d + 1) b hA.1 a
  have hP : crP T t i ≤ 400 := by omega
  unfold rzK
  rw [ea]
  refine ⟨rfl, rfl, rfl, fun X hX => ?_⟩
  have key : ∀ K0, rjF [3] [] M K0 → K0.1 108 3 = nI (crP T t i) → X 12 [some (aR 108), some (aI (nI n)), none, none] [] K0 := by
    intro K0 F0 a3
    have R0 : rjX K0 T t := rjX_f rfl rfl F0 hR
    have w0 : wsH K0 n fw ws := wsH_f rfl rfl rfl rfl F0 hw
    have n0 : rjN K0 f := rjN_f rfl rfl F0 hN
    have a33 : K0.1 108 33 = nI fr := by rw [F0.2.1 33 rfl]; exact h33
    have ps := pe K0 a3 R0
    clear pe
    generalize crC T t i = c at *
    generalize crP T t i = p at *
    refine am_run hX 2 _ _ _ _ ?_
    conv => whnf
    refine am_c1 ps ?_
    refine am_run hX 3 _ _ _ _ ?_
    conv => whnf
    rw [show nI c - 48 = nI (c - 48) from by rw [show (48 : Int32) = nI 48 from rfl, nI_sub (by omega)]]
    generalize c - 48 = w at *
    have after : ∀ K, rjF [17, 18] [] K0 K → rjN K (gkF fr f p w ws 0) → X 37 [some (aR 108), some (aI (nI n)), some (aI (nI w)), none] [] K := by
      intro K F1 n1
      have w1 : wsH K n fw ws := wsH_f rfl rfl rfl rfl F1 w0
      have b3 : K.1 108 3 = nI p := by rw [F1.2.1 3 rfl]; exact a3
      refine am_run hX 4 _ _ _ _ ?_
      conv => whnf
      refine ⟨ix, ?_⟩
      rw [cl, w1.1]
      refine am_run hX 1 _ _ _ _ ?_
      conv => whnf
      refine rw_l (M := K) (d := d + 1) hX hn w10 w1 tl b3 hP (fun N F2 n2 => ?_) ws.length 0 K (by omega) (rjF_r _ _ K) n1
      have w2 : wsH N n fw ws := wsH_f rfl rfl rfl rfl F2 w1
      obtain ⟨z1, z2, z3, z4⟩ := w2
      rw [gkF_l] at n2
      refine am_run hX 6 _ _ _ _ ?_
      conv => whnf
      rw [z4]
      refine ⟨vp_in_nI (by show fw + ws.length < 401; omega) (by decide), ?_⟩
      rw [nI_clamp (n := fw + ws.length) (by omega)]
      generalize g1 : mm_i N 127 _ = N1
      have o1 : ∀ k, k ≠ 127 → N1.1 k = N.1 k := fun k hk => by rw [← g1, mm_ne _ _ _ _ hk]
      have v1 : N1.1 127 = upd (N.1 127) (fw + ws.length) (nI w) := by rw [← g1, mm_i1]
      have s1 : N1.2 = N.2 := by rw [← g1]; rfl
      refine am_run hX 6 _ _ _ _ ?_
      conv => whnf
      rw [o1 108 (by decide), z4, nI_1]
      generalize g2 : mm_i N1 108 _ = N2
      have o2 : ∀ k, k ≠ 108 → N2.1 k = N1.1 k := fun k hk => by rw [← g2, mm_ne _ _ _ _ hk]
      have v2 : N2.1 108 = upd (N.1 108) 27 (nI (fw + ws.length + 1)) := by rw [← g2, mm_i1]
      have s2 : N2.2 = N1.2 := by rw [← g2]; rfl
      refine am_run hX 5 _ _ _ _ ?_
      conv => whnf
      refine ⟨ix, ?_⟩
      rw [cl, o2 122 (by decide), o1 122 (by decide), z2]
      refine am_run hX 3 _ _ _ _ ?_
      conv => whnf
      refine ⟨ix, ?_⟩
      rw [cl, nI_1]
      generalize g3 : mm_i N2 122 _ = N3
      have o3 : ∀ k, k ≠ 122 → N3.1 k = N2.1 k := fun k hk => by rw [← g3, mm_ne _ _ _ _ hk]
      have v3 : N3.1 122 = upd (N.1 122) n (nI (ws.length + 1)) := by rw [← g3, mm_i1, o2 122 (by decide), o1 122 (by decide)]
      have s3 : N3.2 = N2.2 := by rw [← g3]; rfl
      have f3 : N3.1 108 3 = nI p := by rw [o3 108 (by decide), v2, up_ne (by decide), F2.2.1 3 rfl]; exact b3
      refine am_run hX 6 _ _ _ _ ?_
      conv => whnf
      rw [f3, nI_1]
      generalize g4 : mm_i N3 108 _ = N4
      have o4 : ∀ k, k ≠ 108 → N4.1 k = N3.1 k := fun k hk => by rw [← g4, mm_ne _ _ _ _ hk]
      have v4 : N4.1 108 = upd (upd (N.1 108) 27 (nI (fw + ws.length + 1))) 3 (nI (p + 1)) := by rw [← g4, mm_i1, o3 108 (by decide), v2]
      have s4 : N4.2 = N3.2 := by rw [← g4]; rfl
      have FN : rjF [3, 17, 18] [] M N := rjF_t (rjF_w (by decide) (by decide) F0) (rjF_t (rjF_w (by decide) (by decide) F1) (rjF_w (by decide) (by decide) F2))
      have c127 : N4.1 127 = upd (N.1 127) (fw + ws.length) (nI w) := by rw [o4 127 (by decide), o3 127 (by decide), o2 127 (by decide), v1]
      refine am_run hX 2 _ _ _ _ ?_
      conv => whnf
      refine ⟨rfl, rfl, ⟨fun k a b => ?_, fun y hy => ?_, ?_⟩, ?_, ⟨n2.1, ?_, fun q => ⟨(n2.2.2 q).1, ?_⟩⟩, ⟨?_, ?_, fun j hj => ?_, ?_⟩, fun j hj => ?_, fun j hj => ?_⟩
      · have q : ∀ z, [122, 127].contains z = true → k ≠ z := fun z hz e => by rw [e, hz] at b; exact absurd b (by decide)
        rw [o4 k a, o3 k (q _ rfl), o2 k a, o1 k (q _ rfl)]
        exact FN.1 k a rfl
      · have q : ∀ z, [3, 17, 18, 27].contains z = true → y ≠ z := fun z hz e => by rw [e, hz] at hy; exact absurd hy (by decide)
        rw [v4, up_ne (q _ rfl), up_ne (q _ rfl)]
        exact FN.2.1 y (ctn_w (R := [3, 17, 18, 27]) (by decide) hy)
      · rw [s4, s3, s2, s1]
        exact FN.2.2
      · rw [v4]
        exact up_at
      · rw [v4, up_ne (by decide), up_ne (by decide)]
        exact n2.2.1
      · rw [v4, up_ne (by decide), up_ne (by decide)]
        exact (n2.2.2 q).2
      · rw [o4 121 (by decide), o3 121 (by decide), o2 121 (by decide), o1 121 (by decide)]
        exact z1
      · rw [o4 122 (by decide), v3, List.length_append]
        exact up_at
      · rw [List.length_append] at hj
        have hj : j < ws.length + 1 := hj
        rw [c127]
        by_cases q : j = ws.length
        · rw [q, gD_b]
          exact ⟨up_at, w10⟩
        · rw [up_ne (by omega), gD_a (by omega)]
          exact z3 j (by omega)
      · rw [v4, up_ne (by decide), List.length_append]
        exact up_at
      · rw [o4 122 (by decide), v3, up_ne hj]
        rw [FN.1 122 (by decide) rfl]
      · rw [c127, up_ne (by omega), FN.1 127 (by decide) rfl]
    refine am_run hX 4 _ _ _ _ ?_
    conv => whnf
    rw [a33]
    by_cases q : fr ≤ w
    · refine ⟨fun z => absurd z (nI_nlt q (by omega)), fun _ => ?_⟩
      refine am_run hX 5 _ _ _ _ ?_
      conv => whnf
      rw [a3]
      refine am_cq (ct_nt (d := d + 1) (k := 2) n0 hP (by decide)) ?_
      rintro r1 N1 ⟨rfl, f1, n1⟩
      refine ⟨none, rfl, ?_⟩
      exact after N1 f1 (by rw [gkF_0, if_pos q]; exact n1)
    · refine ⟨fun _ => after K0 (rjF_r _ _ K0) (by rw [gkF_0, if_neg q]; exact n0), fun z => absurd (nI_lt (by omega) (by omega)) z⟩
  refine am_run hX 2 _ _ _ _ ?_
  conv => whnf
  refine am_c1 (ct_dg (d := d) hR hA) ?_
  refine am_run hX 1 _ _ _ _ ?_
  conv => whnf
  rw [hd]
  exact ⟨fun _ => key _ (sa_F M _ rfl) (sa_3 M _), fun z => absurd (by decide) z⟩
set_option maxRecDepth 100000 in
theorem ct_rw0 {n : Int32} (hR : rjX M T t) (hA : rjA M T t i) (hd : isDg (crC T t i) = false) : am_M (d + 3) false nm_X12_readWire [aR 108, aI n] M (am_q1 (aI 0) (rfM M (crP T t i))) := by
  refine ⟨rfl, rfl, rfl, fun X hX => am_run hX 2 _ _ _ _ ?_⟩
  conv => whnf
  refine am_c1 (ct_dg (d := d) hR hA) ?_
  refine am_run hX 1 _ _ _ _ ?_
  conv => whnf
  rw [hd]
  refine ⟨fun z => absurd rfl z, fun _ => ?_⟩
  refine am_run hX 2 _ _ _ _ ?_
  conv => whnf
  have k := ct_rf (d := d) (sa_X (crP T t i) hR) (rjA_p hA.1 (sa_3 M _))
  rw [rf_sa] at k
  refine am_c1 k ?_
  refine am_run hX 1 _ _ _ _ ?_
  conv => whnf
  exact ⟨rfl, rfl, rfl⟩
set_option maxRecDepth 100000 in
theorem ct_op1 {D : Nat} (hR : rjX M T t) (hA : rjA M T t i) (h : crC T t i = 91) (h32 : M.1 108 32 = nI D) (hD : D < 8) : am_M (d + 3) false nm_X12_open [aR 108] M (fun r N => r = .inl (some (aI 1)) ∧ rjF [3, 32] [] M N ∧ N.1 108 3 = nI (crA T t i) ∧ N.1 108 32 = nI (D + 1)) := by
  have ea : crA T t i = crP T t i + 1 := cra_p (by omega)
  refine ⟨rfl, rfl, rfl, fun X hX => am_run hX 2 _ _ _ _ ?_⟩
  conv => whnf
  refine am_c1 (ct_se (d := d + 1) hR hA) ?_
  rw [h]
  generalize gK : saM M (crP T t i) = K
  have F0 : rjF [3, 32] [] M K := by rw [← gK]; exact sa_F M _ rfl
  have a3 : K.1 108 3 = nI (crP T t i) := by rw [← gK]; exact sa_3 M _
  have a32 : K.1 108 32 = nI D := by rw [← gK, (sa_F (S := [3]) (K := []) M (crP T t i) rfl).2.1 32 rfl]; exact h32
  refine am_run hX 2 _ _ _ _ ?_
  conv => whnf
  refine ⟨fun z => absurd rfl z, fun _ => ?_⟩
  refine am_run hX 4 _ _ _ _ ?_
  conv => whnf
  rw [a32]
  refine ⟨fun _ => ?_, fun z => absurd (fun e => absurd ((nI_eq (a := D) (b := 8) (by omega) (by decide)).mp e) (by omega)) z⟩
  refine am_run hX 6 _ _ _ _ ?_
  conv => whnf
  rw [a3, nI_1]
  generalize g1 : mm_i K 108 _ = N1
  have F1 : rjF [3, 32] [] K N1 := by rw [← g1]; exact rjF_u K _ rfl
  have b3 : N1.1 108 3 = nI (crP T t i + 1) := by rw [← g1]; exact rj_at _ _ _
  have b32 : N1.1 108 32 = nI D := by rw [← g1, rj_an _ _ _ _ (by decide)]; exact a32
  refine am_run hX 6 _ _ _ _ ?_
  conv => whnf
  rw [b32, nI_1]
  generalize g2 : mm_i N1 108 _ = N2
  have F2 : rjF [3, 32] [] N1 N2 := by rw [← g2]; exact rjF_u N1 _ rfl
  have c3 : N2.1 108 3 = nI (crP T t i + 1) := by rw [← g2, rj_an _ _ _ _ (by decide)]; exact b3
  have c32 : N2.1 108 32 = nI (D + 1) := by rw [← g2]; exact rj_at _ _ _
  refine am_run hX 2 _ _ _ _ ?_
  conv => whnf
  exact ⟨rfl, rfl, rjF_t F0 (rjF_t F1 F2), by rw [ea]; exact c3, c32⟩
set_option maxRecDepth 100000 in
theorem ct_op0 {D : Nat} (hR : rjX M T t) (hA : rjA M T t i) (h : ¬ (crC T t i = 91 ∧ D < 8)) (h32 : M.1 108 32 = nI D) (hD : D ≤ 8) : am_M (d + 3) false nm_X12_open [aR 108] M (am_q1 (aI 0) (rfM M (crP T t i))) := by
  have c7 := rjX_c (i := i) hR
  refine ⟨rfl, rfl, rfl, fun X hX => am_run hX 2 _ _ _ _ ?_⟩
  conv => whnf
  refine am_c1 (ct_se (d := d + 1) hR hA) ?_
  have a32 : (saM M (crP T t i)).1 108 32 = nI D := by rw [(sa_F (S := [3]) (K := []) M (crP T t i) rfl).2.1 32 rfl]; exact h32
  have k := ct_rf (d := d) (sa_X (crP T t i) hR) (rjA_p hA.1 (sa_3 M _))
  rw [rf_sa] at k
  have no : X 18 [some (aR 108)] [] (saM M (crP T t i)) := by
    refine am_run hX 2 _ _ _ _ ?_
    conv => whnf
    refine am_c1 k ?_
    refine am_run hX 1 _ _ _ _ ?_
    conv => whnf
    exact ⟨rfl, rfl, rfl⟩
  generalize saM M (crP T t i) = K at *
  refine am_run hX 2 _ _ _ _ ?_
  conv => whnf
  by_cases q : crC T t i = 91
  · rw [q]
    refine ⟨fun z => absurd rfl z, fun _ => ?_⟩
    refine am_run hX 4 _ _ _ _ ?_
    conv => whnf
    rw [a32, show D = 8 by omega]
    exact ⟨fun z => absurd rfl z, fun _ => no⟩
  · exact ⟨fun _ => no, fun z => absurd (fun e => q ((nI_eq (b := 91) (by omega) (by decide)).mp e)) z⟩
set_option maxRecDepth 100000 in
theorem ct_cl1 {D n m : Nat} (hR : rjX M T t) (hA : rjA M T t i) (h : crC T t i = 93) (h32 : M.1 108 32 = nI D) (hD : 1 ≤ D) (h19 : M.1 108 19 = nI m) (hn : n < 401) : am_M (d + 4) false nm_X12_close [aR 108, aI (nI n)] M (fun r N => r = .inl (some (aI 1)) ∧ rjF [3, 32] [126] M N ∧ N.1 108 3 = nI (crA T t i) ∧ N.1 108 32 = nI (D - 1) ∧ N.1 126 = upd (M.1 126) n (nI m)) := by
  refine ⟨rfl, rfl, rfl, fun X hX => am_run hX 3 _ _ _ _ ?_⟩
  conv => whnf
  refine am_c1 (ct_wa1 (d := d) (c := 93) hR hA (by decide) h) ?_
  generalize gK : saM M (crA T t i) = K
  have F0 : rjF [3, 32] [126] M K := by rw [← gK]; exact sa_F M _ rfl
  have a3 : K.1 108 3 = nI (crA T t i) := by rw [← gK]; exact sa_3 M _
  have a32 : K.1 108 32 = nI D := by rw [← gK, (sa_F (S := [3]) (K := []) M (crA T t i) rfl).2.1 32 rfl]; exact h32
  have a19 : K.1 108 19 = nI m := by rw [← gK, (sa_F (S := [3]) (K := []) M (crA T t i) rfl).2.1 19 rfl]; exact h19
  have a126 : K.1 126 = M.1 126 := by rw [← gK, (sa_F (S := [3]) (K := []) M (crA T t i) rfl).1 126 (by decide) rfl]
  refine am_run hX 1 _ _ _ _ ?_
  conv => whnf
  refine ⟨fun _ => ?_, fun z => absurd (by decide) z⟩
  refine am_run hX 6 _ _ _ _ ?_
  conv => whnf
  rw [a32, nI_s1 _ hD]
  generalize g1 : mm_i K 108 _ = N1
  have F1 : rjF [3, 32] [126] K N1 := by rw [← g1]; exact rjF_u K _ rfl
  have b3 : N1.1 108 3 = nI (crA T t i) := by rw [← g1, rj_an _ _ _ _ (by decide)]; exact a3
  have b32 : N1.1 108 32 = nI (D - 1) := by rw [← g1]; exact rj_at _ _ _
  have b19 : N1.1 108 19 = nI m := by rw [← g1, rj_an _ _ _ _ (by decide)]; exact a19
  have b126 : N1.1 126 = M.1 126 := by rw [← g1, mm_ne _ _ _ _ (by decide)]; exact a126
  refine am_run hX 6 _ _ _ _ ?_
  conv => whnf
  rw [b19]
  refine ⟨vp_in_nI (by show n < 401; omega) (by decide), ?_⟩
  rw [nI_clamp (n := n) (by omega), b126]
  generalize g2 : mm_i N1 126 _ = N2
  have F2 : rjF [3, 32] [126] N1 N2 := by rw [← g2]; exact rjF_c N1 _ (by decide) rfl
  refine am_run hX 2 _ _ _ _ ?_
  conv => whnf
  exact ⟨rfl, rfl, rjF_t F0 (rjF_t F1 F2), by rw [← g2, mm_ne _ _ _ _ (by decide)]; exact b3, by rw [← g2, mm_ne _ _ _ _ (by decide)]; exact b32, by rw [← g2, mm_i1]⟩
set_option maxRecDepth 100000 in
theorem ct_rb1 {n : Nat} (hR : rjX M T t) (hA : rjA M T t i) (hn : n < 401) (h : 48 ≤ crC T t i ∧ crC T t i ≤ 51) : am_M (d + 3) false nm_X12_readBit [aR 108, aI (nI n)] M (fun r N => r = .inl (some (aI 1)) ∧ rjF [3] [125] M N ∧ N.1 108 3 = nI (crA T t i) ∧ N.1 125 = upd (M.1 125) n (nI (crC T t i - 48))) := by
  have ea : crA T t i = crP T t i + 1 := cra_p (by omega)
  have k := ct_se0 (d := d + 1) (sa_X (crP T t i) hR) hA.1 (sa_3 M _)
  refine ⟨rfl, rfl, rfl, fun X hX => am_run hX 2 _ _ _ _ ?_⟩
  conv => whnf
  refine am_c1 (ct_se (d := d + 1) hR hA) ?_
  have F0 : rjF [3] [125] M (saM M (crP T t i)) := sa_F M _ rfl
  have a3 : (saM M (crP T t i)).1 108 3 = nI (crP T t i) := sa_3 M _
  have a125 : (saM M (crP T t i)).1 125 = M.1 125 := mm_ne _ _ _ _ (by decide)
  generalize saM M (crP T t i) = K at *
  generalize crC T t i = c at *
  generalize crP T t i = p at *
  refine am_run hX 2 _ _ _ _ ?_
  conv => whnf
  refine ⟨fun z => absurd z (nI_nlt (a := c) (b := 48) (by omega) (by omega)), fun _ => ?_⟩
  refine am_run hX 2 _ _ _ _ ?_
  conv => whnf
  refine am_c1 k ?_
  refine am_run hX 2 _ _ _ _ ?_
  conv => whnf
  refine ⟨fun _ => ?_, fun z => absurd (nI_le (a := c) (b := 51) (by omega) (by decide)) z⟩
  refine am_run hX 5 _ _ _ _ ?_
  conv => whnf
  refine am_c1 k ?_
  refine am_run hX 3 _ _ _ _ ?_
  conv => whnf
  refine ⟨vp_in_nI (by show n < 401; omega) (by decide), ?_⟩
  rw [nI_clamp (n := n) (by omega), a125, show nI c - 48 = nI (c - 48) from by rw [show (48 : Int32) = nI 48 from rfl, nI_sub (by omega)]]
  generalize g1 : mm_i K 125 _ = N1
  have F1 : rjF [3] [125] K N1 := by rw [← g1]; exact rjF_c K _ (by decide) rfl
  have b3 : N1.1 108 3 = nI p := by rw [← g1, mm_ne _ _ _ _ (by decide)]; exact a3
  have b125 : N1.1 125 = upd (M.1 125) n (nI (c - 48)) := by rw [← g1, mm_i1]
  refine am_run hX 6 _ _ _ _ ?_
  conv => whnf
  rw [b3, nI_1]
  generalize g2 : mm_i N1 108 _ = N2
  have F2 : rjF [3] [125] N1 N2 := by rw [← g2]; exact rjF_u N1 _ rfl
  refine am_run hX 2 _ _ _ _ ?_
  conv => whnf
  exact ⟨rfl, rfl, rjF_t F0 (rjF_t F1 F2), by rw [ea, ← g2]; exact rj_at _ _ _, by rw [← g2, mm_ne _ _ _ _ (by decide)]; exact b125⟩
set_option maxRecDepth 100000 in
theorem ct_rb0 {n : Int32} (hR : rjX M T t) (hA : rjA M T t i) (h : ¬ (48 ≤ crC T t i ∧ crC T t i ≤ 51)) : am_M (d + 3) false nm_X12_readBit [aR 108, aI n] M (am_q1 (aI 0) (rfM M (crP T t i))) := by
  have c7 := rjX_c (i := i) hR
  have k2 := ct_se0 (d := d + 1) (sa_X (crP T t i) hR) hA.1 (sa_3 M _)
  refine ⟨rfl, rfl, rfl, fun X hX => am_run hX 2 _ _ _ _ ?_⟩
  conv => whnf
  refine am_c1 (ct_se (d := d + 1) hR hA) ?_
  have k := ct_rf (d := d) (sa_X (crP T t i) hR) (rjA_p hA.1 (sa_3 M _))
  rw [rf_sa] at k
  have no : X 18 [some (aR 108), some (aI n)] [] (saM M (crP T t i)) := by
    refine am_run hX 2 _ _ _ _ ?_
    conv => whnf
    refine am_c1 k ?_
    refine am_run hX 1 _ _ _ _ ?_
    conv => whnf
    exact ⟨rfl, rfl, rfl⟩
  generalize saM M (crP T t i) = K at *
  generalize crC T t i = c at *
  refine am_run hX 2 _ _ _ _ ?_
  conv => whnf
  by_cases q : c < 48
  · exact ⟨fun _ => no, fun z => absurd (nI_lt (a := c) (b := 48) q (by decide)) z⟩
  · refine ⟨fun z => absurd z (nI_nlt (a := c) (b := 48) (by omega) (by omega)), fun _ => ?_⟩
    refine am_run hX 2 _ _ _ _ ?_
    conv => whnf
    refine am_c1 k2 ?_
    refine am_run hX 2 _ _ _ _ ?_
    conv => whnf
    exact ⟨fun z => absurd z (nI_ge (a := 51) (b := c) (by omega) (by omega)), fun _ => no⟩
set_option maxRecDepth 100000 in
theorem ct_ko {c : Nat} (hc : c < 127) : am_M (d + 1) false nm_X12_kindOf [aI (nI c)] M (am_q1 (aI (if kcN c = 99 then -1 else nI (kcN c))) M) := by
  by_cases s : c = 104 ∨ c = 115 ∨ c = 116 ∨ c = 119 ∨ c = 120 ∨ c = 121 ∨ c = 122
  · rcases s with rfl | rfl | rfl | rfl | rfl | rfl | rfl
    all_goals
      refine ⟨rfl, rfl, rfl, fun X hX => am_run hX 4 _ _ _ _ ?_⟩
      conv => whnf
      repeat first
        | (refine ⟨fun e => absurd e (by decide), fun _ => ?_⟩; conv => whnf)
        | (refine ⟨fun _ => ?_, fun e => absurd (by decide) e⟩; conv => whnf)
      exact ⟨trivial, rfl, rfl⟩
  · have e9 : kcN c = 99 := by
      unfold kcN
      rw [if_neg (by omega), if_neg (by omega), if_neg (by omega), if_neg (by omega), if_neg (by omega), if_neg (by omega), if_neg (by omega)]
    rw [if_pos e9]
    refine ⟨rfl, rfl, rfl, fun X hX => ?_⟩
    have no : X 107 [some (aI (nI c))] [] M := by
      refine am_run hX 2 _ _ _ _ ?_
      conv => whnf
      exact ⟨trivial, rfl, rfl⟩
    refine am_run hX 2 _ _ _ _ ?_
    conv => whnf
    refine ⟨fun e => absurd ((nI_eq (a := c) (b := 104) (by omega) (by decide)).mp e) (by omega), fun _ => ?_⟩
    conv => whnf
    refine ⟨fun _ => no, fun _ => ?_⟩
    conv => whnf
    refine ⟨fun _ => no, fun _ => ?_⟩
    conv => whnf
    refine ⟨fun _ => no, fun _ => ?_⟩
    conv => whnf
    refine ⟨fun _ => no, fun _ => ?_⟩
    conv => whnf
    refine ⟨fun _ => no, fun _ => ?_⟩
    conv => whnf
    refine ⟨fun _ => no, fun _ => ?_⟩
    conv => whnf
    refine ⟨fun _ => no, fun _ => ?_⟩
    conv => whnf
    refine ⟨fun _ => no, fun _ => ?_⟩
    conv => whnf
    refine ⟨fun _ => no, fun _ => ?_⟩
    conv => whnf
    refine ⟨fun _ => no, fun _ => ?_⟩
    conv => whnf
    refine ⟨fun e => absurd ((nI_eq (a := c) (b := 115) (by omega) (by decide)).mp e) (by omega), fun _ => ?_⟩
    conv => whnf
    refine ⟨fun e => absurd ((nI_eq (a := c) (b := 116) (by omega) (by decide)).mp e) (by omega), fun _ => ?_⟩
    conv => whnf
    refine ⟨fun _ => no, fun _ => ?_⟩
    conv => whnf
    refine ⟨fun _ => no, fun _ => ?_⟩
    conv => whnf
    refine ⟨fun e => absurd ((nI_eq (a := c) (b := 119) (by omega) (by decide)).mp e) (by omega), fun _ => ?_⟩
    conv => whnf
    refine ⟨fun e => absurd ((nI_eq (a := c) (b := 120) (by omega) (by decide)).mp e) (by omega), fun _ => ?_⟩
    conv => whnf
    refine ⟨fun e => absurd ((nI_eq (a := c) (b := 121) (by omega) (by decide)).mp e) (by omega), fun _ => ?_⟩
    conv => whnf
    refine ⟨fun e => absurd ((nI_eq (a := c) (b := 122) (by omega) (by decide)).mp e) (by omega), fun _ => ?_⟩
    exact no
end CRW
