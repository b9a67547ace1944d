/-! SHORTEST: the class's putShortest whole -/
theorem ik_c : ∀ k, k ≤ 8 → ((k ≤ 4 ∨ k = 6 ∨ k = 8) → (ikN k ≤ 4 ∨ ikN k = 6 ∨ ikN k = 8) ∧ ∀ w, w < 2 → (if ikN k = 8 then 12 else if ikN k = 6 then 10 + w else 2 * ikN k + w) = szI (if k = 8 then 12 else if k = 6 then 10 + w else 2 * k + w)) ∧ (k ≤ 2 → ikN k = k ∧ ∀ w, w < 2 → szI (13 + 2 * k + w) = 13 + 2 * k + w) := by decide
theorem gC_iv {x : bk_X} (ho : ogd 2 x) (hp : pln x) : gC (ivX x) = szI (gC x) ∧ pln (ivX x) := by
  have w2 := ho.1.2.1
  rcases hp with ⟨h0, hk⟩ | ⟨h0, hk, hc⟩
  · obtain ⟨a, b⟩ := (ik_c x.1 (by omega)).1 hk
    refine ⟨?_, Or.inl ⟨h0, a⟩⟩
    have e := b x.2.1 w2
    unfold gC
    rw [if_pos h0, if_pos (show (ivX x).2.2.2.1 = 0 from h0)]
    exact e
  · obtain ⟨a, b⟩ := (ik_c x.1 (by omega)).2 hk
    refine ⟨?_, Or.inr ⟨h0, by show ikN x.1 ≤ 2; omega, hc⟩⟩
    have e := b x.2.1 w2
    unfold gC
    rw [if_neg h0, if_neg (show ¬ (ivX x).2.2.2.1 = 0 from h0)]
    show 13 + 2 * ikN x.1 + x.2.1 = _
    rw [a, e]
theorem drz_c {l : List bk_X} {j : Nat} (h : j < l.length) : szA (szV ((l.drop j).map gC)) k4e = szP (szI (gC (zg l j))) (szA (szV ((l.drop (j + 1)).map gC)) k4e) := by
  have e : l.drop j = zg l j :: l.drop (j + 1) := by
    rw [List.drop_eq_getElem_cons h]
    unfold zg
    rw [List.getD_eq_getElem?_getD, List.getElem?_eq_getElem h]
    rfl
  rw [e, List.map_cons, szV_c, szA_a]
  rfl
theorem drA_d {M : mm_M} {u : List bk_X} (hS : stpd M) {m : Nat} (hT : tbD M m) : stpd (dlM M u) ∧ tbD (dlM M u) m := ⟨fun i hi => by rw [dl_r _ _ (by decide) (by decide)]; exact hS i hi, tbD_F hT (dl_r _ _ (by decide) (by decide)) rfl⟩
section SHA1
variable {d : Nat} {M : mm_M} {c n m : Nat}
set_option maxRecDepth 100000 in
theorem pt_g {P : am_Q} {X : am_X} {k : K4} {a : Nat} {N : mm_M} (hX : am_K (d + 4) false nm_X2_putShortest P X) (hS : stpd N) (hT : tbD N m) (hk : symK k) (ha : a ≤ m) (hm : m ≤ 14) (hdl : dlS stZ k4e k (a + 1)) (hK : ∀ g, g < 5 → dlS stZ k4e (stZ g k) a → (∀ h, h < g → ¬ dlS stZ k4e (stZ h k) a) → X 152 [some (aR 57), some (aR 9), some (aI (nI c)), some (aI (nI (kK k))), some (aI (nI (a + 1))), some (aI (nI g))] [] N) : ∀ (j g : Nat), g + j = 4 → (∀ h, h < g → ¬ dlS stZ k4e (stZ h k) a) → X 124 [some (aR 57), some (aR 9), some (aI (nI c)), some (aI (nI (kK k))), some (aI (nI (a + 1))), some (aI (nI g))] [] N := by
  intro j
  induction j with
  | zero =>
    intro g hg hn
    obtain rfl : g = 4 := by omega
    refine am_run hX 3 _ _ _ _ ?_
    conv => whnf
    refine ⟨fun _ => ?_, fun z => absurd (by decide) z⟩
    obtain ⟨i, i5, hi⟩ := dl_f hdl
    have : i = 4 := Classical.byContradiction fun z => hn i (by omega) hi
    subst this
    exact hK 4 (by decide) hi hn
  | succ j ih =>
    intro g hg hn
    have g4 : g < 4 := by omega
    have eg : sgT g = szS g := by
      unfold sgT szS
      rw [if_pos g4, if_pos g4]
    have hks : symK (stZ g k) := sym_P (szS_19 g (by omega)) hk
    refine am_run hX 3 _ _ _ _ ?_
    conv => whnf
    refine ⟨fun z => absurd z (nI_ge (a := g) (b := 4) g4 (by decide)), fun _ => ?_⟩
    refine am_run hX 5 _ _ _ _ ?_
    conv => whnf
    refine am_c1 (ct_stF (d := d + 3) (t := g) (by omega) hk.1 hS) ?_
    rw [eg]
    refine am_run hX 1 _ _ _ _ ?_
    conv => whnf
    refine am_c1 (ct_dO (d := d) (M := N) (k := stZ g k) hks) ?_
    have hlt : dOf N (stZ g k) < 16 := nb_lt _ _
    refine am_run hX 2 _ _ _ _ ?_
    conv => whnf
    rw [nI_eq (by omega) (by omega)]
    refine ⟨fun z => ?_, fun z => ?_⟩
    · obtain ⟨x, _, x2, x3⟩ := tb_k hT hks (by omega)
      obtain rfl : x = a := by omega
      exact hK g (by omega) x2 hn
    · refine am_run hX 2 _ _ _ _ ?_
      conv => whnf
      rw [nI_1]
      refine ih (g + 1) (by omega) (fun h hh q => ?_)
      by_cases e : h = g
      · subst e
        exact z (hT.2 _ a hks ha q)
      · exact hn h (by omega) q
set_option maxRecDepth 100000 in
theorem pt_w {P : am_Q} {X : am_X} {N : mm_M} (hX : am_K (d + 4) false nm_X2_putShortest P X) (hS : stpd N) (hT : tbD N m) (hm : m ≤ 14) : ∀ (a : Nat) (k : K4) (u : List bk_X) (l5 : Option am_V), symK k → a ≤ m + 1 → dlS stZ k4e k a → u.length + a ≤ 300 → (∀ w, grW stZ k4e k a w → P (.inl (some (aI 1))) (dlM N (u ++ w.map stX))) → X 116 [some (aR 57), some (aR 9), some (aI (nI c)), some (aI (nI (kK k))), some (aI (nI a)), l5] [] (dlM N u) := by
  intro a
  induction a with
  | zero =>
    intro k u l5 hk ha hdl hu hP
    refine am_run hX 2 _ _ _ _ ?_
    conv => whnf
    refine ⟨fun _ => ?_, fun z => absurd (by decide) z⟩
    refine am_run hX 2 _ _ _ _ ?_
    conv => whnf
    have := hP [] ⟨rfl, dl_z hdl⟩
    rw [List.map_nil, List.append_nil] at this
    exact ⟨rfl, this⟩
  | succ a ih =>
    intro k u l5 hk ha hdl hu hP
    obtain ⟨hS', hT'⟩ := drA_d (u := u) hS hT
    refine am_run hX 2 _ _ _ _ ?_
    conv => whnf
    refine ⟨fun z => absurd z (nI_ge (a := 0) (b := a + 1) (by omega) (by omega)), fun _ => ?_⟩
    refine am_run hX 2 _ _ _ _ ?_
    conv => whnf
    refine pt_g (d := d) (k := k) (a := a) hX hS' hT' hk (by omega) hm hdl (fun g g5 hg hn => ?_) 4 0 (by omega) (fun h hh => absurd hh (Nat.not_lt_zero _))
    have hks : symK (stZ g k) := sym_P (szS_19 g g5) hk
    have eg : sgT g = szS g := by
      rcases (by omega : g = 0 ∨ g = 1 ∨ g = 2 ∨ g = 3 ∨ g = 4) with rfl | rfl | rfl | rfl | rfl <;> rfl
    have eo : xp_a2.getD g 0 = nI (bk_p (stX g)) := by
      rw [(stO_p g (by omega)).1]
      unfold stO
      rw [if_pos g5]
    refine am_run hX 5 _ _ _ _ ?_
    conv => whnf
    refine ⟨vp_in_nI (by show g < 7; omega) (by decide), ?_⟩
    conv => whnf
    rw [nI_clamp (n := g) (by omega)]
    refine am_c0 (ct_putL (d := d + 3) (M := N) (l := u) (x := stX g) eo (by omega)) ?_
    obtain ⟨hS2, hT2⟩ := drA_d (u := u ++ [stX g]) hS hT
    refine am_run hX 4 _ _ _ _ ?_
    conv => whnf
    refine am_c1 (ct_stF (d := d + 3) (t := g) (by omega) hk.1 hS2) ?_
    rw [eg]
    refine am_run hX 3 _ _ _ _ ?_
    conv => whnf
    rw [nI_d1]
    refine ih (stZ g k) (u ++ [stX g]) _ hks (by omega) hg (by rw [List.length_append]; show u.length + 1 + a ≤ 300; omega) (fun w hw => ?_)
    have := hP (g :: w) ⟨g5, by omega, hg, hn, hw⟩
    rw [List.append_assoc]
    exact this
set_option maxRecDepth 100000 in
theorem pt_s {P : am_Q} {X : am_X} {k : K4} (hX : am_K (d + 5) false nm_X2_putShortest P X) (hk : symK k) (hK : ∀ N m, spW4 M N → m ≤ 14 → N.1 57 9 = nI m → stpd N → tbD N m → dOf N k ≠ 0 → ∀ v, X 107 [some (aR 57), some (aR 9), some (aI (nI c)), some (aI (nI (kK k))), v, none] [] N) : ∀ (j m : Nat) (N : mm_M), m + j = 14 → spW4 M N → N.1 57 9 = nI m → stpd N → tbD N m → X 80 [some (aR 57), some (aR 9), some (aI (nI c)), some (aI (nI (kK k))), some (aI (nI m)), none] [] N := by
  intro j
  induction j with
  | zero =>
    intro m N hj hF h9 hS hT
    obtain rfl : m = 14 := by omega
    refine am_run hX 3 _ _ _ _ ?_
    conv => whnf
    refine ⟨fun _ => ?_, fun z => absurd (by decide) z⟩
    obtain ⟨x, x1, x2⟩ := dlx_e hk
    exact hK N 14 hF (by decide) h9 hS hT (by rw [hT.2 k x hk x1 x2]; omega) _
  | succ j ih =>
    intro m N hj hF h9 hS hT
    have m14 : m < 14 := by omega
    have hlt : dOf N k < 16 := nb_lt _ _
    refine am_run hX 3 _ _ _ _ ?_
    conv => whnf
    refine ⟨fun z => absurd z (nI_ge (a := m) (b := 14) m14 (by decide)), fun _ => ?_⟩
    refine am_run hX 3 _ _ _ _ ?_
    conv => whnf
    refine am_c1 (ct_dO (d := d + 1) (M := N) hk) ?_
    refine am_run hX 1 _ _ _ _ ?_
    conv => whnf
    rw [show (0 : Int32) = nI 0 from rfl, nI_eq (by omega) (by decide)]
    refine ⟨fun z => hK N m hF (by omega) h9 hS hT z _, fun z => ?_⟩
    refine am_run hX 3 _ _ _ _ ?_
    conv => whnf
    refine am_cq (ct_spF (d := d) (M := N) m14 hS hT) ?_
    rintro r1 N1 ⟨rfl, f1, f2, f3, f4⟩
    refine ⟨none, rfl, ?_⟩
    refine am_run hX 2 _ _ _ _ ?_
    conv => whnf
    rw [nI_1]
    exact ih (m + 1) N1 (by omega) (spW4_t hF f1) f4 f2 f3
set_option maxRecDepth 100000 in
theorem pt_o {P : am_Q} {X : am_X} {l : List bk_X} (hX : am_K (d + 5) false nm_X2_putShortest P X) (hb : bk_iv M n) (hc : c < n) (hC : bk_c M c 2 l.length) (hl : opsL M c 2 l) (ho : allO 2 l) (h0 : ¬ plA l → ∀ N k, f4F M N → fr4 N k → P (.inl (some (aI 0))) N) (hK : plA l → ∀ N v4, f4F M N → fr4 N (szA (szV (l.map gC)) k4e) → X 65 [some (aR 57), some (aR 9), some (aI (nI c)), some (aI (nI 0 + -1)), v4, none] [] N) : ∀ (j : Nat) (N : mm_M) (v4 : Option am_V), j ≤ l.length → f4F M N → (∀ i, j ≤ i → i < l.length → plB (zg l i) = true) → fr4 N (szA (szV ((l.drop j).map gC)) k4e) → X 25 [some (aR 57), some (aR 9), some (aI (nI c)), some (aI (nI j + -1)), v4, none] [] N := by
  have hl3 := hl.2.2.1
  intro j
  induction j with
  | zero =>
    intro N v4 hj hF hp h4
    refine am_run hX 2 _ _ _ _ ?_
    conv => whnf
    refine ⟨fun _ => ?_, fun z => absurd (by decide) z⟩
    exact hK (fun i hi => hp i (Nat.zero_le _) hi) N v4 hF h4
  | succ j ih =>
    intro N v4 hj hF hp h4
    have jl : j < l.length := hj
    obtain ⟨jw, jo⟩ := hl.2.2.2 j jl
    have bF : ∀ k, k ≤ 12 ∨ (110 ≤ k) → N.1 k = M.1 k := fun k hk => hF.1 k (by omega)
    have hbN : bk_iv N n := by
      obtain ⟨a, b, c', e⟩ := hb
      refine ⟨a, by rw [bF 9 (by decide)]; exact b, by rw [hF.1 108 (by decide)]; exact c', fun i hi => ?_⟩
      obtain ⟨W, S, k⟩ := e i hi
      refine ⟨W, S, ?_⟩
      unfold bk_c bk_o at k ⊢
      rw [bF 10 (by decide), bF 11 (by decide), bF 12 (by decide), bF 110 (by decide), bF 111 (by decide), bF 112 (by decide), bF 113 (by decide), bF 114 (by decide), bF 115 (by decide), bF 116 (by decide), bF 117 (by decide)]
      exact k
    have hCN : bk_c N c 2 l.length := by
      unfold bk_c bk_o at hC ⊢
      rw [bF 10 (by decide), bF 11 (by decide), bF 12 (by decide), bF 110 (by decide), bF 111 (by decide), bF 112 (by decide), bF 113 (by decide), bF 114 (by decide), bF 115 (by decide), bF 116 (by decide), bF 117 (by decide)]
      exact hC
    have eo : N.1 10 (300 * c + j) = nI (bk_p (zg l j)) := by
      rw [bF 10 (by decide)]
      exact jo.1
    have key := bk_at (d := d + 2) (M := N) hbN hc hCN jl
    rw [eo] at key
    rw [nI_d1]
    refine am_run hX 2 _ _ _ _ ?_
    conv => whnf
    refine ⟨fun z => absurd z (nI_n0 (by omega)), fun _ => ?_⟩
    refine am_run hX 4 _ _ _ _ ?_
    conv => whnf
    refine am_c1 key ?_
    refine am_run hX 3 _ _ _ _ ?_
    conv => whnf
    refine am_c1 (ct_isCl (d := d + 3) (W := 2) (by decide) jw) ?_
    refine am_run hX 1 _ _ _ _ ?_
    conv => whnf
    cases hpl : plB (zg l j) with
    | false =>
      refine ⟨fun z => absurd rfl z, fun _ => ?_⟩
      refine am_run hX 2 _ _ _ _ ?_
      conv => whnf
      exact ⟨rfl, h0 (fun w => by have := w j jl; rw [hpl] at this; exact absurd this (by decide)) N _ hF h4⟩
    | true =>
      refine ⟨fun _ => ?_, fun z => absurd (by decide) z⟩
      have hog := (ho j jl).1
      obtain ⟨q1, q2⟩ := gC_iv hog (plB_p hpl)
      refine am_run hX 4 _ _ _ _ ?_
      conv => whnf
      refine am_c1 (ct_iv (d := d + 3) (W := 2) (by decide) jw) ?_
      refine am_run hX 1 _ _ _ _ ?_
      conv => whnf
      refine am_cq (ct_t4O (d := d + 1) (x := ivX (zg l j)) (og_iv hog) q2 (szA_k _ k4e_k) h4) ?_
      rintro r1 N1 ⟨rfl, f1, f2⟩
      refine ⟨none, rfl, ?_⟩
      rw [q1, ← drz_c jl] at f2
      refine am_run hX 2 _ _ _ _ ?_
      conv => whnf
      refine ih N1 _ (by omega) (f4F_t hF f1) (fun i a b => ?_) f2
      by_cases e : i = j
      · rw [e]
        exact hpl
      · exact hp i (by omega) b
end SHA1
theorem dvcF_h {M N : mm_M} (h : shF M N) : dvcF M N := ⟨fun k _ b => h.1 k (by omega), fun k a => h.2.1 k (by omega), fun k a => h.1 k (by omega), by rw [h.1 9 (by decide)], h.2.2⟩
set_option maxRecDepth 100000 in
theorem shC_Z : shC scZ shZ := by
  intro D n c W l hs hb hc hC hl ho ok hd
  have hn := hb.1
  have hl3 := hl.2.2.1
  refine ⟨rfl, rfl, rfl, fun X hX => am_run hX 6 _ _ _ _ ?_⟩
  conv => whnf
  refine ⟨vp_in_nI (by show c < 20; omega) (by decide), ?_⟩
  conv => whnf
  rw [nI_clamp (n := c) (by omega), hC.2.2.2.1, show (2 : Int32) = nI 2 from rfl, nI_eq (by have := hC.2.1; omega) (by decide)]
  refine ⟨fun w2 => ?_, fun w2 => ?_⟩
  · subst w2
    obtain ⟨⟨v, v4, hv⟩, hs2⟩ := hs
    refine am_run hX 2 _ _ _ _ ?_
    conv => whnf
    refine am_cq (ct_sF (d := 996) hv v4) ?_
    rintro r0 D1 ⟨rfl, f0, g0⟩
    refine ⟨none, rfl, ?_⟩
    have sc1 : ∀ N k, f4F D N → fr4 N k → scZ N := fun N k a b => ⟨⟨4, Nat.le_refl _, b.1⟩, hs2.elim (fun h => Or.inl ⟨by rw [a.1 57 (by decide)]; exact h.1, fun r hr => by rw [a.2]; exact h.2 r hr⟩) (fun h => by
      obtain ⟨m, m1, m2, m3, m4⟩ := h
      exact Or.inr ⟨m, m1, by rw [a.1 57 (by decide)]; exact m2, fun i hi => by rw [a.1 62 (by decide)]; exact m3 i hi, tbD_F m4 (a.1 63 (by decide)) (by rw [a.2])⟩)⟩
    refine am_run hX 7 _ _ _ _ ?_
    conv => whnf
    refine ⟨vp_in_nI (by show c < 20; omega) (by decide), ?_⟩
    conv => whnf
    rw [nI_clamp (n := c) (by omega), f0.1 11 (by decide), hl.1, nI_s1']
    refine pt_o (d := 993) (M := D) (n := n) (l := l) hX hb hc hC hl ho (fun hp N k a b => ⟨dvcF_h (shF_4 a), sc1 N k a b, Or.inr ⟨fun z => hp z.2, rfl⟩⟩) (fun hp N v4 a b => ?_) l.length D1 none (Nat.le_refl _) f0 (fun i a b => by omega) (by rw [List.drop_length]; exact g0)
    have hu := al_C ho hp
    have hks := sym_A (szV (l.map gC)) k4e (szV_19 hu) sym_e
    generalize hk : szA (szV (l.map gC)) k4e = k at *
    refine am_run hX 2 _ _ _ _ ?_
    conv => whnf
    refine am_c1 (ct_kF (d := 997) hks.1 b) ?_
    refine am_run hX 3 _ _ _ _ ?_
    conv => whnf
    refine am_cq (ct_prep (d := 993) (M := N) hks.1 b (sc1 N k a b).2) ?_
    rintro r2 N2 ⟨rfl, f2, g2, m, m1, m2, m3, m4⟩
    refine ⟨none, rfl, ?_⟩
    refine am_run hX 3 _ _ _ _ ?_
    conv => whnf
    rw [m2]
    refine pt_s (d := 993) (M := N2) (k := k) hX hks (fun N3 m' f3 q1 q2 q3 q4 q5 v => ?_) (14 - m) m N2 (by omega) (spW4_r N2) m2 m3 m4
    obtain ⟨x, x1, x2, x3⟩ := tb_k q4 hks q5
    have hlt : dOf N3 k < 16 := nb_lt _ _
    have hd3 : drw N3 [] := drw_f hd (by rw [f3.1 9 (by decide) (by decide), f2.1 9 (by decide), a.1 9 (by decide)]) (by rw [f3.1 13 (by decide) (by decide), f2.1 13 (by decide), a.1 13 (by decide)])
    refine am_run hX 3 _ _ _ _ ?_
    conv => whnf
    refine am_c1 (ct_dO (d := 994) (M := N3) hks) ?_
    rw [x3]
    refine am_run hX 3 _ _ _ _ ?_
    conv => whnf
    rw [nI_s1 _ (by omega), Nat.add_sub_cancel]
    have key := pt_w (d := 994) (c := c) (N := N3) hX q3 q4 q1 x k [] none hks x1 x2 (by show 0 + x ≤ 300; omega) (fun w hw => by
      rw [List.nil_append]
      have hL : isL (l.map gC) w := isL_G (d := x) hu (by rw [hk]; exact x2) (by rw [hk]; exact hw)
      have ff : dvcF D N3 := dvcF_t (dvcF_t (dvcF_h (shF_4 a)) (dvcF_h f2)) (dvcF_h (shF_w f3))
      refine ⟨dvcF_t ff (dvcF_m (mrF_d (dfF_l N3 _))), ?_, Or.inl ⟨⟨rfl, hp⟩, rfl, ?_⟩⟩
      · refine scZ_F (M := N3) ⟨⟨4, Nat.le_refl _, by rw [f3.1 58 (by decide) (by decide)]; exact g2⟩, Or.inr ⟨m', q1, q2, q3, q4⟩⟩ (by rw [dl_r _ _ (by decide) (by decide)]) (fun k' c1 c2 => dl_r _ _ (by omega) (by omega)) rfl
      · rw [shZ_w hL]
        exact drw_l N3 _)
    rw [drw_d hd3] at key
    exact key
  · refine am_run hX 2 _ _ _ _ ?_
    conv => whnf
    exact ⟨rfl, dvcF_h (shF_r D), hs, Or.inr ⟨fun z => w2 z.1, rfl⟩⟩
