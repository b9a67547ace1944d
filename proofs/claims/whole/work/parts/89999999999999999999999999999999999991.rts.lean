/-! ROUTE: the class traces the WAY -/
section RTS1
variable {d : Nat} {M : mm_M} {n c W : Nat} {l : List bk_X} {Lk : Nat → Nat → Bool}
/-- layers of all OPS on two WIRES from i on are kept -/
def lyA (N : mm_M) (W : Nat) (l : List bk_X) (Lk : Nat → Nat → Bool) (i : Nat) : Prop := ∀ j, i ≤ j → j < l.length → rtPp l j ≠ none → ∃ g, ndR Lk (rtPp l) l.length W j g ∧ lyrM N W j g
theorem kD_m {a b : Nat} (ha : 1 ≤ a) (ha2 : a ≤ 999) (hb : b ≤ 1000) (h1 : b ≤ a + 1) (h2 : a ≤ b + 1) : kD b = (kD a + 2) % 3 ↔ b + 1 = a := by
  unfold kD NKn
  rw [if_neg (by omega), if_neg (by omega)]
  omega
/-- what is told of a state that is not yet at the end -/
theorem st_f {k : List Nat × Nat} {m : Nat} (hC : rtC Lk (rtPp l) l.length k) (hS : k.2 ≤ l.length) (hd : dlV (rtS Lk (rtPp l) l.length) (rtV Lk) (rtG l.length) k (m + 1)) : k.2 < l.length ∧ rtQq Lk (rtPp l) k.1 k.2 = false ∧ rtPp l k.2 ≠ none ∧ ndP Lk (rtPp l) l.length k.2 k.1 (m + 1) := by
  have lt : k.2 < l.length := by
    apply Classical.byContradiction
    intro z
    have hg : rtG l.length k := by show k.2 = l.length; omega
    have := hd.2 [] alV_0 hg
    exact absurd this (by show ¬ m + 1 ≤ 0; omega)
  have hq := rtC_n hC lt
  refine ⟨lt, hq, fun z => ?_, ?_⟩
  · unfold rtQq at hq
    rw [z] at hq
    have hq : true = false := hq
    exact absurd hq (by decide)
  · unfold ndP kst
    rw [hC]
    exact hd
set_option maxRecDepth 200000 in
theorem tp_t {P : am_Q} {X : am_X} {k : List Nat × Nat} {m : Nat} {g : Nat → Nat} {N : mm_M} {v3 v4 v8 : Int32} (hX : am_K (d + 4) false nm_X7_tracePath P X) (hW : W ≤ 6) (ha : arr W k.1) (hS : k.2 < l.length) (h3 : l.length ≤ 300) (hm : m + 1 ≤ 300) (hq : rtQq Lk (rtPp l) k.1 k.2 = false) (hd : ndP Lk (rtPp l) l.length k.2 k.1 (m + 1)) (hg : ndR Lk (rtPp l) l.length W k.2 g) (hL : lyrM N W k.2 g) (hln : lnK N Lk) (hB : nbM N W Lk (cnW W)) (hK : ∀ t, t < 15 → rtV Lk (eT t) → dlV (rtS Lk (rtPp l) l.length) (rtV Lk) (rtG l.length) (rtS Lk (rtPp l) l.length (eT t) k) m → (∀ s, s < t → rtV Lk (eT s) → ¬ dlV (rtS Lk (rtPp l) l.length) (rtV Lk) (rtG l.length) (rtS Lk (rtPp l) l.length (eT s) k) m) → X 116 [some (aR 70), some (aR 9), some (aI (nI c)), some (aI v3), some (aI v4), some (aI (nI W)), some (aI (nI (pk8 k.1))), some (aI (nI k.2)), some (aI v8), some (aI (nI (rkP k.1))), some (aI (nI ((kD (m + 1) + 2) % 3))), some (aI (nI t))] [] N) : ∀ (j t : Nat), t + j = 14 → (∀ s, s < t → rtV Lk (eT s) → ¬ dlV (rtS Lk (rtPp l) l.length) (rtV Lk) (rtG l.length) (rtS Lk (rtPp l) l.length (eT s) k) m) → X 75 [some (aR 70), some (aR 9), some (aI (nI c)), some (aI v3), some (aI v4), some (aI (nI W)), some (aI (nI (pk8 k.1))), some (aI (nI k.2)), some (aI v8), some (aI (nI (rkP k.1))), some (aI (nI ((kD (m + 1) + 2) % 3))), some (aI (nI t))] [] N := by
  have hr := (rkP_u hW ha).1
  have hu := (rkP_u hW ha).2
  have stp : ∀ e, rtS Lk (rtPp l) l.length e k = kst Lk (rtPp l) l.length k.2 (k.1.map (swx e)) := fun e => rfl
  -- a LINK that is there: its layer's number
  have see : ∀ t, t < 15 → rtV Lk (eT t) → (kD (g (nbR W Lk (rkP k.1) t)) = (kD (m + 1) + 2) % 3 ↔ dlV (rtS Lk (rtPp l) l.length) (rtV Lk) (rtG l.length) (rtS Lk (rtPp l) l.length (eT t) k) m) := by
    intro t ht hv
    have ha' := arr_s hv.1 hv.2.1 ha
    obtain ⟨b, b1, b2⟩ := nd_b (by omega) ha hv hd
    obtain ⟨a, a1, a2⟩ := nd_l (p := k.1) (by omega) hv b2
    have ea := nd_u a2 hd
    have e1 : nbR W Lk (rkP k.1) t = rkP (k.1.map (swx (eT t))) := by
      unfold nbR
      rw [if_pos hv.2.2, hu]
    have hv' := hg _ (rkP_u hW ha').1
    rw [(rkP_u hW ha').2] at hv'
    have eg := ndv_e hv' (by omega) b2
    rw [e1, eg, kD_m (by omega) (by omega) (by omega) (by omega) (by omega), stp]
    exact ⟨fun z => by
      have : b = m := by omega
      rw [← this]
      exact b2, fun z => by
      have := nd_u b2 z
      omega⟩
  intro j
  induction j with
  | zero =>
    intro t ht hn
    obtain rfl : t = 14 := by omega
    refine am_run hX 3 _ _ _ _ ?_
    conv => whnf
    refine ⟨fun _ => ?_, fun z => absurd (by decide) z⟩
    obtain ⟨e, he, q⟩ := nd_f hq hd
    obtain ⟨k1, k2⟩ := eT_s e he.1 he.2.1
    have : kkN e = 14 := Classical.byContradiction fun z => hn (kkN e) (by omega) (by rw [k2]; exact he) (by rw [k2, stp]; exact q)
    rw [this] at k2
    exact hK 14 (by decide) (by rw [k2]; exact he) (by rw [k2, stp]; exact q) hn
  | succ j ih =>
    intro t ht hn
    have t14 : t < 14 := by omega
    obtain ⟨_, _, x3, x4⟩ := eT_f t (by omega)
    have next : (rtV Lk (eT t) → ¬ dlV (rtS Lk (rtPp l) l.length) (rtV Lk) (rtG l.length) (rtS Lk (rtPp l) l.length (eT t) k) m) → X 110 [some (aR 70), some (aR 9), some (aI (nI c)), some (aI v3), some (aI v4), some (aI (nI W)), some (aI (nI (pk8 k.1))), some (aI (nI k.2)), some (aI v8), some (aI (nI (rkP k.1))), some (aI (nI ((kD (m + 1) + 2) % 3))), some (aI (nI t))] [] N := by
      intro h
      refine am_run hX 2 _ _ _ _ ?_
      conv => whnf
      rw [nI_1]
      refine ih (t + 1) (by omega) (fun s hs hv => ?_)
      by_cases e : s = t
      · rw [e] at hv ⊢
        exact h hv
      · exact hn s (by omega) hv
    refine am_run hX 3 _ _ _ _ ?_
    conv => whnf
    refine ⟨fun z => absurd z (nI_ge (a := t) (b := 14) t14 (by decide)), fun _ => ?_⟩
    refine am_run hX 3 _ _ _ _ ?_
    conv => whnf
    refine am_c1 (ct_hasL (d := d + 3) hln (by omega)) ?_
    refine am_run hX 1 _ _ _ _ ?_
    conv => whnf
    cases hv : Lk (eT t / 6) (eT t % 6) with
    | false =>
      refine ⟨fun _ => ?_, fun z => absurd rfl z⟩
      exact next (fun z => by have := z.2.2; rw [hv] at this; exact absurd this (by decide))
    | true =>
      have hV : rtV Lk (eT t) := ⟨x3, x4, hv⟩
      refine ⟨fun z => absurd z (by decide), fun _ => ?_⟩
      refine am_run hX 6 _ _ _ _ ?_
      conv => whnf
      refine am_c1 (ct_nbO (d := d + 3) hW hr (by omega) hB) ?_
      refine am_run hX 1 _ _ _ _ ?_
      conv => whnf
      refine am_c1 (ct_kptN (d := d + 3) (op := k.2) hW (nbR_l hW hr (by omega)) (by omega) hL) ?_
      have k4 := kD_4 (g (nbR W Lk (rkP k.1) t))
      refine am_run hX 2 _ _ _ _ ?_
      conv => whnf
      rw [nI_eq (by omega) (by omega), see t (by omega) hV]
      refine ⟨fun z => hK t (by omega) hV z hn, fun z => next (fun _ => z)⟩
/-- what tracing leaves alone -/
def tpF (M N : mm_M) : Prop := (∀ k, k ≠ 73 → N.1 k = M.1 k) ∧ N.2 = M.2
theorem tpF_w {M N : mm_M} (h : tpF M N) : rwyF M N := ⟨fun k a _ _ => h.1 k a, fun k _ _ => by rw [h.2]⟩
set_option maxRecDepth 200000 in
theorem tp_l {P : am_Q} {X : am_X} {s : Nat} {v4 : Int32} (hX : am_K (d + 4) false nm_X7_tracePath P X) (h : rtD M n c W l Lk) (hA : arM M W (cnW W)) (hB : nbM M W Lk (cnW W)) (hs : s ≤ 300) {i0 : Nat} (hL : lyA M W l Lk i0) : ∀ (m : Nat) (k : List Nat × Nat) (u : List Nat) (N : mm_M) (v9 v10 v11 : Option am_V), u.length + m = s → tpF M N → (∀ j, j < u.length → N.1 73 j = nI (kkN (u.getD j 0))) → arr W k.1 → k.2 ≤ l.length → i0 ≤ k.2 → rtC Lk (rtPp l) l.length k → dlV (rtS Lk (rtPp l) l.length) (rtV Lk) (rtG l.length) k m → (∀ N' w, tpF M N' → grV (rtS Lk (rtPp l) l.length) (rtV Lk) (rtG l.length) k m w → (∀ j, j < (u ++ w).length → N'.1 73 j = nI (kkN ((u ++ w).getD j 0))) → P (.inl none) N') → X 22 [some (aR 70), some (aR 9), some (aI (nI c)), some (aI (nI s)), some (aI v4), some (aI (nI W)), some (aI (nI (pk8 k.1))), some (aI (nI k.2)), some (aI (nI u.length)), v9, v10, v11] [] N := by
  have hW := h.2.2.1.2
  have hl3 := h.2.2.2.2.1.2.2.1
  have n20 := h.1.1
  have hc := h.2.1
  intro m
  induction m with
  | zero =>
    intro k u N v9 v10 v11 hu hF hp ha hS hi hC hd hP
    refine am_run hX 3 _ _ _ _ ?_
    conv => whnf
    refine ⟨fun _ => ?_, fun z => absurd (nI_le (by omega) (by omega)) z⟩
    refine am_run hX 1 _ _ _ _ ?_
    conv => whnf
    exact ⟨trivial, hP N [] hF rfl (by rw [List.append_nil]; exact hp)⟩
  | succ m ih =>
    intro k u N v9 v10 v11 hu hF hp ha hS hi hC hd hP
    obtain ⟨lt, hq, ho, hnd⟩ := st_f hC hS hd
    obtain ⟨g, g1, g2⟩ := hL k.2 hi lt ho
    have g2' : lyrM N W k.2 g := by unfold lyrM at g2 ⊢; rw [hF.2]; exact g2
    have hN := rtD_f (tpF_w hF) h
    have hB' : nbM N W Lk (cnW W) := by unfold nbM at hB ⊢; rw [hF.2]; exact hB
    have c7 := (cnW_7 W (by omega)).1
    have hr := (rkP_u hW ha).1
    have hu' := (rkP_u hW ha).2
    have eg : g (rkP k.1) = m + 1 := by
      have := g1 _ hr
      rw [hu'] at this
      exact ndv_e this (by omega) hnd
    have u3 : u.length < 301 := by omega
    refine am_run hX 3 _ _ _ _ ?_
    conv => whnf
    refine ⟨fun z => absurd z (nI_ge (by omega) (by omega)), fun _ => ?_⟩
    refine am_run hX 5 _ _ _ _ ?_
    conv => whnf
    refine ⟨fun z => absurd z (nI_ge (a := u.length) (b := 301) u3 (by decide)), fun _ => ?_⟩
    refine am_run hX 6 _ _ _ _ ?_
    conv => whnf
    refine ⟨vp_in_nI (by show c < 20; omega) (by decide), ?_⟩
    conv => whnf
    rw [nI_clamp (n := c) (by omega), hN.2.2.2.2.1.1]
    refine ⟨fun z => absurd z (nI_ge lt (by omega)), fun _ => ?_⟩
    refine am_run hX 3 _ _ _ _ ?_
    conv => whnf
    refine am_c1 (ct_rkP (d := d + 2) hW ha) ?_
    refine am_run hX 5 _ _ _ _ ?_
    conv => whnf
    refine am_c1 (ct_kptN (d := d + 3) (op := k.2) hW hr (by omega) g2') ?_
    rw [eg]
    have k4 := kD_4 (m + 1)
    refine am_run hX 5 _ _ _ _ ?_
    conv => whnf
    refine ⟨by decide, ?_⟩
    conv => whnf
    rw [show nI (kD (m + 1)) + 2 = nI (kD (m + 1) + 2) from by rw [show (2 : Int32) = nI 2 from rfl, nI_add], show (3 : Int32) = nI 3 from rfl, nI_rm (by omega) (by decide)]
    refine am_run hX 2 _ _ _ _ ?_
    conv => whnf
    refine tp_t (d := d) (c := c) (k := k) (m := m) (g := g) (N := N) hX hW ha lt hl3 (by omega) hq hnd g1 g2' hN.2.2.2.2.2.2.2.2 hB' (fun t t15 hV hdt hmin => ?_) 14 0 (by omega) (fun s hs => absurd hs (Nat.not_lt_zero _))
    have ha' := arr_s hV.1 hV.2.1 ha
    have e1 : nbR W Lk (rkP k.1) t = rkP (k.1.map (swx (eT t))) := by
      unfold nbR
      rw [if_pos hV.2.2, hu']
    have ru := rkP_u hW ha'
    refine am_run hX 5 _ _ _ _ ?_
    conv => whnf
    refine ⟨vp_in_nI (by show u.length < 301; omega) (by decide), ?_⟩
    rw [nI_clamp (n := u.length) (by omega)]
    generalize hN1 : mm_i N 73 _ = N1
    have f1 : tpF M N1 := ⟨fun j hj => by rw [← hN1, mm_ne _ _ _ _ hj]; exact hF.1 j hj, by rw [← hN1]; exact hF.2⟩
    have hB1 : nbM N1 W Lk (cnW W) := by unfold nbM at hB ⊢; rw [f1.2]; exact hB
    have hN1' := rtD_f (tpF_w f1) h
    refine am_run hX 6 _ _ _ _ ?_
    conv => whnf
    refine am_c1 (ct_nbO (d := d + 3) hW hr t15 hB1) ?_
    rw [e1]
    refine am_run hX 2 _ _ _ _ ?_
    conv => whnf
    refine ⟨vp_in_nI (by show _ < 720; omega) (by decide), ?_⟩
    conv => whnf
    rw [nI_clamp (n := rkP (k.1.map (swx (eT t)))) (by omega), f1.1 74 (by decide), hA _ ru.1, ru.2]
    refine am_run hX 6 _ _ _ _ ?_
    conv => whnf
    refine am_c1 (ct_adv (d := d) (M := N1) hN1' ha' hS) ?_
    refine am_run hX 3 _ _ _ _ ?_
    conv => whnf
    rw [nI_1]
    have hk73 : ∀ j, j < (u ++ [eT t]).length → N1.1 73 j = nI (kkN ((u ++ [eT t]).getD j 0)) := by
      intro j hj
      rw [List.length_append] at hj
      have hj : j < u.length + 1 := hj
      rw [← hN1, mm_i1]
      by_cases q : j = u.length
      · rw [q, gd_r, up_at]
        have : ∀ t, t < 15 → kkN (eT t) = t := by decide
        rw [this t t15]
      · rw [up_ne q, gd_l (by omega)]
        exact hp j (by omega)
    have key := ih (rtS Lk (rtPp l) l.length (eT t) k) (u ++ [eT t]) N1 (some (aI (nI (rkP k.1)))) (some (aI (nI ((kD (m + 1) + 2) % 3)))) (some (aI (nI t))) (by rw [List.length_append]; show u.length + 1 + m = s; omega) f1 hk73 ha' (ad_le hS) (Nat.le_trans hi (ad_ge _)) (rtC_s _ _) hdt (fun N' w a b e => by
      refine hP N' (eT t :: w) a ⟨hV, by omega, hdt, fun h' hh hv' => ?_, b⟩ ?_
      · obtain ⟨k1, k2⟩ := eT_s h' hv'.1 hv'.2.1
        have := hmin (kkN h') ((eT_m _ k1 _ t15).mpr (by rw [k2]; exact hh)) (by rw [k2]; exact hv')
        rw [k2] at this
        exact this
      · rw [List.append_assoc] at e
        exact e)
    rw [List.length_append] at key
    exact key
end RTS1
