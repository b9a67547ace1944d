/-! ROUTE: the reference's route, from its top -/
/-- can be ROUTED -/
def rtE (W : Nat) (l : List bk_X) : Prop := purL l ∧ W ≤ 6 ∧ ∀ j, j < l.length → wnX (zg l j) ≤ 2
/-- the least WAY -/
def rtY (W : Nat) (l : List bk_X) (Lk : Nat → Nat → Bool) (w : List Nat) : Prop := alV (rtV Lk) w ∧ rtG l.length (awS (rtS Lk (rtPp l) l.length) w (rt0 Lk (rtPp l) l.length W)) ∧ ∀ v, alV (rtV Lk) v → rtG l.length (awS (rtS Lk (rtPp l) l.length) v (rt0 Lk (rtPp l) l.length W)) → slx w v
theorem rtY_u {W : Nat} {l : List bk_X} {Lk : Nat → Nat → Bool} {w w' : List Nat} (h : rtY W l Lk w) (g : rtY W l Lk w') : w = w' := slx_u (h.2.2 w' g.1 g.2.1) (g.2.2 w h.1 h.2.1)
section RTI
variable {d : Nat} {M : mm_M} {b c W : Nat} {l : List bk_X} {Lk : Nat → Nat → Bool}
set_option maxRecDepth 100000 in
theorem cr_l {P : am_Q} {X : am_X} (hX : am_K (d + 2) false nm_X12_canBeRouted P X) (hc : c < 20) (hW : W ≤ 8) (hl : opsL M c W l) (h1 : (∀ j, j < l.length → wnX (zg l j) ≤ 2) → P (.inl (some (aI 1))) M) (h0 : ¬ (∀ j, j < l.length → wnX (zg l j) ≤ 2) → P (.inl (some (aI 0))) M) : ∀ (m k : Nat), k + m = l.length → (∀ j, j < k → wnX (zg l j) ≤ 2) → X 27 [some (aR 108), some (aI (nI c)), some (aI (nI (300 * c + k)))] [] M := by
  have hl3 := hl.2.2.1
  have w8 := w256 hW
  have e3 : (300 : Int32) * nI c + nI l.length = nI (300 * c + l.length) := by rw [show (300 : Int32) = nI 300 from rfl, nI_mul, nI_add]
  intro m
  induction m with
  | zero =>
    intro k hk hM
    obtain rfl : k = l.length := by omega
    refine am_run hX 10 _ _ _ _ ?_
    conv => whnf
    refine ⟨vp_in_nI (by show c < 21; omega) (by decide), ?_⟩
    conv => whnf
    rw [nI_clamp (n := c) (by omega), hl.2.1, e3]
    refine ⟨fun _ => ?_, fun z => absurd (nI_le (Nat.le_refl _) (by omega)) z⟩
    refine am_run hX 2 _ _ _ _ ?_
    conv => whnf
    exact ⟨rfl, h1 hM⟩
  | succ m ih =>
    intro k hk hM
    have kl : k < l.length := by omega
    obtain ⟨ow, _, o2, _, _, o5, _⟩ := hl.2.2.2 k kl
    have c8 := ow.2.2.2.1
    have hin : vp_in (nI (300 * c + k)) 6300 := vp_in_nI (by omega) (by decide)
    have wl : wnX (zg l k) < 100 := by
      have := pc_b (zg l k).2.2.2.1
      unfold wnX
      split <;> omega
    refine am_run hX 10 _ _ _ _ ?_
    conv => whnf
    refine ⟨vp_in_nI (by show c < 21; omega) (by decide), ?_⟩
    conv => whnf
    rw [nI_clamp (n := c) (by omega), hl.2.1, e3]
    refine ⟨fun z => absurd z (nI_ge (by omega) (by omega)), fun _ => ?_⟩
    refine am_run hX 9 _ _ _ _ ?_
    conv => whnf
    refine ⟨hin, ?_⟩
    conv => whnf
    refine ⟨hin, ?_⟩
    conv => whnf
    rw [nI_clamp (n := 300 * c + k) (by omega), o2, o5]
    refine am_c1 (ct_wOfR (d := d) ow.1 (by omega)) ?_
    refine am_run hX 2 _ _ _ _ ?_
    conv => whnf
    refine ⟨fun z => ?_, fun z => ?_⟩
    · have hw : wnX (zg l k) ≤ 2 := Classical.byContradiction fun q => absurd z (nI_ge (a := 2) (b := wnX (zg l k)) (by omega) (by omega))
      refine am_run hX 2 _ _ _ _ ?_
      conv => whnf
      rw [nI_1]
      refine ih (k + 1) (by omega) (fun j hj => ?_)
      by_cases e : j = k
      · rw [e]
        exact hw
      · exact hM j (by omega)
    · refine am_run hX 2 _ _ _ _ ?_
      conv => whnf
      exact ⟨rfl, h0 (fun w => z (nI_le (a := wnX (zg l k)) (b := 2) (w k kl) (by decide)))⟩
set_option maxRecDepth 100000 in
theorem ct_canRr (hc : c < 20) (hW : W ≤ 8) (h110 : M.1 110 c = nI W) (hl : opsL M c W l) : am_M (d + 3) false nm_X12_canBeRouted [aR 108, aI (nI c)] M (fun r N => N = M ∧ ((rtE W l ∧ r = .inl (some (aI 1))) ∨ (¬ rtE W l ∧ r = .inl (some (aI 0))))) := by
  refine ⟨rfl, rfl, rfl, fun X hX => am_run hX 3 _ _ _ _ ?_⟩
  conv => whnf
  refine am_c1 (ct_isPuO (d := d + 1) hc hW hl) ?_
  refine am_run hX 1 _ _ _ _ ?_
  conv => whnf
  by_cases hp : allN (fun j => pureB (zg l j)) l.length = true
  · rw [if_pos hp]
    have hp := pur_a.mp hp
    refine ⟨fun z => absurd z (by decide), fun _ => ?_⟩
    refine am_run hX 6 _ _ _ _ ?_
    conv => whnf
    refine ⟨vp_in_nI (by show c < 21; omega) (by decide), ?_⟩
    conv => whnf
    rw [nI_clamp (n := c) (by omega), h110]
    refine ⟨fun z => ?_, fun z => ?_⟩
    · have w6 : W ≤ 6 := Classical.byContradiction fun q => absurd z (nI_ge (a := 6) (b := W) (by omega) (by omega))
      refine am_run hX 4 _ _ _ _ ?_
      conv => whnf
      rw [show (300 : Int32) * nI c = nI (300 * c + 0) from by rw [show (300 : Int32) = nI 300 from rfl, nI_mul]; rfl]
      exact cr_l (d := d) hX hc hW hl (fun h => ⟨rfl, Or.inl ⟨⟨hp, w6, h⟩, rfl⟩⟩) (fun h => ⟨rfl, Or.inr ⟨fun q => h q.2.2, rfl⟩⟩) l.length 0 (by omega) (fun j hj => absurd hj (Nat.not_lt_zero _))
    · refine am_run hX 2 _ _ _ _ ?_
      conv => whnf
      exact ⟨rfl, rfl, Or.inr ⟨fun q => z (nI_le (a := W) (b := 6) q.2.1 (by decide)), rfl⟩⟩
  · rw [if_neg hp]
    refine ⟨fun _ => ?_, fun z => absurd rfl z⟩
    refine am_run hX 2 _ _ _ _ ?_
    conv => whnf
    exact ⟨rfl, rfl, Or.inr ⟨fun q => hp (pur_a.mpr q.1), rfl⟩⟩
def ltR (M N : mm_M) : Prop := (∀ k, k ≠ 197 → N.1 k = M.1 k) ∧ N.2 = M.2
set_option maxRecDepth 100000 in
theorem tr_l {P : am_Q} {X : am_X} {n : Nat} {fr yb : Nat → Nat} {w : List Nat} {v2 : Int32} (hX : am_K d false nm_X12_route P X) (hn : n ≤ 216720) (hf : ∀ i, 0 < i → i < n → fr i < i) (h200 : ∀ i, i < n → M.1 200 i = (if i = 0 then -1 else nI (fr i)) ∧ (0 < i → M.1 201 i = nI (yb i))) (hw : w.length < 46656) (hK : ∀ (N : mm_M) (r : List Nat) (v4 : Option am_V), ltR M N → (∀ j, j < r.length → N.1 197 j = nI (r.getD j 0)) → r.reverse = w → X 89 [some (aR 108), some (aI (nI c)), some (aI v2), some (aI (nI r.length)), v4, none] [] N) : ∀ (m i : Nat) (r : List Nat) (N : mm_M), i ≤ m → i < n → ltR M N → (∀ j, j < r.length → N.1 197 j = nI (r.getD j 0)) → wdB fr yb i i ++ r.reverse = w → X 50 [some (aR 108), some (aI (nI c)), some (aI v2), some (aI (nI r.length)), some (aI (nI i)), none] [] N := by
  have h0 : ∀ (r : List Nat) (N : mm_M), 0 < n → ltR M N → (∀ j, j < r.length → N.1 197 j = nI (r.getD j 0)) → wdB fr yb 0 0 ++ r.reverse = w → X 50 [some (aR 108), some (aI (nI c)), some (aI v2), some (aI (nI r.length)), some (aI (nI 0)), none] [] N := by
    intro r N n0 hF hp e
    refine am_run hX 6 _ _ _ _ ?_
    conv => whnf
    refine ⟨vp_in_nI (n := 0) (by decide) (by decide), ?_⟩
    conv => whnf
    rw [nI_clamp (n := 0) (by decide), hF.1 200 (by decide), (h200 0 n0).1, if_pos rfl]
    refine ⟨fun _ => hK N r _ hF hp e, fun z => absurd rfl z⟩
  intro m
  induction m with
  | zero =>
    intro i r N hi hin hF hp e
    obtain rfl : i = 0 := by omega
    exact h0 r N hin hF hp e
  | succ m ih =>
    intro i r N hi hin hF hp e
    by_cases i0 : i = 0
    · subst i0
      exact h0 r N hin hF hp e
    · have fi := hf i (by omega) hin
      have ew := wd_s (yb := yb) hf (show 0 < i by omega) hin
      obtain ⟨e2, e3⟩ := h200 i hin
      rw [if_neg i0] at e2
      have e3 := e3 (by omega)
      have hr : r.length < 46656 := by
        have := congrArg List.length e
        rw [List.length_append, List.length_reverse] at this
        omega
      have hin2 : vp_in (nI i) 217000 := vp_in_nI (by omega) (by decide)
      refine am_run hX 6 _ _ _ _ ?_
      conv => whnf
      refine ⟨hin2, ?_⟩
      conv => whnf
      rw [nI_clamp (n := i) (by omega), hF.1 200 (by decide), e2]
      refine ⟨fun z => absurd z (nI_nm (by omega)), fun _ => ?_⟩
      refine am_run hX 15 _ _ _ _ ?_
      conv => whnf
      refine ⟨hin2, ?_⟩
      conv => whnf
      refine ⟨vp_in_nI (by show r.length < 46656; omega) (by decide), ?_⟩
      rw [nI_clamp (n := i) (by omega), nI_clamp (n := r.length) (by omega), hF.1 201 (by decide), e3]
      generalize hN1 : mm_i N 197 _ = N1
      have f1 : ltR M N1 := ⟨fun k hk => by rw [← hN1, mm_ne _ _ _ _ hk]; exact hF.1 k hk, by rw [← hN1]; exact hF.2⟩
      conv => whnf
      refine ⟨hin2, ?_⟩
      conv => whnf
      rw [nI_clamp (n := i) (by omega), f1.1 200 (by decide), e2, nI_1]
      have key := ih (fr i) (r ++ [yb i]) N1 (by omega) (by omega) f1 (by
        rw [← hN1, mm_i1]
        exact gd_u hp rfl rfl) (by
        rw [List.reverse_append]
        show wdB fr yb (fr i) (fr i) ++ ([yb i] ++ r.reverse) = w
        rw [← List.append_assoc, ← ew]
        exact e)
      rw [List.length_append] at key
      exact key
set_option maxRecDepth 100000 in
theorem pq_l {P : am_Q} {X : am_X} {K : mm_M} {v2 v3 : Int32} (hX : am_K d false nm_X12_route P X) (c20 : c < 20) (hW : W ≤ 6) (h110 : K.1 110 c = nI W) (hK : ∀ N, rbF K N → plR N (List.range W) → X 122 [some (aR 108), some (aI (nI c)), some (aI v2), some (aI v3), some (aI (nI W)), none] [] N) : ∀ (m k : Nat) (N : mm_M), k + m = W → rbF K N → plR N (List.range k) → X 96 [some (aR 108), some (aI (nI c)), some (aI v2), some (aI v3), some (aI (nI k)), none] [] N := by
  intro m
  induction m with
  | zero =>
    intro k N hk hF hN
    obtain rfl : k = W := by omega
    refine am_run hX 6 _ _ _ _ ?_
    conv => whnf
    refine ⟨vp_in_nI (by show c < 21; omega) (by decide), ?_⟩
    conv => whnf
    rw [nI_clamp (n := c) (by omega), hF.1 110 (by decide), h110]
    refine ⟨fun _ => hK N hF hN, fun z => absurd (nI_le (Nat.le_refl _) (by omega)) z⟩
  | succ m ih =>
    intro k N hk hF hN
    refine am_run hX 6 _ _ _ _ ?_
    conv => whnf
    refine ⟨vp_in_nI (by show c < 21; omega) (by decide), ?_⟩
    conv => whnf
    rw [nI_clamp (n := c) (by omega), hF.1 110 (by decide), h110]
    refine ⟨fun z => absurd z (nI_ge (by omega) (by omega)), fun _ => ?_⟩
    refine am_run hX 7 _ _ _ _ ?_
    conv => whnf
    refine ⟨vp_in_nI (by show k < 6; omega) (by decide), ?_⟩
    rw [nI_clamp (n := k) (by omega)]
    generalize hN1 : mm_i N 196 _ = N1
    conv => whnf
    rw [nI_1]
    refine ih (k + 1) N1 (by omega) (rbF_t hF ⟨fun j hj => by rw [← hN1, mm_ne _ _ _ _ hj], by rw [← hN1]; rfl⟩) ?_
    rw [List.range_succ]
    unfold plR
    rw [← hN1, mm_i1]
    exact gd_u hN (List.length_range).symm rfl
/-- what the reference's route comes to -/
def rrQq (M : mm_M) (b W : Nat) (l : List bk_X) (Lk : Nat → Nat → Bool) (r : am_R) (N : mm_M) : Prop := (∃ w N1, rtY W l Lk w ∧ okL (rtT W l Lk w) ∧ r = .inl (some (aI (nI b))) ∧ N = stM N1 b 6 ∧ rqG b M N1 ∧ lfn N1 b (rtT W l Lk w) ∧ N1.1 108 139 = nI w.length) ∨ ((∀ w, rtY W l Lk w → ¬ okL (rtT W l Lk w)) ∧ r = .inl (some (aI (-1))) ∧ rqF b M N)
set_option maxRecDepth 200000 in
theorem rr_t {P : am_Q} {X : am_X} (hX : am_K (d + 6) false nm_X12_route P X) (hb : b < 20) (hc : c < b) (h6 : M.1 108 6 = nI b) (h : rtH M c W l Lk) (hP : ∀ r N, rrQq M b W l Lk r N → P r N) : X 32 [some (aR 108), some (aI (nI c)), none, none, none, none] [] M := by
  have hW := h.2.1.2
  have hl3 := h.2.2.1.2.2.1
  refine am_run hX 3 _ _ _ _ ?_
  conv => whnf
  refine am_cq (ct_fWay (d := d) (M := M) h) ?_
  rintro r1 N1 ⟨f1, ⟨rfl, no⟩ | ⟨n, T, fr, yb, H, rfl, hH, hn, hT, hE, hS, hle⟩⟩
  · refine ⟨_, rfl, ?_⟩
    refine am_run hX 4 _ _ _ _ ?_
    conv => whnf
    refine ⟨fun z => absurd rfl z, fun _ => ?_⟩
    refine am_run hX 2 _ _ _ _ ?_
    conv => whnf
    exact ⟨trivial, hP _ _ (Or.inr ⟨fun w hw => absurd hw.2.1 (no w hw.1), rfl, rqF_w f1⟩)⟩
  · refine ⟨_, rfl, ?_⟩
    obtain ⟨q1, q2⟩ := rb_val hT H hH
    have hg : rtG l.length (awS (rtS Lk (rtPp l) l.length) (wdB fr yb H H) (rt0 Lk (rtPp l) l.length W)) := by
      rw [q1]
      exact hS
    have hY : rtY W l Lk (wdB fr yb H H) := ⟨q2, hg, hle⟩
    have hlen : (wdB fr yb H H).length < 46656 := by
      obtain ⟨u, u1, u2, u3⟩ := rt_short hW (rtPp_O h) q2 hg
      have := slx_n (hle u u1 u3)
      omega
    refine am_run hX 4 _ _ _ _ ?_
    conv => whnf
    refine ⟨fun _ => ?_, fun z => absurd (nI_nm (by omega)) z⟩
    refine am_run hX 4 _ _ _ _ ?_
    conv => whnf
    refine tr_l (M := N1) (c := c) (n := n) (fr := fr) (yb := yb) (w := wdB fr yb H H) (v2 := nI H) hX hn (rb_f hT) (fun i hi => ⟨(hE.2.1 i hi).2.2.2.2.1, (hE.2.1 i hi).2.2.2.2.2⟩) hlen (fun N2 r v4 f2 p2 er => ?_) H H [] N1 (Nat.le_refl _) hH ⟨fun _ _ => rfl, rfl⟩ (fun j hj => absurd hj (Nat.not_lt_zero _)) (List.append_nil _)
    have g2 : wfF M N2 := wfF_t f1 ⟨fun k _ b => f2.1 k (by omega), f2.2, fun y _ => by rw [f2.1 108 (by decide)]⟩
    refine am_run hX 2 _ _ _ _ ?_
    conv => whnf
    refine am_c0 (ct_stLL (d := d + 5) (M := N2) (n := b)) ?_
    have m3 := mqF_l (n := b) (M := N2) []
    have L3 := llw_l N2 b []
    generalize llM N2 b [] = N3 at *
    have hH3 := rtH_m m3 hc (rtH_f g2 h)
    refine am_run hX 2 _ _ _ _ ?_
    conv => whnf
    refine pq_l (K := N3) (W := W) hX (by omega) hW hH3.2.2.2.1 (fun N4 f4 p4 => ?_) W 0 N3 (by omega) (rbF_r N3) (fun w hw => absurd hw (by show ¬ w < ([] : List Nat).length; exact Nat.not_lt_zero _))
    have hH4 := rtH_f (wfF_b f4) hH3
    have L4 : llw N4 b [] := llw_f L3 (f4.1 108 (by decide)) (fun k a c => f4.1 k (by omega))
    have h64 : N4.1 108 6 = nI b := by
      rw [f4.1 108 (by decide), m3.2.2.1 6 (by decide) (by decide) (by decide), g2.2.2 6 (by decide)]
      exact h6
    refine am_run hX 4 _ _ _ _ ?_
    conv => whnf
    refine am_cq (ct_layD (d := d + 1) (M := N4) (s := 0) (L := []) hH4 hb hc h64 (arr_0 hW) p4 (Nat.zero_le _) L4) ?_
    rintro r5 N5 ⟨rfl, m5, L5⟩
    refine ⟨_, rfl, ?_⟩
    refine am_run hX 5 _ _ _ _ ?_
    conv => whnf
    rw [nI_s1']
    have rr : r.length < 46656 := by rw [← er, List.length_reverse] at hlen; exact hlen
    have rv : alV (rtV Lk) r := fun g hg => q2 g (by rw [← er]; exact List.mem_reverse.mpr hg)
    have F5 : rqF b M N5 := rqF_t (rqF_w g2) (rqF_t (rqF_m m3) (rqF_t (rqF_w (wfF_b f4)) (rqF_m m5)))
    have key := rl_l (d := d + 1) (M := M) (b := b) (c := c) (W := W) (l := l) (Lk := Lk) (r := r) (v2 := nI H) hX hb hc rr rv (fun N hF no => hP _ _ (Or.inr ⟨fun w hw => by
      rw [rtY_u hw hY, ← er]
      exact no, rfl, hF⟩)) (fun N hF ok hL _ h139 => hP _ _ (Or.inl ⟨wdB fr yb H H, N, hY, by rw [← er]; exact ok, rfl, rfl, hF, by rw [← er]; exact hL, by rw [← er, List.length_reverse]; exact h139⟩)) r.length N5 (Nat.le_refl _) F5 (by
      rw [List.drop_length]
      refine ⟨rtH_m m5 hc hH4, by rw [m5.2.2.1 6 (by decide) (by decide) (by decide)]; exact h64, fun j hj => ?_, mqF_196 m5 p4, ?_⟩
      · rw [m5.1 197 (by decide) (by decide) (by decide), f4.1 197 (by decide), m3.1 197 (by decide) (by decide) (by decide)]
        exact p2 j hj
      · show llw N5 b (sgL W (List.range W) l 0 (rt0 Lk (rtPp l) l.length W).2 ++ [])
        rw [List.append_nil]
        exact L5)
    rw [List.drop_length] at key
    exact key
end RTI
