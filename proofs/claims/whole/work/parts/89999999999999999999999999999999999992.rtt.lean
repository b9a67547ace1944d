/-! ROUTE: the class's findWay whole -/
theorem pc_w1 : ∀ s, s < 256 → 0 < s → s &&& (s - 1) = 0 → pc s = 1 := by decide +kernel
theorem pc_w2 : ∀ a, a < 6 → ∀ b, b < 6 → a ≠ b → pc (2 ^ a ||| 2 ^ b) = 2 := by decide +kernel
theorem ws_pc {o : Option (Nat × Nat)} {s : Nat} (h : wsP o s) (h0 : 0 < s) : s < 256 ∧ (pc s = 2 ↔ o ≠ none) := by
  cases o with
  | none =>
    obtain ⟨a, b⟩ := h
    exact ⟨a, by rw [pc_w1 s a h0 b]; exact ⟨fun z => absurd z (by decide), fun z => absurd rfl z⟩⟩
  | some ab =>
    obtain ⟨a, b⟩ := ab
    obtain ⟨a6, b6, ne, rfl⟩ := h
    have := (ws_2 a a6 b b6 ne).2.2.2.1
    exact ⟨by omega, ⟨fun _ z => (by cases z), fun _ => pc_w2 a a6 b b6 ne⟩⟩
section RTT
variable {d : Nat} {M : mm_M} {n c W : Nat} {l : List bk_X} {Lk : Nat → Nat → Bool}
set_option maxRecDepth 100000 in
theorem ct_tracP {s i0 : Nat} (h : rtD M n c W l Lk) (hA : arM M W (cnW W)) (hB : nbM M W Lk (cnW W)) (hs : s ≤ 300) (hi : (rt0 Lk (rtPp l) l.length W).2 = i0) (hL : lyA M W l Lk i0) (hd : dlV (rtS Lk (rtPp l) l.length) (rtV Lk) (rtG l.length) (rt0 Lk (rtPp l) l.length W) s) : am_M (d + 5) false nm_X7_tracePath [aR 70, aR 9, aI (nI c), aI (nI s), aI (nI i0)] M (fun r N => r = .inl none ∧ tpF M N ∧ ∃ w, grV (rtS Lk (rtPp l) l.length) (rtV Lk) (rtG l.length) (rt0 Lk (rtPp l) l.length W) s w ∧ ∀ j, j < w.length → N.1 73 j = nI (kkN (w.getD j 0))) := by
  have hW := h.2.2.1.2
  have n20 := h.1.1
  have hc := h.2.1
  subst hi
  refine ⟨rfl, rfl, rfl, fun X hX => am_run hX 5 _ _ _ _ ?_⟩
  conv => whnf
  refine ⟨vp_in_nI (by show c < 20; omega) (by decide), ?_⟩
  conv => whnf
  rw [nI_clamp (n := c) (by omega), h.2.2.2.1.2.2.2.1]
  refine am_run hX 2 _ _ _ _ ?_
  conv => whnf
  refine am_c1 (ct_plF (d := d + 3) hW) ?_
  refine am_run hX 5 _ _ _ _ ?_
  conv => whnf
  exact tp_l (d := d) (M := M) (s := s) hX h hA hB hs hL s (rt0 Lk (rtPp l) l.length W) [] M none none none (by show 0 + s = s; omega) ⟨fun _ _ => rfl, rfl⟩ (fun j hj => absurd hj (Nat.not_lt_zero _)) (arr_0 hW) (ad_le (Nat.zero_le _)) (Nat.le_refl _) rtC_0 hd (fun N' w a b e => ⟨rfl, a, w, b, e⟩)
/-- later OPS alone need no more -/
theorem nd_w {i j a : Nat} {p : List Nat} (hij : i ≤ j) (hj : j ≤ l.length) (h : ndP Lk (rtPp l) l.length i p a) : ∃ b, b ≤ a ∧ ndP Lk (rtPp l) l.length j p b := by
  obtain ⟨⟨w, w1, w2, w3⟩, _⟩ := h
  have w3 : (awS (rtS Lk (rtPp l) l.length) w (kst Lk (rtPp l) l.length i p)).2 = l.length := w3
  have hR : rtR (kst Lk (rtPp l) l.length j p) (kst Lk (rtPp l) l.length i p) := ⟨rfl, ad_m hij⟩
  have h2 := (rtR_w (Lk := Lk) (O := rtPp l) (S := l.length) w _ _ hR).2
  have h3 : (awS (rtS Lk (rtPp l) l.length) w (kst Lk (rtPp l) l.length j p)).2 ≤ l.length := rt_s (Lk := Lk) (O := rtPp l) w _ (ad_le hj)
  have hg : rtG l.length (awS (rtS Lk (rtPp l) l.length) w (kst Lk (rtPp l) l.length j p)) := by
    show (awS (rtS Lk (rtPp l) l.length) w (kst Lk (rtPp l) l.length j p)).2 = l.length
    omega
  obtain ⟨b, b1, b2⟩ := dlV_e (st := rtS Lk (rtPp l) l.length) (V := rtV Lk) (G := rtG l.length) w1 hg
  exact ⟨b, by omega, b2⟩
/-- what the class finds -/
def wyQ (M : mm_M) (W : Nat) (l : List bk_X) (Lk : Nat → Nat → Bool) (r : am_R) (N : mm_M) : Prop := rwyF M N ∧ ((∃ w, rtY W l Lk w ∧ w.length + l.length ≤ 300 ∧ r = .inl (some (aI (nI w.length))) ∧ ∀ j, j < w.length → N.1 73 j = nI (kkN (w.getD j 0))) ∨ (r = .inl (some (aI (-1))) ∧ ∀ w, rtY W l Lk w → 300 < w.length + l.length))
theorem rtY_d {w : List Nat} (h : rtY W l Lk w) : dlV (rtS Lk (rtPp l) l.length) (rtV Lk) (rtG l.length) (rt0 Lk (rtPp l) l.length W) w.length := ⟨⟨w, h.1, rfl, h.2.1⟩, fun v v1 v2 => slx_n (h.2.2 v v1 v2)⟩
theorem grV_Y {w : List Nat} {s : Nat} (hd : dlV (rtS Lk (rtPp l) l.length) (rtV Lk) (rtG l.length) (rt0 Lk (rtPp l) l.length W) s) (h : grV (rtS Lk (rtPp l) l.length) (rtV Lk) (rtG l.length) (rt0 Lk (rtPp l) l.length W) s w) : rtY W l Lk w ∧ w.length = s := by
  obtain ⟨a, b, c⟩ := gv_val w _ s hd h
  exact ⟨⟨b, a, gv_least w _ s hd h⟩, c⟩
set_option maxRecDepth 200000 in
theorem fw_e {P : am_Q} {X : am_X} {N : mm_M} {f : Nat → Nat} {j L i0 : Nat} {v9 v10 : Option am_V} (hX : am_K (d + 5) false nm_X7_findWay P X) (h : rtD M n c W l Lk) (hi : (rt0 Lk (rtPp l) l.length W).2 = i0) (hF : rwyF M N) (hf : ndR Lk (rtPp l) l.length W j f) (hN : nrw N W f) (hj : i0 ≤ j) (hjl : j ≤ l.length) (hLb : ∀ x, x ≤ 1000 → ∀ r, r < cnW W → ndP Lk (rtPp l) l.length j (unP W r) x → L ≤ x) (hL2 : L ≤ NKn) (he : j = i0 ∨ 300 < L + l.length) (hA : arM N W (cnW W)) (hB : nbM N W Lk (cnW W)) (hly : lyA N W l Lk j) (hP : ∀ r N, wyQ M W l Lk r N → P r N) : X 120 [some (aR 70), some (aR 9), some (aI (nI c)), some (aI (nI W)), some (aI (nI l.length)), some (aI (nI (pk8 (List.range W)))), some (aI (nI i0)), some (aI (nI (cnW W))), some (aI (nI L)), v9, v10] [] N := by
  have hW := h.2.2.1.2
  have hl3 := h.2.2.2.2.1.2.2.1
  have c7 := (cnW_7 W (by omega)).1
  have ru := rkP_u hW (arr_0 hW)
  have hL2 : L ≤ 1073741824 := hL2
  have hv := hf _ ru.1
  rw [ru.2] at hv
  obtain ⟨n1, n2⟩ := hN _ ru.1
  have n2 : f (rkP (List.range W)) ≤ 1073741824 := n2
  -- the first state, as of its OPS
  have k0 : kst Lk (rtPp l) l.length i0 (List.range W) = rt0 Lk (rtPp l) l.length W := by
    unfold kst
    rw [← hi]
    show (_, adv _ _ (adv _ _ _)) = _
    rw [adv_i]
    rfl
  have e300 : (300 : Int32) - nI l.length = nI (300 - l.length) := by rw [show (300 : Int32) = nI 300 from rfl, nI_sub (by omega)]
  -- no WAY that is short enough
  have none' : 300 < L + l.length → ∀ w, rtY W l Lk w → 300 < w.length + l.length := by
    intro hbig w hw
    apply Classical.byContradiction
    intro z
    have hd := rtY_d hw
    rw [← k0] at hd
    obtain ⟨b, b1, b2⟩ := nd_w hj hjl hd
    have := hLb b (by omega) _ ru.1 (by rw [ru.2]; exact b2)
    omega
  have no : ∀ v9' v10', (∀ w, rtY W l Lk w → 300 < w.length + l.length) → X 155 [some (aR 70), some (aR 9), some (aI (nI c)), some (aI (nI W)), some (aI (nI l.length)), some (aI (nI (pk8 (List.range W)))), some (aI (nI i0)), some (aI (nI (cnW W))), some (aI (nI L)), v9', v10'] [] N := by
    intro v9' v10' hno
    refine am_run hX 2 _ _ _ _ ?_
    conv => whnf
    exact ⟨trivial, hP _ N ⟨hF, Or.inr ⟨rfl, hno⟩⟩⟩
  refine am_run hX 5 _ _ _ _ ?_
  conv => whnf
  refine am_c1 (ct_rkP (d := d + 3) hW (arr_0 hW)) ?_
  refine am_run hX 2 _ _ _ _ ?_
  conv => whnf
  refine ⟨vp_in_nI (by show _ < 720; omega) (by decide), ?_⟩
  conv => whnf
  rw [nI_clamp (n := rkP (List.range W)) (by omega), n1]
  refine am_run hX 5 _ _ _ _ ?_
  conv => whnf
  rw [e300]
  refine ⟨fun z => ?_, fun z => ?_⟩
  · have hb : 300 < L + l.length := Classical.byContradiction fun q => absurd z (nI_nlt (by omega) (by omega))
    exact no _ _ (none' hb)
  · have hb : ¬ 300 < L + l.length := fun q => z (nI_lt (by omega) (by omega))
    have ej : j = i0 := he.resolve_right hb
    subst ej
    refine am_run hX 5 _ _ _ _ ?_
    conv => whnf
    rw [e300]
    refine ⟨fun z => ?_, fun z => ?_⟩
    · have hs : f (rkP (List.range W)) ≤ 300 - l.length := Classical.byContradiction fun q => absurd z (nI_ge (by omega) (by omega))
      obtain ⟨s1, s2⟩ := ndv_k hv (by omega)
      have s2 : dlV (rtS Lk (rtPp l) l.length) (rtV Lk) (rtG l.length) (rt0 Lk (rtPp l) l.length W) (f (rkP (List.range W))) := by
        rw [← k0]
        exact s2
      refine am_run hX 6 _ _ _ _ ?_
      conv => whnf
      refine am_cq (ct_tracP (d := d) (M := N) (rtD_f hF h) hA hB (by omega) hi hly s2) ?_
      rintro r1 N1 ⟨rfl, f1, w, w1, w2⟩
      refine ⟨none, rfl, ?_⟩
      obtain ⟨y1, y2⟩ := grV_Y s2 w1
      refine am_run hX 2 _ _ _ _ ?_
      conv => whnf
      exact ⟨trivial, hP _ N1 ⟨rwyF_t hF (tpF_w f1), Or.inl ⟨w, y1, by omega, by rw [y2], w2⟩⟩⟩
    · refine no _ _ (fun w hw => ?_)
      apply Classical.byContradiction
      intro q
      have hd := rtY_d hw
      rw [← k0] at hd
      have := ndv_e hv (by omega) hd
      exact z (nI_le (by omega) (by omega))
set_option maxRecDepth 200000 in
theorem fw_l {P : am_Q} {X : am_X} {i0 : Nat} (hX : am_K (d + 5) false nm_X7_findWay P X) (h : rtD M n c W l Lk) (hi : (rt0 Lk (rtPp l) l.length W).2 = i0) (hP : ∀ r N, wyQ M W l Lk r N → P r N) : ∀ (j : Nat) (N : mm_M) (f : Nat → Nat) (L : Nat) (v10 : Option am_V), i0 ≤ j → j ≤ l.length → rwyF M N → ndR Lk (rtPp l) l.length W j f → nrw N W f → (∀ x, x ≤ 1000 → ∀ r, r < cnW W → ndP Lk (rtPp l) l.length j (unP W r) x → L ≤ x) → L ≤ NKn → arM N W (cnW W) → nbM N W Lk (cnW W) → lyA N W l Lk j → X 57 [some (aR 70), some (aR 9), some (aI (nI c)), some (aI (nI W)), some (aI (nI l.length)), some (aI (nI (pk8 (List.range W)))), some (aI (nI i0)), some (aI (nI (cnW W))), some (aI (nI L)), some (aI (nI j + -1)), v10] [] N := by
  have hW := h.2.2.1.2
  have hl3 := h.2.2.2.2.1.2.2.1
  have n20 := h.1.1
  have hc := h.2.1
  have e300 : (300 : Int32) - nI l.length = nI (300 - l.length) := by rw [show (300 : Int32) = nI 300 from rfl, nI_sub (by omega)]
  intro j
  induction j with
  | zero =>
    intro N f L v10 hj hjl hF hf hN hLb hL2 hA hB hly
    have : i0 = 0 := by omega
    subst this
    refine am_run hX 3 _ _ _ _ ?_
    conv => whnf
    refine ⟨fun _ => fw_e (d := d) hX h hi hF hf hN (Nat.le_refl _) hjl hLb hL2 (Or.inl rfl) hA hB hly hP, fun z => absurd (by decide) z⟩
  | succ j ih =>
    intro N f L v10 hj hjl hF hf hN hLb hL2 hA hB hly
    have jl : j < l.length := hjl
    have hL2' : L ≤ 1073741824 := hL2
    rw [nI_d1]
    refine am_run hX 3 _ _ _ _ ?_
    conv => whnf
    refine ⟨fun z => ?_, fun z => ?_⟩
    · have : j < i0 := Classical.byContradiction fun q => absurd z (nI_nlt (by omega) (by omega))
      have ej : i0 = j + 1 := by omega
      subst ej
      exact fw_e (d := d) hX h hi hF hf hN (Nat.le_refl _) hjl hLb hL2 (Or.inl rfl) hA hB hly hP
    · have hij : i0 ≤ j := Classical.byContradiction fun q => z (nI_lt (by omega) (by omega))
      refine am_run hX 5 _ _ _ _ ?_
      conv => whnf
      rw [e300]
      refine ⟨fun z => ?_, fun z => ?_⟩
      · have hb : 300 < L + l.length := Classical.byContradiction fun q => absurd z (nI_nlt (by omega) (by omega))
        exact fw_e (d := d) hX h hi hF hf hN (by omega) hjl hLb hL2 (Or.inr hb) hA hB hly hP
      · have hN' := rtD_f hF h
        have ho := (hN'.2.2.2.2.2.1 j jl).1
        obtain ⟨q1, q2⟩ := wsN_p hW ho (hN'.2.2.2.2.2.2.1 j jl)
        obtain ⟨q3, q4⟩ := ws_pc q1 q2
        have key := bk_at (d := d + 2) (M := N) hN'.1 hc hN'.2.2.2.1 jl
        rw [(hN'.2.2.2.2.1.2.2.2 j jl).2.1] at key
        refine am_run hX 4 _ _ _ _ ?_
        conv => whnf
        refine am_c1 key ?_
        refine am_run hX 1 _ _ _ _ ?_
        conv => whnf
        refine am_c1 (ct_wsO (d := d + 3) (W := W) (by omega) ho.1) ?_
        refine am_run hX 3 _ _ _ _ ?_
        conv => whnf
        refine am_c1 (ct_bit16 (d + 4) (wsN (zg l j)) (by omega) N) ?_
        have hpc := pc_b (wsN (zg l j))
        refine am_run hX 2 _ _ _ _ ?_
        conv => whnf
        rw [show (2 : Int32) = nI 2 from rfl, nI_eq (by omega) (by decide), q4]
        refine ⟨fun y => ?_, fun y => ?_⟩
        · -- on one WIRE: nothing changes
          have y : rtPp l j = none := Decidable.byContradiction y
          have qt : ∀ p, rtQq Lk (rtPp l) p j = true := fun p => by
            unfold rtQq
            rw [y]
            rfl
          refine am_run hX 2 _ _ _ _ ?_
          conv => whnf
          refine ih N f L _ hij (by omega) hF (fun r hr => ?_) hN (fun x hx r hr hd => hLb x hx r hr ((nd_t jl (qt _)).mp hd)) hL2 hA hB (fun i a b e => ?_)
          · rcases hf r hr with ⟨a, b⟩ | ⟨a, b⟩
            · exact Or.inl ⟨a, (nd_t jl (qt _)).mpr b⟩
            · exact Or.inr ⟨a, fun x hx hd => b x hx ((nd_t jl (qt _)).mp hd)⟩
          · by_cases k : i = j
            · rw [k] at e
              exact absurd y e
            · exact hly i (by omega) b e
        · refine am_run hX 4 _ _ _ _ ?_
          conv => whnf
          refine am_cq (ct_adL (d := d + 1) (M := N) (O := rtPp l) (i := j) (S := l.length) hW jl hf hN hN'.2.2.2.2.2.2.2.1 hA hB q1 (fun a b eo => by have := prX_w hW ho eo; exact ⟨this.1, this.2.1⟩) q2) ?_
          rintro r1 N1 ⟨g, L1, rfl, l1, f1, n1, g1, b1⟩
          refine ⟨_, rfl, ?_⟩
          refine am_run hX 5 _ _ _ _ ?_
          conv => whnf
          refine am_cq (ct_kpL (d := d + 4) (M := N1) (op := j) hW n1 (by omega)) ?_
          rintro r2 N2 ⟨rfl, f2, y2⟩
          refine ⟨none, rfl, ?_⟩
          have fF : rwyF N N2 := ⟨fun k _ _ c => by rw [f2.1]; exact f1.1 k c, fun k _ b => by rw [f2.2.1 k b, f1.2]⟩
          refine am_run hX 2 _ _ _ _ ?_
          conv => whnf
          refine ih N2 g L1 _ hij (by omega) (rwyF_t hF fF) g1 (fun r hr => by rw [f2.1]; exact n1 r hr) b1 l1 (fun r hr => by rw [f2.1, f1.1 74 (by decide)]; exact hA r hr) (fun r w a b => by rw [f2.2.1 75 (by decide), f1.2]; exact hB r w a b) (fun i a b e => ?_)
          by_cases k : i = j
          · rw [k]
            exact ⟨g, g1, y2⟩
          · obtain ⟨g', z1, z2⟩ := hly i (by omega) b e
            refine ⟨g', z1, fun i' hi' => ?_⟩
            rw [f2.2.2 _ (by omega), f1.2]
            exact z2 i' hi'
set_option maxRecDepth 200000 in
theorem ct_fWy (h : rtD M n c W l Lk) : am_M (d + 6) false nm_X7_findWay [aR 70, aR 9, aI (nI c)] M (wyQ M W l Lk) := by
  have hW := h.2.2.1.2
  have hl3 := h.2.2.2.2.1.2.2.1
  have n20 := h.1.1
  have hc := h.2.1
  have c7 := (cnW_7 W (by omega)).1
  refine ⟨rfl, rfl, rfl, fun X hX => am_run hX 5 _ _ _ _ ?_⟩
  conv => whnf
  refine ⟨vp_in_nI (by show c < 20; omega) (by decide), ?_⟩
  conv => whnf
  rw [nI_clamp (n := c) (by omega), h.2.2.2.1.2.2.2.1]
  refine am_run hX 5 _ _ _ _ ?_
  conv => whnf
  refine ⟨vp_in_nI (by show c < 20; omega) (by decide), ?_⟩
  conv => whnf
  rw [nI_clamp (n := c) (by omega), h.2.2.2.2.1.1]
  refine am_run hX 2 _ _ _ _ ?_
  conv => whnf
  refine am_c1 (ct_plF (d := d + 4) hW) ?_
  refine am_run hX 7 _ _ _ _ ?_
  conv => whnf
  refine am_c1 (ct_adv (d := d + 1) (M := M) (k := 0) h (arr_0 hW) (Nat.zero_le _)) ?_
  obtain ⟨i0, hi⟩ : ∃ i0, (rt0 Lk (rtPp l) l.length W).2 = i0 := ⟨_, rfl⟩
  have hi' : adv (rtQq Lk (rtPp l) (List.range W)) l.length 0 = i0 := hi
  have il : i0 ≤ l.length := by rw [← hi']; exact ad_le (Nat.zero_le _)
  rw [hi']
  refine am_run hX 4 _ _ _ _ ?_
  conv => whnf
  rw [nI_eq (by omega) (by omega)]
  refine ⟨fun z => ?_, fun z => ?_⟩
  · refine am_run hX 3 _ _ _ _ ?_
    conv => whnf
    refine am_cq (ct_mapC (d := d + 1) (M := M) hW h.2.2.2.2.2.2.2.2) ?_
    rintro r1 N1 ⟨rfl, f1, a1, b1, z1⟩
    refine ⟨_, rfl, ?_⟩
    refine am_run hX 7 _ _ _ _ ?_
    conv => whnf
    rw [nI_s1']
    exact fw_l (d := d) (M := M) (i0 := i0) hX h hi (fun r N a => a) l.length N1 (fun _ => 0) 0 none il (Nat.le_refl _) (mcF_w f1) (fun r hr => Or.inl ⟨Nat.zero_le _, nd_S⟩) (fun r hr => ⟨z1 r hr, Nat.zero_le _⟩) (fun x hx r hr hd => Nat.zero_le _) (Nat.zero_le _) a1 b1 (fun j a b => absurd b (by omega))
  · have z := Decidable.byContradiction z
    refine am_run hX 2 _ _ _ _ ?_
    conv => whnf
    have hg : rtG l.length (rt0 Lk (rtPp l) l.length W) := by
      show (rt0 Lk (rtPp l) l.length W).2 = l.length
      rw [hi]
      exact z
    exact ⟨trivial, rwyF_r M, Or.inl ⟨[], ⟨alV_0, hg, fun v _ _ => slx_0 v⟩, by show 0 + l.length ≤ 300; omega, rfl, fun j hj => absurd hj (Nat.not_lt_zero _)⟩⟩
end RTT
