/-! DIAGRAMS: rewrite and reduce keep all that MEANING wants -/
section WVJ
variable {m inp : Nat} {N : mm_M} {W : WB}
theorem fr_oD {V : WB} (g : gdW m inp W) (ho : oD inp W) (h : frR inp m W V) : oD inp V := by
  obtain ⟨k, a, b, k1, k2, a1, b1, hv, _⟩ := h
  exact rlV_oD g ho hv
theorem rd_oD : ∀ n W V, gdW m inp W → oD inp W → rdW inp m n W V → oD inp V
  | 0, W, V, g, ho, h => by
    rw [h.1]
    exact ho
  | n + 1, W, V, g, ho, h => by
    obtain ⟨U, hU, h1⟩ := h
    exact rd_oD n U V (fr_gd g hU) (fr_oD g ho hU) h1
theorem askI_9 (h : N.1 39 9 = -1) : askI N m inp W := Or.inl h
theorem askI_rw {N' : mm_M} (hf : rwF N N') (h : askI N m inp W) : askI N' m inp W := by
  unfold askI
  rw [hf.1 39 (by decide) (by decide) (by decide), hf.2]
  exact h
theorem wvJ_th (h : wvJ N) : wvJ (th0 N) := wvJ_mG rmG_n h
theorem wvJ_I (h : wvJ N) : wvI N := by
  rcases h with h | ⟨m, inp, W, a1, a2, a3, a4, a5, a6⟩
  · exact Or.inl h
  · exact Or.inr ⟨m, inp, W, a1, a2, a3, a4⟩
theorem wvI_wb (h : wvI N) : wb_iv N := by
  rcases h with h | ⟨m, inp, W, a1, a2, a3, g⟩
  · exact Or.inl h
  · refine Or.inr ⟨m, W.1, W.2.1, W.2.2, g.1, g.2.2.2.2.1, a2.1, a3.1, a2.2.2.1, a3.2.2.1, fun i hi => ?_⟩
    have li := g.2.2.2.2.1 i hi
    have m60 := g.1
    refine ⟨g.2.2.2.2.2.2.2.2.2.2 i hi, a2.2.2.2.1 i hi, a3.2.2.2.1 i hi, fun j => ⟨g.2.2.2.2.2.2.2.2.1 i j, fun hj => ?_⟩, ?_⟩
    · apply Decidable.byContradiction
      intro hc
      have := g.2.2.2.2.1 j (g.2.2.2.2.2.2.2.2.2.1 i j hc).2
      omega
    · exact ⟨fun j hj => a2.2.2.2.2 i li j hj, fun j hj => a3.2.2.2.2 i j (by omega) hj⟩
theorem rd_T : ∀ n W V, gdW m inp W → rdW inp m n W V → cntN V.1 60 ≤ cntN W.1 60
  | 0, W, V, g, h => by
    rw [h.1]
    exact Nat.le_refl _
  | n + 1, W, V, g, h => by
    obtain ⟨U, hU, h1⟩ := h
    have := rd_T n U V (fr_gd g hU) h1
    have := fr_T g hU
    omega
theorem cn_e {f h : Nat → Bool} : ∀ n, (∀ i, i < n → f i = h i) → cntN f n = cntN h n
  | 0, _ => rfl
  | n + 1, e => by
    show (cntN f n + _) = (cntN h n + _)
    rw [cn_e n fun i hi => e i (by omega), e n (by omega)]
/-- nothing was done, so it is as it was -/
theorem rd_0 {n : Nat} {V : WB} (g : gdW m inp W) (hn : rdW inp m n W V) (h : cwR N m inp W) (h' : cwR N m inp V) : V = W := by
  cases n with
  | zero => exact hn.1
  | succ n =>
    obtain ⟨U, hU, h1⟩ := hn
    have a1 := rd_T n U V (fr_gd g hU) h1
    have a2 := fr_T g hU
    have a3 : cntN V.1 60 = cntN W.1 60 := cn_e 60 fun i hi => by rw [← h.2.2.1 i (by omega), ← h'.2.2.1 i (by omega)]
    omega
end WVJ
section WVP
variable {ac : Nat → ClassId} {lo : Nat} {ad as : Nat → Nat} {b L : Nat} {xs : Nat → Int32} {hp : mm_M → Nat → xm_H} {I J : mm_M → Prop}
theorem pr_rewriteJ (H : mm_L ac lo hp) (h1 : ∀ M, I M → wvJ M) (hJ : ∀ M N M', I M → cwF M N → rwF (th0 N) M' → wvJ M' → J M') (k p q : Int32) : la_I ac lo ad as b L xs hp I J nm_X11_rewrite nm_X12_rewrite [.int k, .int p, .int q] := by
  refine am_la_I (us := [aI k, aI p, aI q]) H fun M hI => ?_
  rcases h1 M hI with ⟨h6, h98⟩ | ⟨m, inp, W, hm, hc, hr, g, ho, hq⟩
  · refine am_wk (rwx_g (d := 998) (rlC_0 (d := 995) h6) fun r M' e => ⟨0, Or.inl rfl, e.1⟩) fun r M1 e => ⟨_, e.1, ?_⟩
    rw [e.2]
    exact am_wk (rwm_0 (d := 998) h98) fun r M2 e => ⟨e.1, by rw [e.2]; exact hJ M M _ hI (cwF_r M) (rwF_r _) (wvJ_th (h1 M hI))⟩
  · refine am_wk (rwx_g (d := 998) (ct_rlC (d := 994) hc g) fun r M' hE => ?_) ?_
    · rcases hE with ⟨_, e, _⟩ | ⟨_, e, _⟩
      · exact ⟨0, Or.inl rfl, e⟩
      · exact ⟨1, Or.inr rfl, e⟩
    · intro r M1 hE
      have fin : ∀ N, rwR N inp W → am_M 1000 false nm_X12_rewrite [aR 108, aI k, aI p, aI q] N (ruR (th0 N) inp (rlOK inp W k p q) (rlV inp m W k p q)) := fun N hN => rwm_g (d := 998) hN.1 (ct_rlR (d := 994) (m := m) (rwR_th hN) g) fun r M' hE => by
        rcases hE with ⟨_, e, _⟩ | ⟨_, e, _⟩
        · exact ⟨0, Or.inl rfl, e⟩
        · exact ⟨1, Or.inr rfl, e⟩
      rcases hE with ⟨no, rfl, rfl⟩ | ⟨ok, rfl, f1, f2, V, hV, hc'⟩
      · refine ⟨0, rfl, am_wk (fin M1 hr) ?_⟩
        rintro r M2 (⟨_, rfl, rfl⟩ | ⟨ok, _⟩)
        · exact ⟨rfl, hJ M1 M1 _ hI (cwF_r M1) (rwF_r _) (wvJ_th (h1 M1 hI))⟩
        · exact absurd ok no
      · have hr' := rwR_cw f1 hr
        refine ⟨1, rfl, am_wk (fin M1 hr') ?_⟩
        rintro r M2 (⟨no, _⟩ | ⟨_, rfl, f3, V', hV', hr2⟩)
        · exact absurd ok no
        · have eV := rlV_u g hV hV'
          subst eV
          exact ⟨rfl, hJ M M1 _ hI f1 f3 (Or.inr ⟨m, inp, V, hm, cwR_rw f3 (cwR_th hc'), hr2, rlV_gd g hV, rlV_oD g ho hV, askI_rw f3 (askI_9 f2)⟩)⟩
theorem pr_reduceJ (H : mm_L ac lo hp) (h1 : ∀ M, I M → wvJ M) (hJ : ∀ M N M', I M → cwF M N → rwF (th0 N) M' → wvJ M' → J M') : la_I ac lo ad as b L xs hp I J nm_X11_reduce nm_X12_reduce [] := by
  refine am_la_I (us := []) H fun M hI => ?_
  rcases h1 M hI with ⟨h6, h98⟩ | ⟨m, inp, W, hm, hc, hr, g, ho, hq⟩
  · refine am_wk (rdx_0 (d := 999) h6) fun r M1 e => ⟨_, e.1, ?_⟩
    rw [e.2]
    exact am_wk (rdm_0 (d := 999) h98) fun r M2 e => ⟨e.1, by rw [e.2]; exact hJ M M _ hI (cwF_r M) (rwF_r _) (wvJ_th (h1 M hI))⟩
  · refine am_wk (rdx_1 (d := 993) hm hc g) ?_
    rintro r M1 ⟨n, V, hn, rfl, f1, f2, hc'⟩
    have hr' := rwR_cw f1 hr
    refine ⟨_, rfl, am_wk (rdm_1 (d := 993) (m := m) hr' g) ?_⟩
    rintro r M2 ⟨n', V', hn', rfl, f3, hr2⟩
    obtain ⟨e1, e2⟩ := rd_u n n' W V V' g hn hn'
    subst e1
    subst e2
    have hq' : askI M1 m inp V := by
      rcases f2 with f2 | f2
      · rw [f2] at hc' ⊢
        rw [rd_0 g hn hc hc']
        exact hq
      · exact askI_9 f2
    exact ⟨rfl, hJ M M1 _ hI f1 f3 (Or.inr ⟨m, inp, V, hm, cwR_rw f3 (cwR_th hc'), hr2, rd_gd n W V g hn, rd_oD n W V g ho hn, askI_rw f3 (show askI (th0 M1) m inp V from hq')⟩)⟩
end WVP
