/-! THE PAIR rewrite -/
section RWT
variable {d m inp : Nat} {N M : mm_M} {W : WB} {k p q : Int32}
set_option maxRecDepth 100000 in
theorem ct_in0 (h : M.1 39 6 = 0) : am_M (d + 2) false nm_X10_isInner [aR 39, aI p] M (am_q1 (aI 0) M) := by
  refine ⟨rfl, rfl, rfl, fun X hX => am_run hX 30 _ _ _ _ ?_⟩
  conv => whnf
  refine ⟨fun _ => ?_, fun _ => ?_⟩
  · conv => whnf
    exact ⟨rfl, rfl, rfl⟩
  · conv => whnf
    refine am_c1 (sp_n (d := d) h) ?_
    conv => whnf
    refine ⟨fun _ => ?_, fun c => absurd rfl c⟩
    conv => whnf
    exact ⟨rfl, rfl, rfl⟩
set_option maxRecDepth 100000 in
theorem fu_0 (h : M.1 39 6 = 0) : am_M (d + 3) false nm_X10_fuse [aR 39, aI p, aI q] M (am_q1 (aI 0) M) := by
  refine ⟨rfl, rfl, rfl, fun X hX => am_run hX 6 _ _ _ _ ?_⟩
  conv => whnf
  refine am_c1 (ct_in0 (d := d) h) ?_
  conv => whnf
  refine ⟨fun _ => ?_, fun c => absurd rfl c⟩
  conv => whnf
  exact ⟨rfl, rfl, rfl⟩
set_option maxRecDepth 100000 in
theorem sk_0 (h : M.1 39 6 = 0) : am_M (d + 3) false nm_X10_skip [aR 39, aI p] M (am_q1 (aI 0) M) := by
  refine ⟨rfl, rfl, rfl, fun X hX => am_run hX 6 _ _ _ _ ?_⟩
  conv => whnf
  refine am_c1 (ct_in0 (d := d) h) ?_
  conv => whnf
  refine ⟨fun _ => ?_, fun c => absurd rfl c⟩
  conv => whnf
  exact ⟨rfl, rfl, rfl⟩
set_option maxRecDepth 100000 in
theorem cp_0 (h : M.1 39 6 = 0) : am_M (d + 3) false nm_X10_complement [aR 39, aI p] M (am_q1 (aI 0) M) := by
  refine ⟨rfl, rfl, rfl, fun X hX => am_run hX 6 _ _ _ _ ?_⟩
  conv => whnf
  refine am_c1 (ct_in0 (d := d) h) ?_
  conv => whnf
  refine ⟨fun _ => ?_, fun c => absurd rfl c⟩
  conv => whnf
  exact ⟨rfl, rfl, rfl⟩
set_option maxRecDepth 100000 in
theorem pv_0 (h : M.1 39 6 = 0) : am_M (d + 3) false nm_X10_pivot [aR 39, aI p, aI q] M (am_q1 (aI 0) M) := by
  refine ⟨rfl, rfl, rfl, fun X hX => am_run hX 6 _ _ _ _ ?_⟩
  conv => whnf
  refine am_c1 (ct_in0 (d := d) h) ?_
  conv => whnf
  refine ⟨fun _ => ?_, fun c => absurd rfl c⟩
  conv => whnf
  exact ⟨rfl, rfl, rfl⟩
set_option maxRecDepth 100000 in
theorem rlC_0 (h : M.1 39 6 = 0) : am_M (d + 4) false nm_X10_doRule [aR 39, aI k, aI p, aI q] M (am_q1 (aI 0) M) := by
  refine ⟨rfl, rfl, rfl, fun X hX => am_run hX 8 _ _ _ _ ?_⟩
  conv => whnf
  refine ⟨fun _ => ?_, fun _ => ?_⟩
  · conv => whnf
    refine am_c1 (fu_0 (d := d) h) ?_
    conv => whnf
    exact ⟨rfl, rfl, rfl⟩
  conv => whnf
  refine ⟨fun _ => ?_, fun _ => ?_⟩
  · conv => whnf
    refine am_c1 (sk_0 (d := d) h) ?_
    conv => whnf
    exact ⟨rfl, rfl, rfl⟩
  conv => whnf
  refine ⟨fun _ => ?_, fun _ => ?_⟩
  · conv => whnf
    refine am_c1 (cp_0 (d := d) h) ?_
    conv => whnf
    exact ⟨rfl, rfl, rfl⟩
  conv => whnf
  refine ⟨fun _ => ?_, fun _ => ?_⟩
  · conv => whnf
    refine am_c1 (pv_0 (d := d) h) ?_
    conv => whnf
    exact ⟨rfl, rfl, rfl⟩
  conv => whnf
  exact ⟨rfl, rfl, rfl⟩
set_option maxRecDepth 100000 in
theorem rwx_g {q0 : am_Q} (hc : am_M (d + 1) false nm_X10_doRule [aR 39, aI k, aI p, aI q] M q0) (h : ∀ r M', q0 r M' → ∃ v, (v = 0 ∨ v = 1) ∧ r = .inl (some (aI v))) : am_M (d + 2) false nm_X11_rewrite [aR 0, aI k, aI p, aI q] M q0 := by
  refine ⟨rfl, rfl, rfl, fun X hX => am_run hX 10 _ _ _ _ ?_⟩
  conv => whnf
  refine am_cq hc ?_
  intro r M' hq
  obtain ⟨v, hv, rfl⟩ := h r M' hq
  refine ⟨_, rfl, ?_⟩
  rcases hv with rfl | rfl
  · conv => whnf
    exact ⟨rfl, hq⟩
  · conv => whnf
    exact ⟨rfl, hq⟩
set_option maxRecDepth 100000 in
theorem rwm_g {q0 : am_Q} (h98 : M.1 108 98 = 1) (hc : am_M (d + 1) false nm_X12_rule [aR 108, aI k, aI p, aI q] (th0 M) q0) (h : ∀ r M', q0 r M' → ∃ v, (v = 0 ∨ v = 1) ∧ r = .inl (some (aI v))) : am_M (d + 2) false nm_X12_rewrite [aR 108, aI k, aI p, aI q] M q0 := by
  refine ⟨rfl, rfl, rfl, fun X hX => am_run hX 6 _ _ _ _ ?_⟩
  conv => whnf
  rw [show (mm_i M 108 (upd (M.1 108) 0 0)).1 108 98 = 1 from h98]
  refine ⟨fun c => absurd c (by decide), fun _ => ?_⟩
  refine am_run hX 10 _ _ _ _ ?_
  conv => whnf
  refine am_cq hc ?_
  intro r M' hq
  obtain ⟨v, hv, rfl⟩ := h r M' hq
  refine ⟨_, rfl, ?_⟩
  rcases hv with rfl | rfl
  · conv => whnf
    refine ⟨fun _ => ?_, fun c => absurd rfl c⟩
    conv => whnf
    exact ⟨rfl, hq⟩
  · conv => whnf
    refine ⟨fun c => absurd c (by decide), fun _ => ?_⟩
    conv => whnf
    exact ⟨rfl, hq⟩
set_option maxRecDepth 100000 in
theorem rwm_0 (h98 : M.1 108 98 = 0) : am_M (d + 2) false nm_X12_rewrite [aR 108, aI k, aI p, aI q] M (am_q1 (aI 0) (th0 M)) := by
  refine ⟨rfl, rfl, rfl, fun X hX => am_run hX 10 _ _ _ _ ?_⟩
  conv => whnf
  rw [show (mm_i M 108 (upd (M.1 108) 0 0)).1 108 98 = 0 from h98]
  refine ⟨fun _ => ?_, fun c => absurd rfl c⟩
  conv => whnf
  exact ⟨rfl, rfl, rfl⟩
theorem rwR_th (h : rwR N inp W) : rwR (th0 N) inp W := h
theorem cwR_th (h : cwR N m inp W) : cwR (th0 N) m inp W := h
theorem wvI_th (h : wvI N) : wvI (th0 N) := h
end RWT
section RWP
variable {ac : Nat → ClassId} {lo : Nat} {ad as : Nat → Nat} {b L : Nat} {xs : Nat → Int32} {hp : mm_M → Nat → xm_H} {I J : mm_M → Prop}
theorem pr_rewrite (H : mm_L ac lo hp) (h1 : ∀ M, I M → wvI M) (hJ : ∀ M N M', I M → cwF M N → (N = M ∨ N.1 39 9 = -1) → rwF (th0 N) M' → wvI M' → J M') (k p q : Int32) : la_I ac lo ad as b L xs hp I J nm_X11_rewrite nm_X12_rewrite [.int k, .int p, .int q] := by
  refine am_la_I (us := [aI k, aI p, aI q]) H fun M hI => ?_
  rcases h1 M hI with ⟨h6, h98⟩ | ⟨m, inp, W, hm, hc, hr, g⟩
  · refine am_wk (rwx_g (d := 998) (rlC_0 (d := 995) h6) fun r M' e => ⟨0, Or.inl rfl, e.1⟩) fun r M1 e => ⟨_, e.1, ?_⟩
    rw [e.2]
    exact am_wk (rwm_0 (d := 998) h98) fun r M2 e => ⟨e.1, by rw [e.2]; exact hJ M M _ hI (cwF_r M) (Or.inl rfl) (rwF_r _) (wvI_th (h1 M hI))⟩
  · refine am_wk (rwx_g (d := 998) (ct_rlC (d := 994) hc g) fun r M' hE => ?_) ?_
    · rcases hE with ⟨_, e, _⟩ | ⟨_, e, _⟩
      · exact ⟨0, Or.inl rfl, e⟩
      · exact ⟨1, Or.inr rfl, e⟩
    · intro r M1 hE
      have fin : ∀ N, rwR N inp W → am_M 1000 false nm_X12_rewrite [aR 108, aI k, aI p, aI q] N (ruR (th0 N) inp (rlOK inp W k p q) (rlV inp m W k p q)) := fun N hN => rwm_g (d := 998) hN.1 (ct_rlR (d := 994) (m := m) (rwR_th hN) g) fun r M' hE => by
        rcases hE with ⟨_, e, _⟩ | ⟨_, e, _⟩
        · exact ⟨0, Or.inl rfl, e⟩
        · exact ⟨1, Or.inr rfl, e⟩
      rcases hE with ⟨no, rfl, rfl⟩ | ⟨ok, rfl, f1, f2, V, hV, hc'⟩
      · refine ⟨0, rfl, am_wk (fin M1 hr) ?_⟩
        rintro r M2 (⟨_, rfl, rfl⟩ | ⟨ok, _⟩)
        · exact ⟨rfl, hJ M1 M1 _ hI (cwF_r M1) (Or.inl rfl) (rwF_r _) (wvI_th (h1 M1 hI))⟩
        · exact absurd ok no
      · have hr' := rwR_cw f1 hr
        refine ⟨1, rfl, am_wk (fin M1 hr') ?_⟩
        rintro r M2 (⟨no, _⟩ | ⟨_, rfl, f3, V', hV', hr2⟩)
        · exact absurd ok no
        · have eV := rlV_u g hV hV'
          subst eV
          exact ⟨rfl, hJ M M1 _ hI f1 (Or.inr f2) f3 (Or.inr ⟨m, inp, V, hm, cwR_rw f3 (cwR_th hc'), hr2, rlV_gd g hV⟩)⟩
end RWP
