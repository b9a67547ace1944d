/-! the pair spider -/
section SPJ
variable {d : Nat} {M : mm_M} {m : Nat} {T : Nat → Bool} {ph : Nat → Nat} {E : Nat → Nat → Nat}
set_option maxRecDepth 100000 in
theorem sp_n {p : Int32} (h : M.1 39 6 = 0) : am_M (d + 1) false nm_X10_isThere [aR 39, aI p] M (am_q1 (aI (nI 0)) M) := by
  refine ⟨rfl, rfl, rfl, fun X hX => am_run hX 40 _ _ _ _ ?_⟩
  conv => whnf
  refine ⟨fun c => ?_, fun c => ?_⟩
  · conv => whnf
    exact ⟨rfl, rfl, rfl⟩
  · conv => whnf
    rw [h]
    refine ⟨fun _ => ?_, fun c2 => absurd (Int32.not_lt.mp c) c2⟩
    conv => whnf
    exact ⟨rfl, rfl, rfl⟩
set_option maxRecDepth 100000 in
theorem sm_n {p : Int32} (h : M.1 108 98 = 0) : am_M (d + 1) false nm_X12_isSpider [aR 108, aI p] M (am_q1 (aI (nI 0)) M) := by
  refine ⟨rfl, rfl, rfl, fun X hX => am_run hX 40 _ _ _ _ ?_⟩
  conv => whnf
  rw [h]
  refine ⟨fun _ => ?_, fun c => absurd rfl c⟩
  conv => whnf
  exact ⟨rfl, rfl, rfl⟩
set_option maxRecDepth 100000 in
theorem spx_0 {p q : Int32} (h : am_M (d + 2) false nm_X10_isThere [aR 39, aI p] M (am_q1 (aI (nI 0)) M)) : am_M (d + 3) false nm_X11_spider [aR 0, aI p, aI q] M (am_q1 (aI (-1)) M) := by
  refine ⟨rfl, rfl, rfl, fun X hX => am_run hX 60 _ _ _ _ ?_⟩
  conv => whnf
  refine am_c1 h ?_
  conv => whnf
  refine ⟨fun c => absurd rfl c, fun _ => ?_⟩
  conv => whnf
  exact ⟨trivial, rfl, rfl⟩
set_option maxRecDepth 100000 in
theorem spm_0 {p q : Int32} (h : am_M (d + 2) false nm_X12_isSpider [aR 108, aI p] (th0 M) (am_q1 (aI (nI 0)) (th0 M))) : am_M (d + 3) false nm_X12_spider [aR 108, aI p, aI q] M (am_q1 (aI (-1)) (th0 M)) := by
  refine ⟨rfl, rfl, rfl, fun X hX => am_run hX 60 _ _ _ _ ?_⟩
  conv => whnf
  refine am_c1 h ?_
  conv => whnf
  refine ⟨fun c => absurd rfl c, fun _ => ?_⟩
  conv => whnf
  exact ⟨trivial, rfl, rfl⟩
/-- what spider answers of one that is there -/
def spv (ph : Nat → Nat) (E : Nat → Nat → Nat) (i : Nat) (q : Int32) : Int32 := if q = 0 then nI (ph i) else if q = 1 then nI (sm (fun j => if E i j = 0 then 0 else 1) 60) else if q < 100 then -1 else if 160 ≤ q then -1 else nI (E i (q - 100).toNatClampNeg)
theorem q_100 {q : Int32} (h1 : ¬ q < 100) (h2 : ¬ 160 ≤ q) : ∃ j, j < 60 ∧ q - 100 = nI j := by
  have q0 : ¬ q < 0 := fun c => h1 (Int32.lt_trans c (by decide))
  obtain ⟨n, hn, rfl⟩ := nI_of q0
  have a : 100 ≤ n := Nat.le_of_not_lt fun c => h1 (nI_lt (b := 100) c (by decide))
  have b : n < 160 := Nat.lt_of_not_le fun c => h2 (nI_le (a := 160) c hn)
  exact ⟨n - 100, by omega, nI_sub (b := 100) a⟩
set_option maxRecDepth 100000 in
theorem spx_1 {i : Nat} {q : Int32} (h : wb_s M m T ph E) (t : T i = true) : am_M (d + 3) false nm_X11_spider [aR 0, aI (nI i), aI q] M (am_q1 (aI (spv ph E i q)) M) := by
  have im := h.2.1 i t
  have m6 := h.1
  have k := h.2.2.2.2.2.2 i t
  have th := sp_th (d := d + 1) (p := nI i) h
  rw [iteC_t ⟨i, t, rfl⟩] at th
  unfold spv
  refine ⟨rfl, rfl, rfl, fun X hX => am_run hX 60 _ _ _ _ ?_⟩
  conv => whnf
  refine am_c1 th ?_
  conv => whnf
  refine ⟨fun _ => ?_, fun c => absurd (by decide) c⟩
  conv => whnf
  refine ⟨fun q0 => ?_, fun q0 => ?_⟩
  · conv => whnf
    rw [if_neg q0]
    refine ⟨fun q1 => ?_, fun q1 => ?_⟩
    · conv => whnf
      rw [if_neg q1]
      refine ⟨fun c => ?_, fun c => ?_⟩
      · conv => whnf
        rw [if_pos c]
        exact ⟨trivial, rfl, rfl⟩
      · conv => whnf
        rw [if_neg c]
        refine ⟨fun c2 => ?_, fun c2 => ?_⟩
        · conv => whnf
          rw [if_pos c2]
          exact ⟨trivial, rfl, rfl⟩
        · conv => whnf
          have ⟨j, hj, e⟩ := q_100 c c2
          rw [if_neg c2, e, nI_clamp (n := j) (by omega)]
          refine am_c1 (sp_ek h t hj) ?_
          conv => whnf
          exact ⟨trivial, rfl, rfl⟩
    · have q1 := Decidable.byContradiction q1
      conv => whnf
      refine ⟨vp_in_nI (by show i < 60; omega) (by decide), ?_⟩
      conv => whnf
      refine ⟨vp_in_nI (by show i < 60; omega) (by decide), ?_⟩
      conv => whnf
      rw [nI_clamp (n := i) (by omega), if_pos q1]
      refine am_c1 (ct_lbc _) ?_
      rw [sp_ct h t]
      conv => whnf
      exact ⟨trivial, rfl, rfl⟩
  · have q0 := Decidable.byContradiction q0
    conv => whnf
    refine ⟨vp_in_nI (by show i < 60; omega) (by decide), ?_⟩
    conv => whnf
    rw [nI_clamp (n := i) (by omega), k.2.1, if_pos q0]
    exact ⟨trivial, rfl, rfl⟩
set_option maxRecDepth 100000 in
theorem spm_1 {i : Nat} {q : Int32} (h : wb_s M m T ph E) (t : T i = true) : am_M (d + 3) false nm_X12_spider [aR 108, aI (nI i), aI q] M (am_q1 (aI (spv ph E i q)) (th0 M)) := by
  have h : wb_s (th0 M) m T ph E := h
  have im := h.2.1 i t
  have m6 := h.1
  have k := h.2.2.2.2.2.2 i t
  have th := sm_is (d := d + 1) (p := nI i) h
  rw [iteC_t ⟨i, t, rfl⟩] at th
  unfold spv
  refine ⟨rfl, rfl, rfl, fun X hX => am_run hX 60 _ _ _ _ ?_⟩
  conv => whnf
  refine am_c1 th ?_
  conv => whnf
  refine ⟨fun _ => ?_, fun c => absurd (by decide) c⟩
  conv => whnf
  refine ⟨fun q0 => ?_, fun q0 => ?_⟩
  · conv => whnf
    rw [if_neg q0]
    refine ⟨fun q1 => ?_, fun q1 => ?_⟩
    · conv => whnf
      rw [if_neg q1]
      refine ⟨fun c => ?_, fun c => ?_⟩
      · conv => whnf
        rw [if_pos c]
        exact ⟨trivial, rfl, rfl⟩
      · conv => whnf
        rw [if_neg c]
        refine ⟨fun c2 => ?_, fun c2 => ?_⟩
        · conv => whnf
          rw [if_pos c2]
          exact ⟨trivial, rfl, rfl⟩
        · conv => whnf
          have ⟨j, hj, e⟩ := q_100 c c2
          rw [if_neg c2, e, nI_clamp (n := j) (by omega)]
          refine am_c1 (sm_eo h t hj) ?_
          conv => whnf
          exact ⟨trivial, rfl, rfl⟩
    · have q1 := Decidable.byContradiction q1
      conv => whnf
      rw [if_pos q1]
      refine am_c1 (sm_es h t) ?_
      conv => whnf
      exact ⟨trivial, rfl, rfl⟩
  · have q0 := Decidable.byContradiction q0
    conv => whnf
    refine ⟨vp_in_nI (by show i < 60; omega) (by decide), ?_⟩
    conv => whnf
    rw [nI_clamp (n := i) (by omega), k.2.2.1, if_pos q0]
    exact ⟨trivial, rfl, rfl⟩
end SPJ
section SPK
variable {ac : Nat → ClassId} {lo : Nat} {ad as : Nat → Nat} {b L : Nat} {xs : Nat → Int32} {hp : mm_M → Nat → xm_H} {I J : mm_M → Prop}
theorem pr_spider (H : mm_L ac lo hp) (h1 : ∀ M, I M → wb_iv M) (hJ : ∀ M, I M → J (th0 M)) (p q : Int32) : la_I ac lo ad as b L xs hp I J nm_X11_spider nm_X12_spider [.int p, .int q] := by
  refine am_la_I (us := [aI p, aI q]) H fun M hI => ?_
  have hJ := hJ M hI
  rcases h1 M hI with ⟨e1, e2⟩ | ⟨m, T, ph, E, h⟩
  · refine am_wk (spx_0 (d := 997) (sp_n e1)) fun r M1 e => ⟨-1, e.1, ?_⟩
    rw [e.2]
    exact am_wk (spm_0 (d := 997) (sm_n e2)) fun r M1 e => ⟨e.1, by rw [e.2]; exact hJ⟩
  · by_cases c : ∃ i, T i = true ∧ p = nI i
    · obtain ⟨i, t, rfl⟩ := c
      refine am_wk (spx_1 (d := 997) h t) fun r M1 e => ⟨_, e.1, ?_⟩
      rw [e.2]
      exact am_wk (spm_1 (d := 997) h t) fun r M1 e => ⟨e.1, by rw [e.2]; exact hJ⟩
    · have a := sp_th (d := 998) (p := p) h
      have h' : wb_s (th0 M) m T ph E := h
      have a2 := sm_is (d := 998) (p := p) h'
      rw [iteC_f c] at a a2
      refine am_wk (spx_0 (d := 997) a) fun r M1 e => ⟨-1, e.1, ?_⟩
      rw [e.2]
      exact am_wk (spm_0 (d := 997) a2) fun r M1 e => ⟨e.1, by rw [e.2]; exact hJ⟩
end SPK
