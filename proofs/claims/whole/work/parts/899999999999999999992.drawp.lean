/-! DIAGRAMS: drawing one OP, the class -/
section DRP
variable {d inp : Nat} {N : mm_M} {σ : DR} {x : bk_X}
theorem a1_v {k : Nat} (h : k = 2 ∨ k = 4 ∨ k = 5 ∨ k = 6 ∨ k = 7) : xp_a1.getD k 0 = nI (if k = 2 then 4 else phK k) := by
  rcases h with rfl | rfl | rfl | rfl | rfl
  all_goals rfl
set_option maxRecDepth 100000 in
theorem do_135 {k w : Nat} {v1 : Int32} {l5 : Option am_V} {Pp : am_Q} {X : am_X} (hX : am_K (d + 3) false nm_X10_drawOp Pp X) (hi : drI inp σ) (hm : k = 3 ∨ σ.1 < 60) (h : drC N inp σ) (k8 : k < 8) (hw : w < inp) (hK : ∀ N', dcF N N' → drC N' inp (if k = 3 then σ else pu σ w (if k = 0 ∨ k = 1 ∨ k = 2 then 4 else phK k)) → X 159 [some (aR 39), some (aI v1), some (aI (nI k)), some (aI (nI w)), some (aI (if k = 0 ∨ k = 1 ∨ k = 3 then 1 else 0)), l5] [] N') : X 135 [some (aR 39), some (aI v1), some (aI (nI k)), some (aI (nI w)), some (aI (if k = 0 ∨ k = 1 ∨ k = 3 then 1 else 0)), l5] [] N := by
  have i4 := hi.1.2.2.1
  refine am_run hX 3 _ _ _ _ ?_
  conv => whnf
  by_cases k3 : k = 3
  · rw [if_pos k3] at hK
    exact ⟨fun _ => hK N (dcF_r N) h, fun c => absurd (by rw [k3]; rfl) c⟩
  refine ⟨fun c => absurd ((nI_eq (b := 3) (by omega) (by decide)).mp c) k3, fun _ => ?_⟩
  rw [if_neg k3] at hK
  have m60 : σ.1 < 60 := hm.resolve_left k3
  have p8 : (if k = 0 ∨ k = 1 ∨ k = 2 then 4 else phK k) < 8 := by
    by_cases c : k = 0 ∨ k = 1 ∨ k = 2
    · rw [if_pos c]; decide
    · rw [if_neg c]
      unfold phK
      by_cases k4 : k = 4
      · rw [if_pos k4]; decide
      · rw [if_neg k4]
        by_cases k5 : k = 5
        · rw [if_pos k5]; decide
        · rw [if_neg k5]; omega
  have key := ct_puC (d := d) (p := if k = 0 ∨ k = 1 ∨ k = 2 then 4 else phK k) h hi m60 hw p8
  have fin : X 156 [some (aR 39), some (aI v1), some (aI (nI k)), some (aI (nI w)), some (aI (if k = 0 ∨ k = 1 ∨ k = 3 then 1 else 0)), l5] [aI (nI (if k = 0 ∨ k = 1 ∨ k = 2 then 4 else phK k)), aI (nI w), aR 39] N := by
    refine am_run hX 1 _ _ _ _ ?_
    conv => whnf
    refine am_cq key ?_
    rintro r N' ⟨rfl, f1, h'⟩
    refine ⟨_, rfl, ?_⟩
    conv => whnf
    exact hK N' f1 h'
  refine am_run hX 4 _ _ _ _ ?_
  conv => whnf
  by_cases k01 : k = 0 ∨ k = 1
  · have e1 : (k = 0 ∨ k = 1 ∨ k = 3) := by omega
    have e2 : (k = 0 ∨ k = 1 ∨ k = 2) := by omega
    rw [if_pos e2] at fin
    rw [if_pos e1] at fin ⊢
    refine ⟨fun c => absurd c (by decide), fun _ => ?_⟩
    refine am_run hX 2 _ _ _ _ ?_
    conv => whnf
    exact fin
  · have e1 : ¬ (k = 0 ∨ k = 1 ∨ k = 3) := by omega
    rw [if_neg e1] at fin ⊢
    refine ⟨fun _ => ?_, fun c => absurd rfl c⟩
    refine am_run hX 3 _ _ _ _ ?_
    conv => whnf
    refine ⟨vp_in_nI (by show k < 11; omega) (by decide), ?_⟩
    conv => whnf
    rw [nI_clamp (n := k) (by omega), show (fun j => xp_a1.getD j 0) k = nI (if k = 2 then 4 else phK k) from a1_v (by omega)]
    have e3 : (if k = 2 then 4 else phK k) = if k = 0 ∨ k = 1 ∨ k = 2 then 4 else phK k := by
      by_cases k2 : k = 2
      · rw [if_pos k2, if_pos (by omega)]
      · rw [if_neg k2, if_neg (by omega)]
    rw [e3]
    exact fin
set_option maxRecDepth 100000 in
theorem do_83 {k : Nat} {v4 : Int32} {l5 : Option am_V} {Pp : am_Q} {X : am_X} (hX : am_K (d + 3) false nm_X10_drawOp Pp X) (hi : drI inp σ) (ho : ogd inp x) (hm : x.2.2.2.1 ≠ 0 → σ.1 + 1 < 60) (h : drC N inp σ) (hK0 : x.2.2.2.1 = 0 → X 135 [some (aR 39), some (aI (nI (bk_p x))), some (aI (nI k)), some (aI (nI x.2.1)), some (aI v4), l5] [] N) (hK : x.2.2.2.1 ≠ 0 → ∀ N' l5, dcF N N' → drC N' inp (ctl2 σ (lw x.2.2.2.1) x.2.1) → X 159 [some (aR 39), some (aI (nI (bk_p x))), some (aI (nI k)), some (aI (nI x.2.1)), some (aI v4), l5] [] N') : X 83 [some (aR 39), some (aI (nI (bk_p x))), some (aI (nI k)), some (aI (nI x.2.1)), some (aI v4), l5] [] N := by
  have i4 := hi.1.2.2.1
  have ow := ho.1
  have c16 := p16 i4 ow.2.2.2.1
  refine am_run hX 2 _ _ _ _ ?_
  conv => whnf
  refine am_c1 (ct_controlsOf (d := d + 2)) ?_
  rw [bk_cc (by omega) ow]
  conv => whnf
  refine am_run hX 1 _ _ _ _ ?_
  conv => whnf
  by_cases c0 : x.2.2.2.1 = 0
  · exact ⟨fun _ => hK0 c0, fun c => absurd (by rw [c0]; rfl) c⟩
  refine ⟨fun c => absurd ((nI_eq (b := 0) (by omega) (by decide)).mp c) c0, fun _ => ?_⟩
  obtain ⟨l1, l2⟩ := lw_ne ho i4 c0
  have m60 := hm c0
  refine am_run hX 2 _ _ _ _ ?_
  conv => whnf
  refine am_c1 (ct_controlsOf (d := d + 2)) ?_
  rw [bk_cc (by omega) ow]
  conv => whnf
  refine am_run hX 1 _ _ _ _ ?_
  conv => whnf
  refine am_c1 (ct_low (d := d + 1) (by omega) (by omega)) ?_
  conv => whnf
  refine am_run hX 7 _ _ _ _ ?_
  conv => whnf
  rw [nI_m3, Nat.mod_eq_of_lt (by omega : lw x.2.2.2.1 < 4)]
  refine am_cq (ct_puC (d := d) (p := 0) h hi (by omega) l1 (by decide)) ?_
  rintro r N1 ⟨rfl, f1, h1⟩
  refine ⟨_, rfl, ?_⟩
  conv => whnf
  have hi1 := dr_pu (p := 0) hi (by omega) l1 (by decide)
  refine am_run hX 4 _ _ _ _ ?_
  conv => whnf
  refine am_cq (ct_puC (d := d) (p := 0) h1 hi1 (by show σ.1 + 1 < 60; omega) ow.2.1 (by decide)) ?_
  rintro r N2 ⟨rfl, f2, h2⟩
  refine ⟨_, rfl, ?_⟩
  conv => whnf
  have hi2 := dr_pu (p := 0) hi1 (by show σ.1 + 1 < 60; omega) ow.2.1 (by decide)
  obtain ⟨e1, e2, e3⟩ := pu2_0 hi l1 ow.2.1 l2
  refine am_run hX 11 _ _ _ _ ?_
  conv => whnf
  refine ⟨vp_in_nI (by show lw x.2.2.2.1 < 4; omega) (by decide), ?_⟩
  conv => whnf
  refine ⟨vp_in_nI (by have := ow.2.1; show x.2.1 < 4; omega) (by decide), ?_⟩
  conv => whnf
  have t4 := ow.2.1
  rw [nI_clamp (n := lw x.2.2.2.1) (by omega), nI_clamp (n := x.2.1) (by omega), h2.2.1 _ l1, h2.2.1 _ ow.2.1]
  have jn := ct_jnC (d := d + 1) (a := (pu (pu σ (lw x.2.2.2.1) 0) x.2.1 0).2.2.1 (lw x.2.2.2.1)) (b := (pu (pu σ (lw x.2.2.2.1) 0) x.2.1 0).2.2.1 x.2.1) (t := 1) h2.1 hi2.1.1 (by rw [e1, e2, e3]; decide) (hi2.1.2.2.2.2.2.2.1 _ _) (by rw [e1, e2]; omega) (dr_l hi2 l1) (dr_l hi2 ow.2.1) (by decide)
  rw [jn_0 (by rw [e1, e2]; exact e3)] at jn
  refine am_cq jn ?_
  rintro r N3 ⟨rfl, f3, h3⟩
  refine ⟨_, rfl, ?_⟩
  conv => whnf
  refine am_run hX 1 _ _ _ _ ?_
  conv => whnf
  refine hK c0 N3 (some (aI (nI (lw x.2.2.2.1)))) (dcF_t f1 (dcF_t f2 (dcF_K f3))) ⟨h3, fun w hw => ?_, ?_⟩
  · rw [f3.1.1 43 (by decide) (by decide)]
    exact h2.2.1 w hw
  · rw [f3.2]
    exact h2.2.2
set_option maxRecDepth 100000 in
theorem ct_dOp (h : drC N inp σ) (hi : drI inp σ) (ho : ogd inp x) (ok : dOK x) (hm : σ.1 + dcn x ≤ 60) : am_M (d + 4) false nm_X10_drawOp [aR 39, aI (nI (bk_p x))] N (fun r N' => r = .inl none ∧ dcF N N' ∧ drC N' inp (drO x σ)) := by
  have i4 := hi.1.2.2.1
  have ow := ho.1
  have t4 := ow.2.1
  have k9 := ok.1
  refine ⟨rfl, rfl, rfl, fun X hX => am_run hX 2 _ _ _ _ ?_⟩
  conv => whnf
  refine am_c1 (ct_kind (d := d + 2)) ?_
  rw [bk_k (by omega) ow]
  conv => whnf
  refine am_run hX 3 _ _ _ _ ?_
  conv => whnf
  refine am_c1 (ct_wireOf (d := d + 2)) ?_
  rw [bk_wi (by omega) ow]
  conv => whnf
  refine am_run hX 6 _ _ _ _ ?_
  conv => whnf
  rw [nI_m3, Nat.mod_eq_of_lt (by omega : x.2.1 < 4)]
  by_cases k8 : x.1 = 8
  · refine ⟨fun c => absurd (by rw [k8]; rfl) c, fun _ => ?_⟩
    obtain ⟨s1, s2, s3⟩ := ho.2.2 k8
    refine am_run hX 4 _ _ _ _ ?_
    conv => whnf
    refine am_c1 (ct_secondOf (d := d + 2)) ?_
    rw [bk_s (by omega) ow]
    conv => whnf
    refine am_run hX 3 _ _ _ _ ?_
    conv => whnf
    rw [nI_m3, Nat.mod_eq_of_lt (by omega : x.2.2.1 < 4)]
    refine am_cq (ct_exD (d := d + 2) h hi t4 s1) ?_
    rintro r N1 ⟨rfl, f1, h1⟩
    refine ⟨_, rfl, ?_⟩
    conv => whnf
    refine am_run hX 1 _ _ _ _ ?_
    conv => whnf
    refine ⟨trivial, rfl, f1, ?_⟩
    unfold drO
    rw [if_pos k8]
    exact h1
  refine ⟨fun _ => ?_, fun c => absurd (fun z => k8 ((nI_eq (b := 8) (by omega) (by decide)).mp z)) c⟩
  have all : ∀ N1 τ, dcF N N1 → drC N1 inp τ → drI inp τ → (x.1 = 3 ∨ τ.1 + (if x.2.2.2.1 = 0 then 1 else 2) ≤ 60) → drO x σ = (if x.1 = 0 ∨ x.1 = 1 then tws (if x.2.2.2.1 = 0 then (if x.1 = 3 then (if x.1 = 0 ∨ x.1 = 1 ∨ x.1 = 3 then tws τ x.2.1 else τ) else pu (if x.1 = 0 ∨ x.1 = 1 ∨ x.1 = 3 then tws τ x.2.1 else τ) x.2.1 (if x.1 = 0 ∨ x.1 = 1 ∨ x.1 = 2 then 4 else phK x.1)) else ctl2 (if x.1 = 0 ∨ x.1 = 1 ∨ x.1 = 3 then tws τ x.2.1 else τ) (lw x.2.2.2.1) x.2.1) x.2.1 else (if x.2.2.2.1 = 0 then (if x.1 = 3 then (if x.1 = 0 ∨ x.1 = 1 ∨ x.1 = 3 then tws τ x.2.1 else τ) else pu (if x.1 = 0 ∨ x.1 = 1 ∨ x.1 = 3 then tws τ x.2.1 else τ) x.2.1 (if x.1 = 0 ∨ x.1 = 1 ∨ x.1 = 2 then 4 else phK x.1)) else ctl2 (if x.1 = 0 ∨ x.1 = 1 ∨ x.1 = 3 then tws τ x.2.1 else τ) (lw x.2.2.2.1) x.2.1)) → X 41 [some (aR 39), some (aI (nI (bk_p x))), some (aI (nI x.1)), some (aI (nI x.2.1)), none, none] [] N1 := fun N1 τ f1 h1 hτ hm1 he => by
    refine do_41 hX (by omega) ?_
    refine do_62 (b := x.1 = 0 ∨ x.1 = 1 ∨ x.1 = 3) hX h1 hτ.2.2.2.2.2 (by omega) fun N2 f2 h2 => ?_
    have hτ2 : drI inp (if x.1 = 0 ∨ x.1 = 1 ∨ x.1 = 3 then tws τ x.2.1 else τ) := by
      by_cases b : x.1 = 0 ∨ x.1 = 1 ∨ x.1 = 3
      · rw [if_pos b]
        exact dr_tw hτ t4
      · rw [if_neg b]
        exact hτ
    have e1 : (if x.1 = 0 ∨ x.1 = 1 ∨ x.1 = 3 then tws τ x.2.1 else τ).1 = τ.1 := by
      by_cases b : x.1 = 0 ∨ x.1 = 1 ∨ x.1 = 3
      · rw [if_pos b]
        rfl
      · rw [if_neg b]
    generalize (if x.1 = 0 ∨ x.1 = 1 ∨ x.1 = 3 then tws τ x.2.1 else τ) = τ2 at *
    refine do_83 (d := d) (x := x) hX hτ2 ho (fun c0 => ?_) h2 (fun c0 => ?_) (fun c0 N3 l5 f3 h3 => ?_)
    · rw [if_neg c0] at hm1
      have := (ok.2.2.2 c0).2
      omega
    · rw [if_pos c0] at he hm1
      have i3 : x.1 = 3 → drI inp τ2 := fun _ => hτ2
      refine do_135 (d := d) hX hτ2 (by omega) h2 (by omega) t4 fun N3 f3 h3 => ?_
      refine do_159 hX (by omega) h3 ?_ (by omega) fun N4 f4 h4 => ⟨rfl, dcF_t f1 (dcF_t f2 (dcF_t f3 f4)), ?_⟩
      · by_cases k3 : x.1 = 3
        · rw [if_pos k3]
          exact hτ2.2.2.2.2.2
        · rw [if_neg k3]
          exact kc_l hτ2.2.2.2.2.2
      · rw [he]
        exact h4
    · rw [if_neg c0] at he
      refine do_159 hX (by omega) h3 (kc_l (kc_l hτ2.2.2.2.2.2)) (by omega) fun N4 f4 h4 => ⟨rfl, dcF_t f1 (dcF_t f2 (dcF_t f3 f4)), ?_⟩
      rw [he]
      exact h4
  refine am_run hX 3 _ _ _ _ ?_
  conv => whnf
  by_cases k1 : x.1 = 1
  · refine ⟨fun c => absurd (by rw [k1]; rfl) c, fun _ => ?_⟩
    have c0 : x.2.2.2.1 = 0 := by
      apply Decidable.byContradiction
      intro hc
      have := (ok.2.2.2 hc).2
      omega
    have n2 : dcn x = 2 := by
      unfold dcn
      rw [if_neg (by omega), if_pos (Or.inr k1)]
    refine am_run hX 4 _ _ _ _ ?_
    conv => whnf
    refine am_cq (ct_puC (d := d) (p := 4) h hi (by omega) t4 (by decide)) ?_
    rintro r N1 ⟨rfl, f1, h1⟩
    refine ⟨_, rfl, ?_⟩
    conv => whnf
    refine all N1 _ f1 h1 (dr_pu hi (by omega) t4 (by decide)) (Or.inr ?_) ?_
    · rw [if_pos c0]
      show σ.1 + 1 + 1 ≤ 60
      omega
    · unfold drO
      simp [k1, c0]
  · refine ⟨fun _ => ?_, fun c => absurd (fun z => k1 ((nI_eq (b := 1) (by omega) (by decide)).mp z)) c⟩
    refine all N σ (dcF_r N) h hi ?_ ?_
    · by_cases k3 : x.1 = 3
      · exact Or.inl k3
      · refine Or.inr ?_
        by_cases c0 : x.2.2.2.1 = 0
        · rw [if_pos c0]
          have : dcn x = 1 := by
            unfold dcn
            rw [if_neg (by omega), if_neg (by omega)]
          omega
        · rw [if_neg c0]
          have : dcn x = 2 := by
            unfold dcn
            rw [if_neg (by omega), if_pos (Or.inl c0)]
          omega
    · have hk : x.1 = 0 ∨ x.1 = 2 ∨ x.1 = 3 ∨ x.1 = 4 ∨ x.1 = 5 ∨ x.1 = 6 ∨ x.1 = 7 := by omega
      have hc : x.1 = 3 ∨ x.1 = 4 ∨ x.1 = 5 ∨ x.1 = 6 ∨ x.1 = 7 → x.2.2.2.1 = 0 := fun q => by
        apply Decidable.byContradiction
        intro hc
        have := (ok.2.2.2 hc).2
        omega
      unfold drO
      rcases hk with k | k | k | k | k | k | k
      · by_cases c0 : x.2.2.2.1 = 0
        · simp [k, c0]
        · simp [k, c0]
      · by_cases c0 : x.2.2.2.1 = 0
        · simp [k, c0]
        · simp [k, c0]
      · simp [k, hc (by omega)]
      · simp [k, hc (by omega)]
      · simp [k, hc (by omega)]
      · simp [k, hc (by omega)]
      · simp [k, hc (by omega)]
end DRP
