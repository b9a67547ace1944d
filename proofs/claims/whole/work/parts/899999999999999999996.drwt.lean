/-! DIAGRAMS: drawing one OP, the reference -/
section DRT
variable {d inp : Nat} {N : mm_M} {σ : DR} {x : bk_X}
/-- where the OP lies -/
def opR (N : mm_M) (a : Nat) (x : bk_X) : Prop := N.1 112 a = nI x.1 ∧ N.1 113 a = nI x.2.1 ∧ N.1 114 a = nI x.2.2.1 ∧ N.1 115 a = nI x.2.2.2.1
theorem opR_F {N' : mm_M} {a : Nat} (h : opR N a x) (f : drF N N') : opR N' a x := by
  unfold opR
  rw [f.1 112 (by decide) (by decide), f.1 113 (by decide) (by decide), f.1 114 (by decide) (by decide), f.1 115 (by decide) (by decide)]
  exact h
set_option maxRecDepth 100000 in
theorem dR_ctl {a : Nat} {l3 l4 l5 : Option am_V} {Pp : am_Q} {X : am_X} (hX : am_K (d + 3) false nm_X12_draw Pp X) (ha : a < 6000) (ho : opR N a x) (h : drR N inp σ) (hi : drI inp σ) (hg : ogd inp x) (hm : σ.1 + 1 < 60) (c0 : x.2.2.2.1 ≠ 0) (hK : ∀ N', drF N N' → drR N' inp (ctl2 σ (lw x.2.2.2.1) x.2.1) → X 262 [some (aR 108), some (aI (nI a)), some (aI (nI x.2.1)), l3, l4, l5] [] N') : X 136 [some (aR 108), some (aI (nI a)), some (aI (nI x.2.1)), l3, l4, l5] [] N := by
  have i4 := hi.1.2.2.1
  have ow := hg.1
  have c16 := p16 i4 ow.2.2.2.1
  obtain ⟨l1, l2⟩ := lw_ne hg i4 c0
  refine am_run hX 5 _ _ _ _ ?_
  conv => whnf
  refine ⟨vp_in_nI (by show a < 6300; omega) (by decide), ?_⟩
  conv => whnf
  rw [nI_clamp (n := a) (by omega), ho.2.2.2]
  refine am_run hX 1 _ _ _ _ ?_
  conv => whnf
  refine am_c1 (ct_rlow (d := d + 2) (by omega) (by omega)) ?_
  conv => whnf
  refine am_run hX 2 _ _ _ _ ?_
  conv => whnf
  refine am_cq (ct_coR (d := d) h hi hm l1 ow.2.1 l2) ?_
  rintro r N1 ⟨rfl, f1, h1⟩
  refine ⟨_, rfl, ?_⟩
  conv => whnf
  refine am_run hX 1 _ _ _ _ ?_
  conv => whnf
  exact hK N1 f1 h1
set_option maxRecDepth 100000 in
theorem dR_0 {a : Nat} {l3 l4 l5 : Option am_V} {Pp : am_Q} {X : am_X} (hX : am_K (d + 3) false nm_X12_draw Pp X) (ha : a < 6000) (ho : opR N a x) (h : drR N inp σ) (hi : drI inp σ) (hg : ogd inp x) (hm : σ.1 + (if x.2.2.2.1 = 0 then 1 else 2) ≤ 60) (hK : ∀ N', drF N N' → drR N' inp (tws (if x.2.2.2.1 = 0 then pu (tws σ x.2.1) x.2.1 4 else ctl2 (tws σ x.2.1) (lw x.2.2.2.1) x.2.1) x.2.1) → X 262 [some (aR 108), some (aI (nI a)), some (aI (nI x.2.1)), l3, l4, l5] [] N') : X 60 [some (aR 108), some (aI (nI a)), some (aI (nI x.2.1)), l3, l4, l5] [] N := by
  have i4 := hi.1.2.2.1
  have ow := hg.1
  have c16 := p16 i4 ow.2.2.2.1
  have hA : vp_in (nI a) 6300 := vp_in_nI (by omega) (by decide)
  refine am_run hX 5 _ _ _ _ ?_
  conv => whnf
  refine ⟨hA, ?_⟩
  conv => whnf
  rw [nI_clamp (n := a) (by omega), ho.2.2.2]
  by_cases c0 : x.2.2.2.1 = 0
  · rw [if_pos c0] at hm hK
    refine ⟨fun c => absurd (by rw [c0]; rfl) c, fun _ => ?_⟩
    refine am_run hX 3 _ _ _ _ ?_
    conv => whnf
    refine am_cq (ct_dxR (d := d) h hi (by omega) ow.2.1) ?_
    rintro r N1 ⟨rfl, f1, h1⟩
    refine ⟨_, rfl, ?_⟩
    conv => whnf
    refine am_run hX 1 _ _ _ _ ?_
    conv => whnf
    exact hK N1 f1 h1
  · rw [if_neg c0] at hm hK
    obtain ⟨l1, l2⟩ := lw_ne hg i4 c0
    refine ⟨fun _ => ?_, fun c => absurd (fun z => c0 ((nI_eq (b := 0) (by omega) (by decide)).mp z)) c⟩
    refine am_run hX 3 _ _ _ _ ?_
    conv => whnf
    refine am_cq (ct_twR (d := d + 2) h hi ow.2.1) ?_
    rintro r N1 ⟨rfl, f1, h1⟩
    refine ⟨_, rfl, ?_⟩
    conv => whnf
    have ho1 := opR_F ho f1
    have hi1 := dr_tw hi ow.2.1
    refine am_run hX 5 _ _ _ _ ?_
    conv => whnf
    refine ⟨hA, ?_⟩
    conv => whnf
    rw [nI_clamp (n := a) (by omega), ho1.2.2.2]
    refine am_run hX 1 _ _ _ _ ?_
    conv => whnf
    refine am_c1 (ct_rlow (d := d + 2) (by omega) (by omega)) ?_
    conv => whnf
    refine am_run hX 2 _ _ _ _ ?_
    conv => whnf
    have m1 : (tws σ x.2.1).1 + 1 < 60 := by show σ.1 + 1 < 60; omega
    refine am_cq (ct_coR (d := d) h1 hi1 m1 l1 ow.2.1 l2) ?_
    rintro r N2 ⟨rfl, f2, h2⟩
    refine ⟨_, rfl, ?_⟩
    conv => whnf
    refine am_run hX 3 _ _ _ _ ?_
    conv => whnf
    refine am_cq (ct_twR (d := d + 2) h2 (dr_ct hi1 m1 l1 ow.2.1 l2) ow.2.1) ?_
    rintro r N3 ⟨rfl, f3, h3⟩
    refine ⟨_, rfl, ?_⟩
    conv => whnf
    refine am_run hX 1 _ _ _ _ ?_
    conv => whnf
    exact hK N3 (drF_t f1 (drF_t f2 f3)) h3
/-- the exchange of two WIRES: what the reference writes -/
theorem drR_sw {a b : Nat} (h : drR N inp σ) (hi : drI inp σ) (ha : a < inp) (hb : b < inp) : drR (mm_i (mm_i N 172 (upd (upd (N.1 172) a (N.1 172 b)) b (N.1 172 a))) 173 (upd (upd (N.1 173) a (N.1 173 b)) b (N.1 173 a))) inp (swD σ a b) := by
  have i4 := hi.1.2.2.1
  have k16 := hi.2.2.2.2.2
  obtain ⟨hc, h100, h106, hl⟩ := h
  refine ⟨hc, h100, h106, fun v hv => ⟨?_, ?_⟩⟩
  · show upd (upd (N.1 172) a (N.1 172 b)) b (N.1 172 a) v = nI (if v = b then σ.2.2.1 a else if v = a then σ.2.2.1 b else σ.2.2.1 v)
    unfold upd
    by_cases e : v = b
    · rw [if_pos e, if_pos e]
      exact (hl a ha).1
    · rw [if_neg e, if_neg e]
      by_cases e2 : v = a
      · rw [if_pos e2, if_pos e2]
        exact (hl b hb).1
      · rw [if_neg e2, if_neg e2]
        exact (hl v hv).1
  · show upd (upd (N.1 173) a (N.1 173 b)) b (N.1 173 a) v = nI (kb (ks σ.2.2.2 a b) v)
    rw [ks_b k16 (by omega) (by omega) (by omega)]
    unfold upd
    by_cases e : v = b
    · rw [if_pos e, if_pos e]
      exact (hl a ha).2
    · rw [if_neg e, if_neg e]
      by_cases e2 : v = a
      · rw [if_pos e2, if_pos e2]
        exact (hl b hb).2
      · rw [if_neg e2, if_neg e2]
        exact (hl v hv).2
theorem nar_b {k : Nat} (hk : k < 2) : vp_nar (if (2 : Nat) = 2 then .boolean else .byte) (nI k) = nI k := by
  rcases (by omega : k = 0 ∨ k = 1) with e | e
  · rw [e]; rfl
  · rw [e]; rfl
set_option maxRecDepth 100000 in
theorem dR_sw {a : Nat} {Pp : am_Q} {X : am_X} (hX : am_K d false nm_X12_draw Pp X) (ha : a < 6000) (ho : opR N a x) (h : drR N inp σ) (hi : drI inp σ) (h1 : x.2.1 < inp) (h2 : x.2.2.1 < inp) (hK : ∀ N', drF N N' → drR N' inp (swD σ x.2.1 x.2.2.1) → Pp (.inl none) N') : X 199 [some (aR 108), some (aI (nI a)), some (aI (nI x.2.1)), none, none, none] [] N := by
  have i4 := hi.1.2.2.1
  have hA : vp_in (nI a) 6300 := vp_in_nI (by omega) (by decide)
  have v1 : vp_in (nI x.2.1) 4 := vp_in_nI (by omega) (by decide)
  have v2 : vp_in (nI x.2.2.1) 4 := vp_in_nI (by omega) (by decide)
  refine am_run hX 5 _ _ _ _ ?_
  conv => whnf
  refine ⟨hA, ?_⟩
  conv => whnf
  rw [nI_clamp (n := a) (by omega), ho.2.2.1]
  refine am_run hX 5 _ _ _ _ ?_
  conv => whnf
  refine ⟨v1, ?_⟩
  conv => whnf
  refine am_run hX 5 _ _ _ _ ?_
  conv => whnf
  refine ⟨v1, ?_⟩
  conv => whnf
  refine am_run hX 8 _ _ _ _ ?_
  conv => whnf
  refine ⟨v2, ?_⟩
  conv => whnf
  refine ⟨v1, ?_⟩
  conv => whnf
  refine am_run hX 8 _ _ _ _ ?_
  conv => whnf
  refine ⟨v2, ?_⟩
  conv => whnf
  refine ⟨v1, ?_⟩
  conv => whnf
  refine am_run hX 5 _ _ _ _ ?_
  conv => whnf
  refine ⟨v2, ?_⟩
  conv => whnf
  refine am_run hX 6 _ _ _ _ ?_
  conv => whnf
  refine ⟨v2, ?_⟩
  conv => whnf
  rw [nI_clamp (n := x.2.1) (by omega), nI_clamp (n := x.2.2.1) (by omega)]
  have kA := kb_2 (k := σ.2.2.2) (w := x.2.1)
  have kB := kb_2 (k := σ.2.2.2) (w := x.2.2.1)
  have e1 : vp_nar (if (2 : Nat) = 2 then .boolean else .byte) (N.1 173 x.2.1) = N.1 173 x.2.1 := by rw [(h.2.2.2 _ h1).2, nar_b kA]
  have e2 : vp_nar (if (2 : Nat) = 2 then .boolean else .byte) (N.1 173 x.2.2.1) = N.1 173 x.2.2.1 := by rw [(h.2.2.2 _ h2).2, nar_b kB]
  have fin := hK _ (drF_t (drF_i (by decide) (by decide)) (drF_i (by decide) (by decide))) (drR_sw h hi h1 h2)
  refine ⟨trivial, ?_⟩
  have eq : mm_i (mm_i (mm_i (mm_i N 172 (upd (N.1 172) x.2.1 (N.1 172 x.2.2.1))) 173 (upd (N.1 173) x.2.1 (vp_nar (if (2 : Nat) = 2 then .boolean else .byte) (N.1 173 x.2.2.1)))) 172 (upd (upd (N.1 172) x.2.1 (N.1 172 x.2.2.1)) x.2.2.1 (N.1 172 x.2.1))) 173 (upd (upd (N.1 173) x.2.1 (vp_nar (if (2 : Nat) = 2 then .boolean else .byte) (N.1 173 x.2.2.1))) x.2.2.1 (vp_nar (if (2 : Nat) = 2 then .boolean else .byte) (N.1 173 x.2.1))) = mm_i (mm_i N 172 (upd (upd (N.1 172) x.2.1 (N.1 172 x.2.2.1)) x.2.2.1 (N.1 172 x.2.1))) 173 (upd (upd (N.1 173) x.2.1 (N.1 173 x.2.2.1)) x.2.2.1 (N.1 173 x.2.1)) := by
    rw [e1, e2, mm_ic _ 173 172 _ _ (by decide), mi_two, mi_two]
  rw [← eq] at fin
  exact fin
set_option maxRecDepth 100000 in
theorem ct_dR {a : Nat} (ha : a < 6000) (ho : opR N a x) (h : drR N inp σ) (hi : drI inp σ) (hg : ogd inp x) (ok : dOK x) (hm : σ.1 + dcn x ≤ 60) : am_M (d + 4) false nm_X12_draw [aR 108, aI (nI a)] N (fun r N' => r = .inl none ∧ drF N N' ∧ drR N' inp (drO x σ)) := by
  have i4 := hi.1.2.2.1
  have ow := hg.1
  have t4 := ow.2.1
  have k9 := ok.1
  have c16 := p16 i4 ow.2.2.2.1
  have hA : vp_in (nI a) 6300 := vp_in_nI (by omega) (by decide)
  refine ⟨rfl, rfl, rfl, fun X hX => am_run hX 5 _ _ _ _ ?_⟩
  conv => whnf
  refine ⟨hA, ?_⟩
  conv => whnf
  rw [nI_clamp (n := a) (by omega), ho.2.1]
  refine am_run hX 5 _ _ _ _ ?_
  conv => whnf
  refine ⟨hA, ?_⟩
  conv => whnf
  rw [nI_clamp (n := a) (by omega), ho.1]
  have fin : ∀ N' τ l3 l4 l5, drF N N' → drR N' inp τ → drO x σ = τ → X 262 [some (aR 108), some (aI (nI a)), some (aI (nI x.2.1)), l3, l4, l5] [] N' := fun N' τ l3 l4 l5 f h' e => by
    refine am_run hX 1 _ _ _ _ ?_
    conv => whnf
    refine ⟨trivial, rfl, f, ?_⟩
    rw [e]
    exact h'
  have c0 : x.1 ≠ 0 → x.1 ≠ 2 → x.2.2.2.1 = 0 := fun a b => by
    apply Decidable.byContradiction
    intro hc
    have := (ok.2.2.2 hc).2
    omega
  have d1 : x.1 ≠ 3 → x.1 ≠ 8 → x.2.2.2.1 = 0 → ¬ x.1 = 1 → dcn x = 1 := fun a a' b c => by
    unfold dcn
    rw [if_neg (by omega), if_neg (by omega)]
  have d2 : x.1 ≠ 3 → x.1 ≠ 8 → (x.2.2.2.1 ≠ 0 ∨ x.1 = 1) → dcn x = 2 := fun a b c => by
    unfold dcn
    rw [if_neg (by omega), if_pos c]
  have one : ∀ p, x.1 = 4 ∧ p = 2 ∨ x.1 = 5 ∧ p = 1 ∨ x.1 = 6 ∧ p = 6 ∨ x.1 = 7 ∧ p = 7 → σ.1 < 60 ∧ drO x σ = pu σ x.2.1 p := fun p hp => by
    have z := c0 (by omega) (by omega)
    have := d1 (by omega) (by omega) z (by omega)
    refine ⟨by omega, ?_⟩
    unfold drO phK
    rcases hp with ⟨k, rfl⟩ | ⟨k, rfl⟩ | ⟨k, rfl⟩ | ⟨k, rfl⟩
    all_goals simp [k]
  have hk : x.1 = 0 ∨ x.1 = 1 ∨ x.1 = 2 ∨ x.1 = 3 ∨ x.1 = 4 ∨ x.1 = 5 ∨ x.1 = 6 ∨ x.1 = 7 ∨ x.1 = 8 := by omega
  rcases hk with k | k | k | k | k | k | k | k | k
  · rw [k]
    refine ⟨fun _ => ?_, fun c => absurd rfl c⟩
    refine dR_0 (d := d) hX ha ho h hi hg ?_ (fun N' f h' => fin N' _ _ _ _ f h' ?_)
    · by_cases z : x.2.2.2.1 = 0
      · rw [if_pos z]
        have := d1 (by omega) (by omega) z (by omega)
        omega
      · rw [if_neg z]
        have := d2 (by omega) (by omega) (Or.inl z)
        omega
    · unfold drO
      simp [k]
  · have n2 := d2 (by omega) (by omega) (Or.inr k)
    rw [k]
    refine ⟨fun c => absurd c (by decide), fun _ => ?_⟩
    refine ⟨fun _ => ?_, fun c => absurd rfl c⟩
    refine am_run hX 4 _ _ _ _ ?_
    conv => whnf
    refine am_cq (ct_puR (d := d + 1) (p := 4) h hi (by omega) t4) ?_
    rintro r N1 ⟨rfl, f1, h1⟩
    refine ⟨_, rfl, ?_⟩
    conv => whnf
    refine am_run hX 3 _ _ _ _ ?_
    conv => whnf
    refine am_cq (ct_dxR (d := d) h1 (dr_pu hi (by omega) t4 (by decide)) (by show σ.1 + 1 < 60; omega) t4) ?_
    rintro r N2 ⟨rfl, f2, h2⟩
    refine ⟨_, rfl, ?_⟩
    conv => whnf
    refine am_run hX 1 _ _ _ _ ?_
    conv => whnf
    refine fin N2 _ _ _ _ (drF_t f1 f2) h2 ?_
    unfold drO
    simp [k]
  · rw [k]
    refine ⟨fun c => absurd c (by decide), fun _ => ?_⟩
    refine ⟨fun c => absurd c (by decide), fun _ => ?_⟩
    refine ⟨fun _ => ?_, fun c => absurd rfl c⟩
    refine am_run hX 5 _ _ _ _ ?_
    conv => whnf
    refine ⟨hA, ?_⟩
    conv => whnf
    rw [nI_clamp (n := a) (by omega), ho.2.2.2]
    by_cases z : x.2.2.2.1 = 0
    · have n1 := d1 (by omega) (by omega) z (by omega)
      refine ⟨fun c => absurd (by rw [z]; rfl) c, fun _ => ?_⟩
      refine am_run hX 4 _ _ _ _ ?_
      conv => whnf
      refine am_cq (ct_puR (d := d + 1) (p := 4) h hi (by omega) t4) ?_
      rintro r N1 ⟨rfl, f1, h1⟩
      refine ⟨_, rfl, ?_⟩
      conv => whnf
      refine am_run hX 1 _ _ _ _ ?_
      conv => whnf
      refine fin N1 _ _ _ _ f1 h1 ?_
      unfold drO
      simp [k, z]
    · have n2 := d2 (by omega) (by omega) (Or.inl z)
      refine ⟨fun _ => ?_, fun c => absurd (fun q => z ((nI_eq (b := 0) (by omega) (by decide)).mp q)) c⟩
      refine dR_ctl (d := d) hX ha ho h hi hg (by omega) z (fun N' f h' => fin N' _ _ _ _ f h' ?_)
      unfold drO
      simp [k, z]
  · rw [k]
    refine ⟨fun c => absurd c (by decide), fun _ => ?_⟩
    refine ⟨fun c => absurd c (by decide), fun _ => ?_⟩
    refine ⟨fun c => absurd c (by decide), fun _ => ?_⟩
    refine ⟨fun _ => ?_, fun c => absurd rfl c⟩
    refine am_run hX 3 _ _ _ _ ?_
    conv => whnf
    refine am_cq (ct_twR (d := d + 2) h hi t4) ?_
    rintro r N1 ⟨rfl, f1, h1⟩
    refine ⟨_, rfl, ?_⟩
    conv => whnf
    refine am_run hX 1 _ _ _ _ ?_
    conv => whnf
    refine fin N1 _ _ _ _ f1 h1 ?_
    unfold drO
    simp [k]
  · obtain ⟨n1, e⟩ := one 2 (by omega)
    rw [k]
    refine ⟨fun c => absurd c (by decide), fun _ => ?_⟩
    refine ⟨fun c => absurd c (by decide), fun _ => ?_⟩
    refine ⟨fun c => absurd c (by decide), fun _ => ?_⟩
    refine ⟨fun c => absurd c (by decide), fun _ => ?_⟩
    refine ⟨fun _ => ?_, fun c => absurd rfl c⟩
    refine am_run hX 4 _ _ _ _ ?_
    conv => whnf
    refine am_cq (ct_puR (d := d + 1) (p := 2) h hi n1 t4) ?_
    rintro r N1 ⟨rfl, f1, h1⟩
    refine ⟨_, rfl, ?_⟩
    conv => whnf
    refine am_run hX 1 _ _ _ _ ?_
    conv => whnf
    exact fin N1 _ _ _ _ f1 h1 e
  · obtain ⟨n1, e⟩ := one 1 (by omega)
    rw [k]
    refine ⟨fun c => absurd c (by decide), fun _ => ?_⟩
    refine ⟨fun c => absurd c (by decide), fun _ => ?_⟩
    refine ⟨fun c => absurd c (by decide), fun _ => ?_⟩
    refine ⟨fun c => absurd c (by decide), fun _ => ?_⟩
    refine ⟨fun c => absurd c (by decide), fun _ => ?_⟩
    refine ⟨fun _ => ?_, fun c => absurd rfl c⟩
    refine am_run hX 4 _ _ _ _ ?_
    conv => whnf
    refine am_cq (ct_puR (d := d + 1) (p := 1) h hi n1 t4) ?_
    rintro r N1 ⟨rfl, f1, h1⟩
    refine ⟨_, rfl, ?_⟩
    conv => whnf
    refine am_run hX 1 _ _ _ _ ?_
    conv => whnf
    exact fin N1 _ _ _ _ f1 h1 e
  · obtain ⟨n1, e⟩ := one 6 (by omega)
    rw [k]
    refine ⟨fun c => absurd c (by decide), fun _ => ?_⟩
    refine ⟨fun c => absurd c (by decide), fun _ => ?_⟩
    refine ⟨fun c => absurd c (by decide), fun _ => ?_⟩
    refine ⟨fun c => absurd c (by decide), fun _ => ?_⟩
    refine ⟨fun c => absurd c (by decide), fun _ => ?_⟩
    refine ⟨fun c => absurd c (by decide), fun _ => ?_⟩
    refine ⟨fun _ => ?_, fun c => absurd rfl c⟩
    refine am_run hX 4 _ _ _ _ ?_
    conv => whnf
    refine am_cq (ct_puR (d := d + 1) (p := 6) h hi n1 t4) ?_
    rintro r N1 ⟨rfl, f1, h1⟩
    refine ⟨_, rfl, ?_⟩
    conv => whnf
    refine am_run hX 1 _ _ _ _ ?_
    conv => whnf
    exact fin N1 _ _ _ _ f1 h1 e
  · obtain ⟨n1, e⟩ := one 7 (by omega)
    rw [k]
    refine ⟨fun c => absurd c (by decide), fun _ => ?_⟩
    refine ⟨fun c => absurd c (by decide), fun _ => ?_⟩
    refine ⟨fun c => absurd c (by decide), fun _ => ?_⟩
    refine ⟨fun c => absurd c (by decide), fun _ => ?_⟩
    refine ⟨fun c => absurd c (by decide), fun _ => ?_⟩
    refine ⟨fun c => absurd c (by decide), fun _ => ?_⟩
    refine ⟨fun c => absurd c (by decide), fun _ => ?_⟩
    refine ⟨fun _ => ?_, fun c => absurd rfl c⟩
    refine am_run hX 4 _ _ _ _ ?_
    conv => whnf
    refine am_cq (ct_puR (d := d + 1) (p := 7) h hi n1 t4) ?_
    rintro r N1 ⟨rfl, f1, h1⟩
    refine ⟨_, rfl, ?_⟩
    conv => whnf
    refine am_run hX 1 _ _ _ _ ?_
    conv => whnf
    exact fin N1 _ _ _ _ f1 h1 e
  · obtain ⟨s1, s2, s3⟩ := hg.2.2 k
    rw [k]
    refine ⟨fun c => absurd c (by decide), fun _ => ?_⟩
    refine ⟨fun c => absurd c (by decide), fun _ => ?_⟩
    refine ⟨fun c => absurd c (by decide), fun _ => ?_⟩
    refine ⟨fun c => absurd c (by decide), fun _ => ?_⟩
    refine ⟨fun c => absurd c (by decide), fun _ => ?_⟩
    refine ⟨fun c => absurd c (by decide), fun _ => ?_⟩
    refine ⟨fun c => absurd c (by decide), fun _ => ?_⟩
    refine ⟨fun c => absurd c (by decide), fun _ => ?_⟩
    refine dR_sw hX ha ho h hi t4 s1 fun N' f h' => ⟨rfl, f, ?_⟩
    unfold drO
    rw [if_pos k]
    exact h'
end DRT
