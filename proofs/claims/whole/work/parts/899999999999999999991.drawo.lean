/-! DIAGRAMS: drawing one OP -/
def phK (k : Nat) : Nat := if k = 4 then 2 else if k = 5 then 1 else k
def drO (x : bk_X) (σ : DR) : DR :=
  if x.1 = 8 then swD σ x.2.1 x.2.2.1
  else if x.1 = 3 then tws σ x.2.1
  else if x.1 = 0 then tws (if x.2.2.2.1 = 0 then pu (tws σ x.2.1) x.2.1 4 else ctl2 (tws σ x.2.1) (lw x.2.2.2.1) x.2.1) x.2.1
  else if x.1 = 1 then tws (pu (tws (pu σ x.2.1 4) x.2.1) x.2.1 4) x.2.1
  else if x.1 = 2 then (if x.2.2.2.1 = 0 then pu σ x.2.1 4 else ctl2 σ (lw x.2.2.2.1) x.2.1)
  else pu σ x.2.1 (phK x.1)
/-- it can be drawn -/
def dOK (x : bk_X) : Prop := x.1 < 9 ∧ x.2.2.2.2.1 = 0 ∧ x.2.2.2.2.2 = 0 ∧ (x.2.2.2.1 ≠ 0 → pc x.2.2.2.1 = 1 ∧ (x.1 = 0 ∨ x.1 = 2))
def dcn (x : bk_X) : Nat := if x.1 = 3 ∨ x.1 = 8 then 0 else if x.2.2.2.1 ≠ 0 ∨ x.1 = 1 then 2 else 1
theorem lw_4 {W c : Nat} (hW : W ≤ 4) (hc : c < 2 ^ W) (h0 : c ≠ 0) : lw c < W := by
  have h16 := p16 hW hc
  obtain ⟨_, b, _⟩ := lw_r c (by omega) (by omega)
  apply Decidable.byContradiction
  intro hn
  have : c < 2 ^ lw c := Nat.lt_of_lt_of_le hc (Nat.pow_le_pow_right (by decide) (by omega))
  rw [Nat.testBit_lt_two_pow this] at b
  exact absurd b (by decide)
section DRO
variable {d inp : Nat} {N : mm_M} {σ : DR} {x : bk_X}
theorem lw_ne (h : ogd inp x) (i4 : inp ≤ 4) (h0 : x.2.2.2.1 ≠ 0) : lw x.2.2.2.1 < inp ∧ lw x.2.2.2.1 ≠ x.2.1 := ⟨lw_4 i4 h.1.2.2.2.1 h0, (lw_w (by omega) h h0).2⟩
theorem dr_O (hi : drI inp σ) (h : ogd inp x) (ok : dOK x) (hm : σ.1 + dcn x ≤ 60) : drI inp (drO x σ) ∧ (drO x σ).1 = σ.1 + dcn x := by
  have i4 := hi.1.2.2.1
  have t := h.1.2.1
  unfold drO
  by_cases k8 : x.1 = 8
  · rw [if_pos k8]
    rw [show dcn x = 0 from if_pos (Or.inr k8)]
    exact ⟨dr_sw hi t (h.2.2 k8).1, rfl⟩
  rw [if_neg k8]
  by_cases k3 : x.1 = 3
  · rw [if_pos k3]
    rw [show dcn x = 0 from if_pos (Or.inl k3)]
    exact ⟨dr_tw hi t, rfl⟩
  rw [if_neg k3]
  have d1 : x.2.2.2.1 = 0 → ¬ x.1 = 1 → dcn x = 1 := fun a b => by
    unfold dcn
    rw [if_neg (by omega), if_neg (by omega)]
  have d2 : (x.2.2.2.1 ≠ 0 ∨ x.1 = 1) → dcn x = 2 := fun a => by
    unfold dcn
    rw [if_neg (by omega), if_pos a]
  by_cases k0 : x.1 = 0
  · rw [if_pos k0]
    by_cases c0 : x.2.2.2.1 = 0
    · rw [if_pos c0]
      rw [d1 c0 (by omega)] at hm ⊢
      exact ⟨dr_tw (dr_pu (dr_tw hi t) (by show σ.1 < 60; omega) t (by decide)) t, rfl⟩
    · rw [if_neg c0]
      rw [d2 (Or.inl c0)] at hm ⊢
      obtain ⟨a1, a2⟩ := lw_ne h i4 c0
      exact ⟨dr_tw (dr_ct (dr_tw hi t) (by show σ.1 + 1 < 60; omega) a1 t a2) t, rfl⟩
  rw [if_neg k0]
  by_cases k1 : x.1 = 1
  · rw [if_pos k1]
    rw [d2 (Or.inr k1)] at hm ⊢
    exact ⟨dr_tw (dr_pu (dr_tw (dr_pu hi (by omega) t (by decide)) t) (by show σ.1 + 1 < 60; omega) t (by decide)) t, rfl⟩
  rw [if_neg k1]
  by_cases k2 : x.1 = 2
  · rw [if_pos k2]
    by_cases c0 : x.2.2.2.1 = 0
    · rw [if_pos c0]
      rw [d1 c0 (by omega)] at hm ⊢
      exact ⟨dr_pu hi (by omega) t (by decide), rfl⟩
    · rw [if_neg c0]
      rw [d2 (Or.inl c0)] at hm ⊢
      obtain ⟨a1, a2⟩ := lw_ne h i4 c0
      exact ⟨dr_ct hi (by omega) a1 t a2, rfl⟩
  rw [if_neg k2]
  have c0 : x.2.2.2.1 = 0 := by
    apply Decidable.byContradiction
    intro hc
    have := (ok.2.2.2 hc).2
    omega
  rw [d1 c0 k1] at hm ⊢
  refine ⟨dr_pu hi (by omega) t ?_, rfl⟩
  have := ok.1
  unfold phK
  by_cases k4 : x.1 = 4
  · rw [if_pos k4]; decide
  · rw [if_neg k4]
    by_cases k5 : x.1 = 5
    · rw [if_pos k5]; decide
    · rw [if_neg k5]; omega
theorem twM_0 : twM N (N.1 39 8 ^^^ 0) = N := by
  unfold twM
  rw [Int32.xor_zero, upd_self, mm_iz]
theorem tw_i {k : Nat} : k = 0 ∨ k = 1 ∨ k = 3 ∨ ¬ (k = 0 ∨ k = 1 ∨ k = 3) := by omega
set_option maxRecDepth 100000 in
theorem do_41 {k : Nat} {v1 v3 : Int32} {l4 l5 : Option am_V} {Pp : am_Q} {X : am_X} (hX : am_K d false nm_X10_drawOp Pp X) (k11 : k < 11) (hK : X 62 [some (aR 39), some (aI v1), some (aI (nI k)), some (aI v3), some (aI (if k = 0 ∨ k = 1 ∨ k = 3 then 1 else 0)), l5] [] N) : X 41 [some (aR 39), some (aI v1), some (aI (nI k)), some (aI v3), l4, l5] [] N := by
  have yes : (k = 0 ∨ k = 1 ∨ k = 3) → X 55 [some (aR 39), some (aI v1), some (aI (nI k)), some (aI v3), l4, l5] [] N := fun hk => by
    rw [if_pos hk] at hK
    refine am_run hX 3 _ _ _ _ ?_
    conv => whnf
    exact hK
  refine am_run hX 2 _ _ _ _ ?_
  conv => whnf
  by_cases k0 : k = 0
  · exact ⟨fun _ => yes (Or.inl k0), fun c => absurd (by rw [k0]; rfl) c⟩
  refine ⟨fun c => absurd ((nI_eq (b := 0) (by omega) (by decide)).mp c) k0, fun _ => ?_⟩
  refine am_run hX 3 _ _ _ _ ?_
  conv => whnf
  by_cases k1 : k = 1
  · exact ⟨fun _ => yes (Or.inr (Or.inl k1)), fun c => absurd (by rw [k1]; rfl) c⟩
  refine ⟨fun c => absurd ((nI_eq (b := 1) (by omega) (by decide)).mp c) k1, fun _ => ?_⟩
  refine am_run hX 3 _ _ _ _ ?_
  conv => whnf
  by_cases k3 : k = 3
  · refine ⟨fun c => absurd (by rw [k3]; rfl) c, fun _ => yes (Or.inr (Or.inr k3))⟩
  refine ⟨fun _ => ?_, fun c => absurd (fun z => k3 ((nI_eq (b := 3) (by omega) (by decide)).mp z)) c⟩
  rw [if_neg (by omega)] at hK
  refine am_run hX 2 _ _ _ _ ?_
  conv => whnf
  exact hK
set_option maxRecDepth 100000 in
theorem do_62 {w : Nat} {v1 v2 : Int32} {l5 : Option am_V} {Pp : am_Q} {X : am_X} {b : Prop} [Decidable b] (hX : am_K d false nm_X10_drawOp Pp X) (h : drC N inp σ) (k16 : σ.2.2.2 < 16) (hw : w < 4) (hK : ∀ N', dcF N N' → drC N' inp (if b then tws σ w else σ) → X 83 [some (aR 39), some (aI v1), some (aI v2), some (aI (nI w)), some (aI (if b then 1 else 0)), l5] [] N') : X 62 [some (aR 39), some (aI v1), some (aI v2), some (aI (nI w)), some (aI (if b then 1 else 0)), l5] [] N := by
  by_cases hb : b
  · rw [if_pos hb] at hK ⊢
    refine am_run hX 5 _ _ _ _ ?_
    conv => whnf
    refine ⟨fun c => absurd c (by decide), fun _ => ?_⟩
    refine am_run hX 6 _ _ _ _ ?_
    conv => whnf
    have := drC_tw h k16 hw
    rw [if_pos hb] at hK
    exact hK _ dcF_tw this
  · rw [if_neg hb] at hK ⊢
    refine am_run hX 5 _ _ _ _ ?_
    conv => whnf
    refine ⟨fun _ => ?_, fun c => absurd rfl c⟩
    refine am_run hX 3 _ _ _ _ ?_
    conv => whnf
    rw [if_neg hb] at hK
    have := hK N (dcF_r N) h
    rw [← twM_0 (N := N)] at this
    exact this
set_option maxRecDepth 100000 in
theorem do_159 {k w : Nat} {v1 : Int32} {l4 l5 : Option am_V} {Pp : am_Q} {X : am_X} (hX : am_K d false nm_X10_drawOp Pp X) (k11 : k < 11) (h : drC N inp σ) (k16 : σ.2.2.2 < 16) (hw : w < 4) (hP : ∀ N', dcF N N' → drC N' inp (if k = 0 ∨ k = 1 then tws σ w else σ) → Pp (.inl none) N') : X 159 [some (aR 39), some (aI v1), some (aI (nI k)), some (aI (nI w)), l4, l5] [] N := by
  have yes : (k = 0 ∨ k = 1) → X 173 [some (aR 39), some (aI v1), some (aI (nI k)), some (aI (nI w)), l4, l5] [aI (N.1 39 8), aR 39] N := fun hk => by
    rw [if_pos hk] at hP
    refine am_run hX 7 _ _ _ _ ?_
    conv => whnf
    exact ⟨trivial, hP _ dcF_tw (drC_tw h k16 hw)⟩
  refine am_run hX 5 _ _ _ _ ?_
  conv => whnf
  by_cases k0 : k = 0
  · exact ⟨fun _ => yes (Or.inl k0), fun c => absurd (by rw [k0]; rfl) c⟩
  refine ⟨fun c => absurd ((nI_eq (b := 0) (by omega) (by decide)).mp c) k0, fun _ => ?_⟩
  refine am_run hX 3 _ _ _ _ ?_
  conv => whnf
  by_cases k1 : k = 1
  · exact ⟨fun c => absurd (by rw [k1]; rfl) c, fun _ => yes (Or.inr k1)⟩
  refine ⟨fun _ => ?_, fun c => absurd (fun z => k1 ((nI_eq (b := 1) (by omega) (by decide)).mp z)) c⟩
  rw [if_neg (by omega)] at hP
  have := hP N (dcF_r N) h
  rw [← twM_0 (N := N)] at this
  refine am_run hX 4 _ _ _ _ ?_
  conv => whnf
  exact ⟨trivial, this⟩
end DRO
