/-! group: the reference finds THE GROUP; the pair -/
/-- what finding may change -/
def gfF (M N : mm_M) : Prop := (∀ k, k ≠ 108 → k ≠ 154 → k ≠ 155 → k ≠ 156 → N.1 k = M.1 k) ∧ (∀ k, k ≠ 118 → N.2 k = M.2 k) ∧ ∀ y, y ≠ 74 → y ≠ 77 → N.1 108 y = M.1 108 y
theorem gfF_r (M : mm_M) : gfF M M := ⟨fun _ _ _ _ _ => rfl, fun _ _ => rfl, fun _ _ _ => rfl⟩
theorem gfF_t {M N K : mm_M} (h : gfF M N) (g : gfF N K) : gfF M K := ⟨fun k a b c e => (g.1 k a b c e).trans (h.1 k a b c e), fun k a => (g.2.1 k a).trans (h.2.1 k a), fun y a b => (g.2.2 y a b).trans (h.2.2 y a b)⟩
theorem gfF_k {M N : mm_M} (h : tkF M N) : gfF M N := ⟨fun k a b c _ => h.1 k a b c, fun k _ => by rw [h.2.1], fun y _ b => h.2.2 y b⟩
theorem gfF_l {M : mm_M} {f : Nat → Int64} : gfF M (mm_l M 118 f) := ⟨fun _ _ _ _ _ => rfl, fun k hk => mm_lne _ _ _ _ hk, fun _ _ _ => rfl⟩
theorem gfF_i {M : mm_M} {f : Nat → Int32} : gfF M (mm_i M 156 f) := ⟨fun j _ _ _ e => mm_ne _ _ _ _ e, fun _ _ => rfl, fun y _ _ => by rw [mm_ne _ _ _ _ (by decide)]⟩
theorem grS_f {M N : mm_M} {w k : Nat} {ys : Nat → R4} (hf : gfF M N) (h : grS M w k ys) : grS N w k ys := by
  obtain ⟨a, b, c, e⟩ := h
  refine ⟨a, b, by rw [hf.2.2 71 (by decide) (by decide)]; exact c, fun j hj => ⟨(e j hj).1, ?_⟩⟩
  rw [hf.2.1 150 (by decide)]
  exact (e j hj).2
section GPK
variable {d : Nat} {M : mm_M} {w k : Nat} {ys : Nat → R4}
/-- rows of THE GROUP that are reduced -/
def grI (w : Nat) (ys : Nat → R4) (R : Nat → Nat) (r : Nat) : Prop := rrf R r ∧ ∀ i, i < r → fxG w ys (R i)
set_option maxRecDepth 100000 in
theorem fr_z {P : am_Q} {X : am_X} {x : Nat} (hX : am_K (d + 3) false nm_X12_findGroup P X) (h : grS M w k ys) (hn : nzS w ys) (hx : x < 2 ^ w) (hK : ∀ N R r, gfF M N → N.1 108 74 = 1 → grRr N w R r → grI w ys R r → ahG w ys (x + 1) R r → X 63 [some (aR 108), some (aI (nI x)), some (aI (nI (2 ^ w)))] [] N) : ∀ (m z : Nat) (N : mm_M) (R : Nat → Nat) (r : Nat), z + m = 2 ^ w → gfF M N → N.1 108 74 = 1 → grRr N w R r → grI w ys R r → ahG w ys x R r → (∀ z', z' < z → sgV w ys x z' ≠ -1 → Spn R r (x + 2 ^ w * z')) → X 32 [some (aR 108), some (aI (nI x)), some (aI (nI z))] [] N := by
  have w8 := h.1
  have h8 := w256 w8
  intro m
  induction m with
  | zero =>
    intro z N R r hz hF h74 hR hI hA hZ
    obtain rfl : z = 2 ^ w := by omega
    have hN := grS_f hF h
    refine am_run hX 6 _ _ _ _ ?_
    conv => whnf
    rw [hN.2.2.1, sh2 w (by omega)]
    refine ⟨fun _ => ?_, fun c => absurd (nI_le (Nat.le_refl _) (by omega)) c⟩
    refine hK N R r hF h74 hR hI (ah_s hA (fun v hv hvx => ?_))
    have := hZ (v / 2 ^ w) (v_z hv.1) (by have := sg_v hv; rw [hvx] at this; exact this)
    rw [← hvx, ← v_sp] at this
    exact this
  | succ m ih =>
    intro z N R r hz hF h74 hR hI hA hZ
    have hN := grS_f hF h
    have zl : z < 2 ^ w := by omega
    refine am_run hX 6 _ _ _ _ ?_
    conv => whnf
    rw [hN.2.2.1, sh2 w (by omega)]
    refine ⟨fun c => absurd c (nI_ge (by omega) (by omega)), fun _ => ?_⟩
    refine am_run hX 4 _ _ _ _ ?_
    conv => whnf
    refine am_cq (ct_sgnR (d := d) hN hx zl) fun r1 N1 hq => ?_
    obtain ⟨rfl, f, rfl⟩ := hq
    refine ⟨_, rfl, ?_⟩
    have hF1 : gfF M (mm_l N 118 f) := gfF_t hF gfF_l
    have hR1 : grRr (mm_l N 118 f) w R r := hR
    have h741 : (mm_l N 118 f).1 108 74 = 1 := h74
    refine am_run hX 1 _ _ _ _ ?_
    conv => whnf
    by_cases c : sgV w ys x z = -1
    · rw [c]
      refine ⟨fun _ => ?_, fun q => absurd (by decide) q⟩
      refine am_run hX 2 _ _ _ _ ?_
      conv => whnf
      rw [nI_1]
      refine ih (z + 1) _ R r (by omega) hF1 h741 hR1 hI hA (fun z' hz' hs => ?_)
      by_cases q : z' = z
      · subst q
        exact absurd c hs
      · exact hZ z' (by omega) hs
    · have hg := (sg_g (ys := ys) hx zl).mp c
      have hnn : ¬ sgV w ys x z < 0 := by
        unfold sgV at c ⊢
        by_cases c0 : fxB w ys x z 0 = true
        · rw [if_pos c0]
          decide
        · rw [if_neg c0] at c ⊢
          by_cases c1 : fxB w ys x z 1 = true
          · rw [if_pos c1]
            decide
          · rw [if_neg c1] at c
            exact absurd rfl c
      refine ⟨fun q => absurd q hnn, fun _ => ?_⟩
      refine am_run hX 4 _ _ _ _ ?_
      conv => whnf
      have key := ct_takeR (d := d + 1) (M := mm_l N 118 f) (w := w) (ys := ys) (R := R) (r := r) (v := x + 2 ^ w * z) hn w8 hN.2.2.1 hR1 hI.1 hI.2 hg
      rw [(v_pk hx).1, (v_pk hx).2] at key
      refine am_cq key fun r2 N2 hq2 => ?_
      obtain ⟨rfl, g1, R', r', g2, g3, g4, g5, g6⟩ := hq2
      refine ⟨none, rfl, ?_⟩
      refine am_run hX 2 _ _ _ _ ?_
      conv => whnf
      rw [nI_1]
      refine ih (z + 1) N2 R' r' (by omega) (gfF_t hF1 (gfF_k g1)) ((g1.2.2 74 (by decide)).trans h741) g2 ⟨g3, g4⟩ (fun v hv hl => g6 v (hA v hv hl)) (fun z' hz' hs => ?_)
      by_cases q : z' = z
      · subst q
        exact g5
      · exact g6 _ (hZ z' (by omega) hs)
set_option maxRecDepth 100000 in
theorem fr_x {P : am_Q} {X : am_X} (hX : am_K (d + 3) false nm_X12_findGroup P X) (h : grS M w k ys) (hn : nzS w ys) (hK : ∀ N R r l2, gfF M N → N.1 108 74 = 1 → grRr N w R r → grI w ys R r → ahG w ys (2 ^ w) R r → X 69 [some (aR 108), some (aI (nI (2 ^ w))), l2] [] N) : ∀ (m x : Nat) (N : mm_M) (R : Nat → Nat) (r : Nat) (l2 : Option am_V), x + m = 2 ^ w → gfF M N → N.1 108 74 = 1 → grRr N w R r → grI w ys R r → ahG w ys x R r → X 20 [some (aR 108), some (aI (nI x)), l2] [] N := by
  have w8 := h.1
  have h8 := w256 w8
  intro m
  induction m with
  | zero =>
    intro x N R r l2 hx hF h74 hR hI hA
    obtain rfl : x = 2 ^ w := by omega
    have hN := grS_f hF h
    refine am_run hX 6 _ _ _ _ ?_
    conv => whnf
    rw [hN.2.2.1, sh2 w (by omega)]
    refine ⟨fun _ => hK N R r _ hF h74 hR hI hA, fun c => absurd (nI_le (Nat.le_refl _) (by omega)) c⟩
  | succ m ih =>
    intro x N R r l2 hx hF h74 hR hI hA
    have hN := grS_f hF h
    refine am_run hX 6 _ _ _ _ ?_
    conv => whnf
    rw [hN.2.2.1, sh2 w (by omega)]
    refine ⟨fun c => absurd c (nI_ge (by omega) (by omega)), fun _ => ?_⟩
    refine am_run hX 2 _ _ _ _ ?_
    conv => whnf
    refine fr_z (d := d) (M := M) hX h hn (x := x) (by omega) (fun N' R' r' a b c e f => ?_) (2 ^ w) 0 N R r (by omega) hF h74 hR hI hA (fun z' hz' => absurd hz' (Nat.not_lt_zero _))
    refine am_run hX 2 _ _ _ _ ?_
    conv => whnf
    rw [nI_1]
    exact ih (x + 1) N' R' r' _ (by omega) a b c e f
/-- the reference knows THE GROUP -/
def grG (N : mm_M) (w : Nat) (ys : Nat → R4) : Prop := ∃ R r, grRr N w R r ∧ gpR w ys R r ∧ ∀ i, i < r → N.1 156 i = sgV w ys (R i % 2 ^ w) (R i / 2 ^ w)
set_option maxRecDepth 100000 in
theorem fr_s {P : am_Q} {X : am_X} {R : Nat → Nat} {r : Nat} {l2 : Option am_V} (hX : am_K (d + 3) false nm_X12_findGroup P X) (h : grS M w k ys) (hG : gpR w ys R r) (hK : ∀ N, gfF M N → N.1 108 74 = 1 → grRr N w R r → (∀ i, i < r → N.1 156 i = sgV w ys (R i % 2 ^ w) (R i / 2 ^ w)) → P (.inl none) N) : ∀ (m i : Nat) (N : mm_M), i + m = r → gfF M N → N.1 108 74 = 1 → grRr N w R r → (∀ j, j < i → N.1 156 j = sgV w ys (R j % 2 ^ w) (R j / 2 ^ w)) → X 71 [some (aR 108), some (aI (nI i)), l2] [] N := by
  have w8 := h.1
  have h8 := w256 w8
  have hp := Nat.two_pow_pos w
  have r16 := tr_16 (rrf_tri hG.1)
  intro m
  induction m with
  | zero =>
    intro i N hi hF h74 hR hS
    obtain rfl : i = r := by omega
    refine am_run hX 5 _ _ _ _ ?_
    conv => whnf
    rw [hR.1]
    refine ⟨fun _ => ?_, fun c => absurd (nI_le (Nat.le_refl _) (by omega)) c⟩
    conv => whnf
    exact ⟨trivial, hK N hF h74 hR hS⟩
  | succ m ih =>
    intro i N hi hF h74 hR hS
    have il : i < r := by omega
    have hN := grS_f hF h
    have hl := gpl_l hG il
    obtain ⟨c1, c2⟩ := hR.2 i il
    have e154 : N.1 154 (nI i).toNatClampNeg = nI (R i % 2 ^ w) := by
      rw [nI_clamp (by omega)]
      exact c1
    have e155 : N.1 155 (nI i).toNatClampNeg = nI (R i / 2 ^ w) := by
      rw [nI_clamp (by omega)]
      exact c2
    refine am_run hX 4 _ _ _ _ ?_
    conv => whnf
    rw [hR.1]
    refine ⟨fun c => absurd c (nI_ge (by omega) (by omega)), fun _ => ?_⟩
    refine am_run hX 13 _ _ _ _ ?_
    conv => whnf
    refine ⟨vp_in_nI (by show i < 16; omega) (by decide), ?_⟩
    conv => whnf
    refine ⟨vp_in_nI (by show i < 16; omega) (by decide), ?_⟩
    conv => whnf
    rw [e154, e155]
    refine am_cq (ct_sgnR (d := d) hN (Nat.mod_lt _ hp) (v_z hl)) fun r1 N1 hq => ?_
    obtain ⟨rfl, f, rfl⟩ := hq
    refine ⟨_, rfl, ?_⟩
    refine am_run hX 3 _ _ _ _ ?_
    conv => whnf
    refine ⟨vp_in_nI (by show i < 16; omega) (by decide), ?_⟩
    conv => whnf
    rw [nI_clamp (n := i) (by omega), nI_1]
    refine ih (i + 1) _ (by omega) (gfF_t hF (gfF_t gfF_l gfF_i)) h74 hR (fun j hj => ?_)
    rw [mm_i1]
    by_cases q : j = i
    · subst q
      exact if_pos rfl
    · refine (if_neg q).trans ?_
      exact hS j (by omega)
set_option maxRecDepth 100000 in
theorem ct_findGR (h : grS M w k ys) (hn : nzS w ys) (hc : M.1 108 74 = 0 ∨ M.1 108 74 = 1 ∧ grG M w ys) : am_M (d + 4) false nm_X12_findGroup [aR 108] M (fun r N => r = .inl none ∧ gfF M N ∧ N.1 108 74 = 1 ∧ grG N w ys) := by
  rcases hc with hc | ⟨hc, hg⟩
  · refine ⟨rfl, rfl, rfl, fun X hX => am_run hX 3 _ _ _ _ ?_⟩
    conv => whnf
    rw [hc]
    refine ⟨fun _ => ?_, fun c => absurd rfl c⟩
    refine am_run hX 8 _ _ _ _ ?_
    conv => whnf
    refine ⟨⟨rfl, rfl⟩, ?_⟩
    conv => whnf
    refine fr_x (d := d) (M := M) (w := w) (ys := ys) (k := k) hX h hn (fun N R r l2 hF h74 hR hI hA => ?_) (2 ^ w) 0 _ (fun _ => 0) 0 _ (by omega) ⟨fun j a _ _ _ => ?_, fun _ _ => rfl, fun y a b => ?_⟩ ?_ ⟨?_, fun i hi => absurd hi (Nat.not_lt_zero _)⟩ ⟨⟨fun i hi => absurd hi (Nat.not_lt_zero _), fun i j _ hj => absurd hj (Nat.not_lt_zero _), fun i j hi => absurd hi (Nat.not_lt_zero _)⟩, fun i hi => absurd hi (Nat.not_lt_zero _)⟩ (fun v _ hl => absurd hl (Nat.not_lt_zero _))
    · have hgp : gpR w ys R r := ⟨hI.1, fun v => ⟨fun hs => sp_cl fxG_0 (fun a b ha hb => fxG_x hn ha hb) hI.2 hs, fun hv => hA v hv (Nat.mod_lt _ (Nat.two_pow_pos w))⟩⟩
      refine am_run hX 2 _ _ _ _ ?_
      conv => whnf
      exact fr_s (d := d) (M := M) (k := k) hX h hgp (fun N2 a b c e => ⟨rfl, a, b, R, r, c, hgp, e⟩) r 0 N (by omega) hF h74 hR (fun j hj => absurd hj (Nat.not_lt_zero _))
    · rw [mm_ne _ _ _ _ a, mm_ne _ _ _ _ a]
    · rw [mm_i1, mm_i1]
      refine (if_neg b).trans ?_
      exact if_neg a
    · rw [mm_i1, mm_i1]
      rfl
    · rw [mm_i1]
      rfl
  · refine ⟨rfl, rfl, rfl, fun X hX => am_run hX 4 _ _ _ _ ?_⟩
    conv => whnf
    rw [hc]
    refine ⟨fun c => absurd c (by decide), fun _ => ?_⟩
    conv => whnf
    exact ⟨trivial, rfl, gfF_r M, hc, hg⟩
end GPK
