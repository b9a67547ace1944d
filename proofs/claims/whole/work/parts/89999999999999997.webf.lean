/-! DIAGRAMS: the tests ahead of fuse and pivot; the reference's remove -/
section WBF
variable {d m inp : Nat} {N : mm_M} {W : WB}
/-- two inner SPIDERS with an EDGE of this kind -/
def edW (inp : Nat) (W : WB) (k a b : Nat) : Prop := inW inp W a ∧ inW inp W b ∧ a < b ∧ W.2.2 a b = k
set_option maxRecDepth 100000 in
theorem fu_c {p q : Int32} {Pp : am_Q} {X : am_X} (hX : am_K (d + 2) false nm_X10_fuse Pp X) (h : cwR N m inp W) (g : gdW m inp W) (hN : ¬ (∃ a b, p = nI a ∧ q = nI b ∧ edW inp W 1 a b) → X 31 [some (aR 39), some (aI p), some (aI q), none, none, none, none, none, none] [] N) (hK : ∀ a b, p = nI a → q = nI b → edW inp W 1 a b → X 33 [some (aR 39), some (aI p), some (aI q), none, none, none, none, none, none] [] N) : X 0 [some (aR 39), some (aI p), some (aI q), none, none, none, none, none, none] [] N := by
  have m60 := g.1
  have g5 := g.2.2.2.2.1
  by_cases hp : ∃ i, inW inp W i ∧ p = nI i
  · refine am_run hX 4 _ _ _ _ ?_
    conv => whnf
    refine am_c1 (ct_inC (d := d) h g) ?_
    rw [iteC_t hp]
    conv => whnf
    refine ⟨fun c => absurd c (by decide), fun _ => ?_⟩
    by_cases hq : ∃ i, inW inp W i ∧ q = nI i
    · refine am_run hX 4 _ _ _ _ ?_
      conv => whnf
      refine am_c1 (ct_inC (d := d) h g) ?_
      rw [iteC_t hq]
      conv => whnf
      refine ⟨fun c => absurd c (by decide), fun _ => ?_⟩
      obtain ⟨a, ia, rfl⟩ := hp
      obtain ⟨b, ib, rfl⟩ := hq
      have la := g5 a ia.1
      have lb := g5 b ib.1
      have noT : ∀ a' b', nI a = nI a' → nI b = nI b' → ∀ {P : Nat → Nat → Prop}, ¬ P a b → inW inp W a' ∧ inW inp W b' → ¬ P a' b' := fun a' b' e1 e2 P hP y => by
        have l1 := g5 a' y.1.1
        have l2 := g5 b' y.2.1
        rw [← (nI_eq (by omega) (by omega)).mp e1, ← (nI_eq (by omega) (by omega)).mp e2]
        exact hP
      by_cases hab : a < b
      · refine am_run hX 3 _ _ _ _ ?_
        conv => whnf
        refine ⟨fun c => absurd c (nI_ge hab (by omega)), fun _ => ?_⟩
        refine am_run hX 6 _ _ _ _ ?_
        conv => whnf
        refine am_c1 (ct_ekC (d := d + 1) h g.1 (g.2.2.2.2.2.2.2.2.1 a b) (by omega) (by omega)) ?_
        conv => whnf
        have e2 := g.2.2.2.2.2.2.2.2.1 a b
        by_cases he : W.2.2 a b = 1
        · refine ⟨fun _ => hK a b rfl rfl ⟨ia, ib, hab, he⟩, fun c => absurd (by rw [he]; rfl) c⟩
        · refine ⟨fun c => absurd ((nI_eq (a := W.2.2 a b) (b := 1) (by omega) (by decide)).mp c) he, fun _ => ?_⟩
          exact hN fun ⟨a', b', e1, e2, y⟩ => noT a' b' e1 e2 (P := fun x y => W.2.2 x y = 1) he ⟨y.1, y.2.1⟩ y.2.2.2
      · refine am_run hX 3 _ _ _ _ ?_
        conv => whnf
        refine ⟨fun _ => ?_, fun c => absurd (nI_le (by omega) (by omega)) c⟩
        exact hN fun ⟨a', b', e1, e2, y⟩ => noT a' b' e1 e2 (P := fun x y => x < y) hab ⟨y.1, y.2.1⟩ y.2.2.1
    · refine am_run hX 4 _ _ _ _ ?_
      conv => whnf
      refine am_c1 (ct_inC (d := d) h g) ?_
      rw [iteC_f hq]
      conv => whnf
      refine ⟨fun _ => ?_, fun c => absurd rfl c⟩
      exact hN fun ⟨a', b', e1, e2, y⟩ => hq ⟨b', y.2.1, e2⟩
  · refine am_run hX 4 _ _ _ _ ?_
    conv => whnf
    refine am_c1 (ct_inC (d := d) h g) ?_
    rw [iteC_f hp]
    conv => whnf
    refine ⟨fun _ => ?_, fun c => absurd rfl c⟩
    exact hN fun ⟨a', b', e1, e2, y⟩ => hp ⟨a', y.1, e1⟩
set_option maxRecDepth 100000 in
theorem fu_r {p q : Int32} {Pp : am_Q} {X : am_X} (hX : am_K (d + 2) false nm_X12_fuse Pp X) (h : rwR N inp W) (g : gdW m inp W) (hN : ¬ (∃ a b, p = nI a ∧ q = nI b ∧ edW inp W 1 a b) → X 31 [some (aR 108), some (aI p), some (aI q), none] [] N) (hK : ∀ a b, p = nI a → q = nI b → edW inp W 1 a b → X 33 [some (aR 108), some (aI p), some (aI q), none] [] N) : X 0 [some (aR 108), some (aI p), some (aI q), none] [] N := by
  have m60 := g.1
  have g5 := g.2.2.2.2.1
  by_cases hp : ∃ i, inW inp W i ∧ p = nI i
  · refine am_run hX 4 _ _ _ _ ?_
    conv => whnf
    refine am_c1 (ct_inR (d := d) h g) ?_
    rw [iteC_t hp]
    conv => whnf
    refine ⟨fun c => absurd c (by decide), fun _ => ?_⟩
    by_cases hq : ∃ i, inW inp W i ∧ q = nI i
    · refine am_run hX 4 _ _ _ _ ?_
      conv => whnf
      refine am_c1 (ct_inR (d := d) h g) ?_
      rw [iteC_t hq]
      conv => whnf
      refine ⟨fun c => absurd c (by decide), fun _ => ?_⟩
      obtain ⟨a, ia, rfl⟩ := hp
      obtain ⟨b, ib, rfl⟩ := hq
      have la := g5 a ia.1
      have lb := g5 b ib.1
      have noT : ∀ a' b', nI a = nI a' → nI b = nI b' → ∀ {P : Nat → Nat → Prop}, ¬ P a b → inW inp W a' ∧ inW inp W b' → ¬ P a' b' := fun a' b' e1 e2 P hP y => by
        have l1 := g5 a' y.1.1
        have l2 := g5 b' y.2.1
        rw [← (nI_eq (by omega) (by omega)).mp e1, ← (nI_eq (by omega) (by omega)).mp e2]
        exact hP
      by_cases hab : a < b
      · refine am_run hX 3 _ _ _ _ ?_
        conv => whnf
        refine ⟨fun c => absurd c (nI_ge hab (by omega)), fun _ => ?_⟩
        refine am_run hX 6 _ _ _ _ ?_
        conv => whnf
        refine am_c1 (ct_ekR (d := d + 1) h (by omega) (by omega)) ?_
        conv => whnf
        have e2 := g.2.2.2.2.2.2.2.2.1 a b
        by_cases he : W.2.2 a b = 1
        · refine ⟨fun _ => hK a b rfl rfl ⟨ia, ib, hab, he⟩, fun c => absurd (by rw [he]; rfl) c⟩
        · refine ⟨fun c => absurd ((nI_eq (a := W.2.2 a b) (b := 1) (by omega) (by decide)).mp c) he, fun _ => ?_⟩
          exact hN fun ⟨a', b', e1, e2, y⟩ => noT a' b' e1 e2 (P := fun x y => W.2.2 x y = 1) he ⟨y.1, y.2.1⟩ y.2.2.2
      · refine am_run hX 3 _ _ _ _ ?_
        conv => whnf
        refine ⟨fun _ => ?_, fun c => absurd (nI_le (by omega) (by omega)) c⟩
        exact hN fun ⟨a', b', e1, e2, y⟩ => noT a' b' e1 e2 (P := fun x y => x < y) hab ⟨y.1, y.2.1⟩ y.2.2.1
    · refine am_run hX 4 _ _ _ _ ?_
      conv => whnf
      refine am_c1 (ct_inR (d := d) h g) ?_
      rw [iteC_f hq]
      conv => whnf
      refine ⟨fun _ => ?_, fun c => absurd rfl c⟩
      exact hN fun ⟨a', b', e1, e2, y⟩ => hq ⟨b', y.2.1, e2⟩
  · refine am_run hX 4 _ _ _ _ ?_
    conv => whnf
    refine am_c1 (ct_inR (d := d) h g) ?_
    rw [iteC_f hp]
    conv => whnf
    refine ⟨fun _ => ?_, fun c => absurd rfl c⟩
    exact hN fun ⟨a', b', e1, e2, y⟩ => hp ⟨a', y.1, e1⟩
set_option maxRecDepth 100000 in
theorem pi_c {p q : Int32} {Pp : am_Q} {X : am_X} (hX : am_K (d + 2) false nm_X10_pivot Pp X) (h : cwR N m inp W) (g : gdW m inp W) (hN : ¬ (∃ a b, p = nI a ∧ q = nI b ∧ edW inp W 2 a b) → X 31 [some (aR 39), some (aI p), some (aI q), none, none, none, none, none, none, none, none, none, none] [] N) (hK : ∀ a b, p = nI a → q = nI b → edW inp W 2 a b → X 33 [some (aR 39), some (aI p), some (aI q), none, none, none, none, none, none, none, none, none, none] [] N) : X 0 [some (aR 39), some (aI p), some (aI q), none, none, none, none, none, none, none, none, none, none] [] N := by
  have m60 := g.1
  have g5 := g.2.2.2.2.1
  by_cases hp : ∃ i, inW inp W i ∧ p = nI i
  · refine am_run hX 4 _ _ _ _ ?_
    conv => whnf
    refine am_c1 (ct_inC (d := d) h g) ?_
    rw [iteC_t hp]
    conv => whnf
    refine ⟨fun c => absurd c (by decide), fun _ => ?_⟩
    by_cases hq : ∃ i, inW inp W i ∧ q = nI i
    · refine am_run hX 4 _ _ _ _ ?_
      conv => whnf
      refine am_c1 (ct_inC (d := d) h g) ?_
      rw [iteC_t hq]
      conv => whnf
      refine ⟨fun c => absurd c (by decide), fun _ => ?_⟩
      obtain ⟨a, ia, rfl⟩ := hp
      obtain ⟨b, ib, rfl⟩ := hq
      have la := g5 a ia.1
      have lb := g5 b ib.1
      have noT : ∀ a' b', nI a = nI a' → nI b = nI b' → ∀ {P : Nat → Nat → Prop}, ¬ P a b → inW inp W a' ∧ inW inp W b' → ¬ P a' b' := fun a' b' e1 e2 P hP y => by
        have l1 := g5 a' y.1.1
        have l2 := g5 b' y.2.1
        rw [← (nI_eq (by omega) (by omega)).mp e1, ← (nI_eq (by omega) (by omega)).mp e2]
        exact hP
      by_cases hab : a < b
      · refine am_run hX 3 _ _ _ _ ?_
        conv => whnf
        refine ⟨fun c => absurd c (nI_ge hab (by omega)), fun _ => ?_⟩
        refine am_run hX 6 _ _ _ _ ?_
        conv => whnf
        refine am_c1 (ct_ekC (d := d + 1) h g.1 (g.2.2.2.2.2.2.2.2.1 a b) (by omega) (by omega)) ?_
        conv => whnf
        have e2 := g.2.2.2.2.2.2.2.2.1 a b
        by_cases he : W.2.2 a b = 2
        · refine ⟨fun _ => hK a b rfl rfl ⟨ia, ib, hab, he⟩, fun c => absurd (by rw [he]; rfl) c⟩
        · refine ⟨fun c => absurd ((nI_eq (a := W.2.2 a b) (b := 2) (by omega) (by decide)).mp c) he, fun _ => ?_⟩
          exact hN fun ⟨a', b', e1, e2, y⟩ => noT a' b' e1 e2 (P := fun x y => W.2.2 x y = 2) he ⟨y.1, y.2.1⟩ y.2.2.2
      · refine am_run hX 3 _ _ _ _ ?_
        conv => whnf
        refine ⟨fun _ => ?_, fun c => absurd (nI_le (by omega) (by omega)) c⟩
        exact hN fun ⟨a', b', e1, e2, y⟩ => noT a' b' e1 e2 (P := fun x y => x < y) hab ⟨y.1, y.2.1⟩ y.2.2.1
    · refine am_run hX 4 _ _ _ _ ?_
      conv => whnf
      refine am_c1 (ct_inC (d := d) h g) ?_
      rw [iteC_f hq]
      conv => whnf
      refine ⟨fun _ => ?_, fun c => absurd rfl c⟩
      exact hN fun ⟨a', b', e1, e2, y⟩ => hq ⟨b', y.2.1, e2⟩
  · refine am_run hX 4 _ _ _ _ ?_
    conv => whnf
    refine am_c1 (ct_inC (d := d) h g) ?_
    rw [iteC_f hp]
    conv => whnf
    refine ⟨fun _ => ?_, fun c => absurd rfl c⟩
    exact hN fun ⟨a', b', e1, e2, y⟩ => hp ⟨a', y.1, e1⟩
set_option maxRecDepth 100000 in
theorem pi_r {p q : Int32} {Pp : am_Q} {X : am_X} (hX : am_K (d + 2) false nm_X12_pivot Pp X) (h : rwR N inp W) (g : gdW m inp W) (hN : ¬ (∃ a b, p = nI a ∧ q = nI b ∧ edW inp W 2 a b) → X 53 [some (aR 108), some (aI p), some (aI q), none, none, none, none] [] N) (hK : ∀ a b, p = nI a → q = nI b → edW inp W 2 a b → X 31 [some (aR 108), some (aI p), some (aI q), none, none, none, none] [] N) : X 0 [some (aR 108), some (aI p), some (aI q), none, none, none, none] [] N := by
  have m60 := g.1
  have g5 := g.2.2.2.2.1
  by_cases hp : ∃ i, inW inp W i ∧ p = nI i
  · refine am_run hX 4 _ _ _ _ ?_
    conv => whnf
    refine am_c1 (ct_inR (d := d) h g) ?_
    rw [iteC_t hp]
    conv => whnf
    refine ⟨fun c => absurd c (by decide), fun _ => ?_⟩
    by_cases hq : ∃ i, inW inp W i ∧ q = nI i
    · refine am_run hX 4 _ _ _ _ ?_
      conv => whnf
      refine am_c1 (ct_inR (d := d) h g) ?_
      rw [iteC_t hq]
      conv => whnf
      refine ⟨fun c => absurd c (by decide), fun _ => ?_⟩
      obtain ⟨a, ia, rfl⟩ := hp
      obtain ⟨b, ib, rfl⟩ := hq
      have la := g5 a ia.1
      have lb := g5 b ib.1
      have noT : ∀ a' b', nI a = nI a' → nI b = nI b' → ∀ {P : Nat → Nat → Prop}, ¬ P a b → inW inp W a' ∧ inW inp W b' → ¬ P a' b' := fun a' b' e1 e2 P hP y => by
        have l1 := g5 a' y.1.1
        have l2 := g5 b' y.2.1
        rw [← (nI_eq (by omega) (by omega)).mp e1, ← (nI_eq (by omega) (by omega)).mp e2]
        exact hP
      by_cases hab : a < b
      · refine am_run hX 3 _ _ _ _ ?_
        conv => whnf
        refine ⟨fun c => absurd c (nI_ge hab (by omega)), fun _ => ?_⟩
        refine am_run hX 6 _ _ _ _ ?_
        conv => whnf
        refine am_c1 (ct_ekR (d := d + 1) h (by omega) (by omega)) ?_
        conv => whnf
        have e2 := g.2.2.2.2.2.2.2.2.1 a b
        by_cases he : W.2.2 a b = 2
        · refine ⟨fun c => absurd (by rw [he]; rfl) c, fun _ => hK a b rfl rfl ⟨ia, ib, hab, he⟩⟩
        · refine ⟨fun _ => ?_, fun c => absurd (fun z => he ((nI_eq (a := W.2.2 a b) (b := 2) (by omega) (by decide)).mp z)) c⟩
          exact hN fun ⟨a', b', e1, e2, y⟩ => noT a' b' e1 e2 (P := fun x y => W.2.2 x y = 2) he ⟨y.1, y.2.1⟩ y.2.2.2
      · refine am_run hX 3 _ _ _ _ ?_
        conv => whnf
        refine ⟨fun _ => ?_, fun c => absurd (nI_le (by omega) (by omega)) c⟩
        exact hN fun ⟨a', b', e1, e2, y⟩ => noT a' b' e1 e2 (P := fun x y => x < y) hab ⟨y.1, y.2.1⟩ y.2.2.1
    · refine am_run hX 4 _ _ _ _ ?_
      conv => whnf
      refine am_c1 (ct_inR (d := d) h g) ?_
      rw [iteC_f hq]
      conv => whnf
      refine ⟨fun _ => ?_, fun c => absurd rfl c⟩
      exact hN fun ⟨a', b', e1, e2, y⟩ => hq ⟨b', y.2.1, e2⟩
  · refine am_run hX 4 _ _ _ _ ?_
    conv => whnf
    refine am_c1 (ct_inR (d := d) h g) ?_
    rw [iteC_f hp]
    conv => whnf
    refine ⟨fun _ => ?_, fun c => absurd rfl c⟩
    exact hN fun ⟨a', b', e1, e2, y⟩ => hp ⟨a', y.1, e1⟩
def rmM (N : mm_M) (a : Nat) : mm_M := mm_i (mm_i N 169 (upd (N.1 169) a 0)) 170 (upd (N.1 170) a 0)
theorem rwF_rm {a : Nat} : rwF N (rmM N a) := by
  refine ⟨fun k c1 c2 _ => ?_, rfl⟩
  simp [rmM, mm_i, c1, c2]
theorem rwR_rm {a : Nat} (h : rwR N inp W) : rwR (rmM N a) inp ((rmW W a).1, W.2.1, W.2.2) := by
  obtain ⟨h1, h2, h3, h4, h5⟩ := h
  refine ⟨h1, h2, fun i hi => ?_, fun i hi => ?_, h5⟩
  · show upd (N.1 169) a 0 i = if (if i = a then false else W.1 i) = true then 1 else 0
    unfold upd
    by_cases e : i = a
    · rw [if_pos e, if_pos e]
      rfl
    · rw [if_neg e, if_neg e]
      exact h3 i hi
  · have hi : (if i = a then false else W.1 i) = true := hi
    by_cases e : i = a
    · rw [if_pos e] at hi
      exact absurd hi (by decide)
    · rw [if_neg e] at hi
      show upd (N.1 170) a 0 i = nI (W.2.1 i)
      unfold upd
      rw [if_neg e]
      exact h4 i hi
set_option maxRecDepth 100000 in
theorem wrr_l {a : Nat} {Pp : am_Q} {X : am_X} {N0 : mm_M} (hX : am_K (d + 1) false nm_X12_remove Pp X) (ha : a < 60) (hP : ∀ N, rwF N0 N → rwR N inp (W.1, W.2.1, rmE W.2.2 a 60) → Pp (.inl none) N) : ∀ w i N, i + w = 60 → rwF N0 N → rwR N inp (W.1, W.2.1, rmE W.2.2 a i) → X 16 [some (aR 108), some (aI (nI a)), some (aI (nI i))] [] N := by
  intro w
  induction w with
  | zero =>
    intro i N hi hf h
    have hi : i = 60 := by omega
    subst hi
    refine am_run hX 4 _ _ _ _ ?_
    conv => whnf
    refine ⟨fun _ => ?_, fun c => absurd (by decide) c⟩
    conv => whnf
    exact ⟨trivial, hP N hf h⟩
  | succ w ih =>
    intro i N hi hf h
    refine am_run hX 3 _ _ _ _ ?_
    conv => whnf
    refine ⟨fun c => absurd c (nI_ge (a := i) (b := 60) (by omega) (by decide)), fun _ => ?_⟩
    refine am_run hX 7 _ _ _ _ ?_
    conv => whnf
    refine am_c0 (ct_seR0 (d := d) (a := a) (b := i) (v := 0) ha (by omega)) ?_
    conv => whnf
    rw [nI_1]
    refine ih (i + 1) _ (by omega) (rwF_t hf rwF_se) ?_
    have := rwR_se (a := a) (b := i) (v := 0) h ha (by omega)
    rw [← rmE_s]
    exact this
set_option maxRecDepth 100000 in
theorem ct_rmR {a : Nat} (h : rwR N inp W) (ha : a < 60) : am_M (d + 2) false nm_X12_remove [aR 108, aI (nI a)] N (fun r N' => r = .inl none ∧ rwF N N' ∧ rwR N' inp (rmW W a)) := by
  have hA : vp_in (nI a) 60 := vp_in_nI ha (by decide)
  refine ⟨rfl, rfl, rfl, fun X hX => am_run hX 12 _ _ _ _ ?_⟩
  conv => whnf
  refine ⟨hA, ?_⟩
  conv => whnf
  refine ⟨hA, ?_⟩
  conv => whnf
  rw [nI_clamp (n := a) (by omega)]
  refine wrr_l (d := d) (N0 := N) (W := ((rmW W a).1, W.2.1, W.2.2)) hX ha (fun N' hf h' => ?_) 60 0 (rmM N a) (by omega) rwF_rm (by rw [rmE_0]; exact rwR_rm h)
  refine ⟨rfl, hf, h'.1, h'.2.1, h'.2.2.1, h'.2.2.2.1, fun i j hi hj => ?_⟩
  rw [h'.2.2.2.2 i j hi hj]
  show nI (rmE W.2.2 a 60 i j) = nI (if i = a ∨ j = a then 0 else W.2.2 i j)
  unfold rmE
  by_cases e : i = a ∨ j = a
  · rw [if_pos e, if_pos (by omega)]
  · rw [if_neg e, if_neg (by omega)]
end WBF
