/-! spoil, the reference: one number -/
def scl (F : Int) (x : R4) : R4 := (x.1 * F, x.2.1 * F, x.2.2.1 * F, x.2.2.2 * F)
def scp (F : Int) (x : R4) (p : Nat) : R4 := (if 0 < p then x.1 * F else x.1, if 1 < p then x.2.1 * F else x.2.1, if 2 < p then x.2.2.1 * F else x.2.2.1, if 3 < p then x.2.2.2 * F else x.2.2.2)
theorem rr_scl (F : Int) (x : R4) : rr (scl F x) = scl F (rr x) := by
  unfold rr scl
  exact r4_e (by dsimp only; grind) (by dsimp only; grind) (by dsimp only; grind) (by dsimp only; grind)
theorem rn_scl (F : Int) (x : R4) : ∀ n, rn n (scl F x) = scl F (rn n x)
  | 0 => rfl
  | n + 1 => by
    show rr (rn n (scl F x)) = scl F (rr (rn n x))
    rw [rn_scl F x n, rr_scl]
theorem vr_scl {K l : Nat} {X y : R4} (F : Int) (h : vr K X l y) : vr K (scl F X) l (scl F y) := ⟨h.1, by rw [rn_scl, h.2]⟩
/-- what may change -/
def soF (K N : mm_M) : Prop := N.1 = K.1 ∧ ∀ c, c ≠ 118 → c ≠ 119 → c ≠ 163 → N.2 c = K.2 c
theorem soF_t {K N P : mm_M} (h : soF K N) (h' : soF N P) : soF K P := ⟨h'.1.trans h.1, fun c a b e => (h'.2 c a b e).trans (h.2 c a b e)⟩
theorem soF_l {N : mm_M} {c : Nat} {f : Nat → Int64} (h : c = 118 ∨ c = 119 ∨ c = 163) : soF N (mm_l N c f) := ⟨rfl, fun k a b e => if_neg (by omega)⟩
section SPA
variable {d : Nat} {M : mm_M} {g : Nat → Int64}
theorem ov_p {x : R4} {l p : Nat} (hp : p < 4) : ov g x l p = lI (pp x p) := by
  rcases (by omega : p = 0 ∨ p = 1 ∨ p = 2 ∨ p = 3) with rfl | rfl | rfl | rfl <;> rfl
theorem ov_up {x : R4} {l p : Nat} {F : Int} (hp : p < 4) : vp_updL (ov g (scp F x p) l) p (lI (pp (scp F x p) p * F)) = ov g (scp F x (p + 1)) l := by
  rcases (by omega : p = 0 ∨ p = 1 ∨ p = 2 ∨ p = 3) with rfl | rfl | rfl | rfl
  · exact ov_u0 _ _ _ _
  · exact ov_u1 _ _ _ _
  · exact ov_u2 _ _ _ _
  · exact ov_u3 _ _ _ _
set_option maxRecDepth 100000 in
theorem as_l {x : R4} {l : Nat} {v1 v2 f : Int32} {F : Int} {Pp : am_Q} {X : am_X} (hX : am_K d false nm_X12_addSpoilt Pp X) (hf : f.toInt64 = lI F) (hK : X 41 [some (aR 108), some (aI v1), some (aI v2), some (aI f), some (aI (nI 4))] [] (mm_l M 118 (ov g (scl F x) l))) : ∀ m p, p + m = 4 → X 12 [some (aR 108), some (aI v1), some (aI v2), some (aI f), some (aI (nI p))] [] (mm_l M 118 (ov g (scp F x p) l)) := by
  intro m
  induction m with
  | zero =>
    intro p hp
    have hp : p = 4 := by omega
    subst hp
    refine am_run hX 3 _ _ _ _ ?_
    conv => whnf
    exact ⟨fun _ => hK, fun c => absurd (by decide) c⟩
  | succ m ih =>
    intro p hp
    have p4 : p < 4 := by omega
    have h1 : vp_in (nI p) 5 := vp_in_nI (by omega) (by decide)
    refine am_run hX 3 _ _ _ _ ?_
    conv => whnf
    refine ⟨fun c => absurd c (nI_ge (b := 4) p4 (by decide)), fun _ => ?_⟩
    refine am_run hX 7 _ _ _ _ ?_
    conv => whnf
    refine ⟨h1, ?_⟩
    conv => whnf
    rw [nI_clamp (n := p) (by omega), mm_l2, ov_p p4]
    refine am_run hX 4 _ _ _ _ ?_
    conv => whnf
    rw [hf, lI_mul]
    refine ⟨h1, ?_⟩
    conv => whnf
    rw [nI_clamp (n := p) (by omega), mm_l2, mm_ll, ov_up p4]
    refine am_run hX 2 _ _ _ _ ?_
    conv => whnf
    rw [nI_1]
    exact ih (p + 1) (by omega)
set_option maxRecDepth 100000 in
theorem ct_aSp {K a b : Nat} {x Z : R4} {f : Int32} {F : Int} (hf : f.toInt64 = lI F) (hK : K ≤ 120) (ha : a + 5 ≤ 320) (hb : b + 5 ≤ 320) (hx : at5 (M.2 162) b (red K x).1 (red K x).2) (hz : at5 (M.2 163) a (red K Z).1 (red K Z).2) (b1 : bd (scl F x)) (b2 : bd (ra Z (scl F x))) : am_M (d + 3) false nm_X12_addSpoilt [aR 108, aI (nI a), aI (nI b), aI f] M (fun r N => r = .inl none ∧ soF M N ∧ at5 (N.2 163) a (red K (ra Z (scl F x))).1 (red K (ra Z (scl F x))).2 ∧ ∀ j, (j < a ∨ a + 5 ≤ j) → N.2 163 j = M.2 163 j) := by
  have v1 := vr_scl F (vr_red K x)
  have e1 := vr_u v1
  have v2 := vr_ra (vr_red K (scl F x)) (vr_red K Z)
  rw [ra_c _ Z] at v2
  have e2 := vr_u v2
  have l1 := (vr_red K x).1
  have l3 := (vr_red K Z).1
  have l4 := (vr_red K (scl F x)).1
  refine ⟨rfl, rfl, rfl, fun X hX => am_run hX 5 _ _ _ _ ?_⟩
  conv => whnf
  refine am_c0 (ct_ld162 (d := d + 1) hb hx) ?_
  conv => whnf
  refine am_run hX 2 _ _ _ _ ?_
  conv => whnf
  refine as_l (x := (red K x).1) (F := F) hX hf ?_ 4 0 (by omega)
  refine am_run hX 5 _ _ _ _ ?_
  conv => whnf
  refine am_c0 (ct_red (d := d + 1) (by omega) (vr_bd v1 b1)) ?_
  rw [e1]
  conv => whnf
  refine am_run hX 6 _ _ _ _ ?_
  conv => whnf
  refine am_c0 (ct_add163p (d := d) (a := a) ha (by omega) (by omega) hz (vr_bd v2 b2)) ?_
  rw [e2]
  conv => whnf
  refine am_run hX 5 _ _ _ _ ?_
  conv => whnf
  refine am_c0 (ct_store163 (d := d + 1) ha) ?_
  conv => whnf
  refine am_run hX 1 _ _ _ _ ?_
  conv => whnf
  refine ⟨trivial, rfl, soF_t (soF_l (Or.inr (Or.inl rfl))) (soF_t (soF_l (Or.inl rfl)) (soF_l (Or.inr (Or.inr rfl)))), ?_, fun j hj => ?_⟩
  · rw [mm_l2, mm_l2]
    exact at_sv _ _ _ _ _
  · rw [mm_l2]
    unfold sv
    rw [if_neg (by omega)]
    rfl
set_option maxRecDepth 100000 in
theorem ct_sCe {K i j m v k : Nat} {x Z : R4} {F : Int} (hK : K ≤ 120) (hi : i < 8) (hj : j < 8) (hm : m = 1 ∨ m = 2 ∨ m = 4) (hv : 1 ≤ v ∧ v ≤ 3) (hk : k < 17) (hF : F = if 1 < v ∧ ¬ (i ^^^ j) &&& m = 0 then -(k : Int) else k) (hx : at5 (M.2 162) (if v = 3 then 5 * (8 * i + j) else 5 * (8 * (i ^^^ m) + (j ^^^ m))) (red K x).1 (red K x).2) (hz : at5 (M.2 163) (5 * (8 * i + j)) (red K Z).1 (red K Z).2) (b1 : bd (scl F x)) (b2 : bd (ra Z (scl F x))) : am_M (d + 4) false nm_X12_spoilCell [aR 108, aI (nI i), aI (nI j), aI (nI m), aI (nI v), aI (nI k)] M (fun r N => r = .inl none ∧ soF M N ∧ at5 (N.2 163) (5 * (8 * i + j)) (red K (ra Z (scl F x))).1 (red K (ra Z (scl F x))).2 ∧ ∀ q, (q < 5 * (8 * i + j) ∨ 5 * (8 * i + j) + 5 ≤ q) → N.2 163 q = M.2 163 q) := by
  have xi : i ^^^ m < 8 := Nat.xor_lt_two_pow (n := 3) hi (by omega)
  have xj : j ^^^ m < 8 := Nat.xor_lt_two_pow (n := 3) hj (by omega)
  have al : (i ^^^ j) &&& m < 8 := Nat.lt_of_le_of_lt Nat.and_le_right (by omega)
  have e1 : (nI k).toInt64 = lI k := lI_nI (by omega)
  have e2 : (-nI k).toInt64 = lI (-k) := by
    have : ∀ k, k < 17 → (-nI k).toInt64 = lI (-k) := by decide +kernel
    exact this k hk
  refine ⟨rfl, rfl, rfl, fun X hX => ?_⟩
  have k65 : ∀ f : Int32, f.toInt64 = lI F → ∀ dv : Int32, X 67 [some (aR 108), some (aI (nI i)), some (aI (nI j)), some (aI (nI m)), some (aI (nI v)), some (aI (nI k)), some (aI dv), some (aI (nI (if v = 3 then 5 * (8 * i + j) else 5 * (8 * (i ^^^ m) + (j ^^^ m)))))] [aI f, aI (nI (if v = 3 then 5 * (8 * i + j) else 5 * (8 * (i ^^^ m) + (j ^^^ m)))), aI (nI (5 * (8 * i + j))), aR 108] M := fun f hf dv => by
    refine am_run hX 1 _ _ _ _ ?_
    conv => whnf
    refine am_cq (ct_aSp (d := d) hf hK (by omega) (by by_cases c : v = 3; rw [if_pos c]; omega; rw [if_neg c]; omega) hx hz b1 b2) ?_
    rintro r N ⟨rfl, f1, f2, f3⟩
    refine ⟨_, rfl, ?_⟩
    conv => whnf
    refine am_run hX 1 _ _ _ _ ?_
    conv => whnf
    exact ⟨trivial, rfl, f1, f2, f3⟩
  have k38 : ∀ dv : Nat, (dv = 1 ↔ ¬ (i ^^^ j) &&& m = 0) → dv < 2 → X 38 [some (aR 108), some (aI (nI i)), some (aI (nI j)), some (aI (nI m)), some (aI (nI v)), some (aI (nI k)), some (aI (nI dv)), none] [aI (nI (if v = 3 then 5 * (8 * i + j) else 5 * (8 * (i ^^^ m) + (j ^^^ m))))] M := fun dv hd d2 => by
    refine am_run hX 5 _ _ _ _ ?_
    conv => whnf
    refine am_c1 (ct_cell (d := d + 2) i j) ?_
    conv => whnf
    refine am_run hX 4 _ _ _ _ ?_
    conv => whnf
    by_cases c1 : v ≤ 1
    · refine ⟨fun _ => ?_, fun c => absurd (nI_le (b := 1) c1 (by decide)) c⟩
      refine am_run hX 1 _ _ _ _ ?_
      conv => whnf
      refine k65 _ ?_ _
      rw [e1, hF, if_neg (by omega)]
    refine ⟨fun c => absurd c (nI_ge (a := 1) (b := v) (by omega) (by omega)), fun _ => ?_⟩
    refine am_run hX 2 _ _ _ _ ?_
    conv => whnf
    by_cases c2 : (i ^^^ j) &&& m = 0
    · have d0 : dv = 0 := by
        have : ¬ dv = 1 := fun z => hd.mp z c2
        omega
      subst d0
      refine ⟨fun _ => ?_, fun c => absurd rfl c⟩
      refine am_run hX 1 _ _ _ _ ?_
      conv => whnf
      refine k65 _ ?_ _
      rw [e1, hF, if_neg (fun z => z.2 c2)]
    · have d1 := hd.mpr c2
      subst d1
      refine ⟨fun c => absurd c (by decide), fun _ => ?_⟩
      refine am_run hX 3 _ _ _ _ ?_
      conv => whnf
      refine k65 _ ?_ _
      rw [e2, hF, if_pos ⟨by omega, c2⟩]
  have k13 : ∀ dv : Nat, (dv = 1 ↔ ¬ (i ^^^ j) &&& m = 0) → dv < 2 → X 13 [some (aR 108), some (aI (nI i)), some (aI (nI j)), some (aI (nI m)), some (aI (nI v)), some (aI (nI k)), none, none] [aI (nI dv)] M := fun dv hd d2 => by
    refine am_run hX 4 _ _ _ _ ?_
    conv => whnf
    by_cases c3 : v = 3
    · have := k38 dv hd d2
      rw [if_pos c3] at this
      refine ⟨fun c => absurd (by rw [c3]; rfl) c, fun _ => ?_⟩
      refine am_run hX 3 _ _ _ _ ?_
      conv => whnf
      refine am_c1 (ct_cell (d := d + 2) i j) ?_
      conv => whnf
      refine am_run hX 1 _ _ _ _ ?_
      conv => whnf
      exact this
    · have := k38 dv hd d2
      rw [if_neg c3] at this
      refine ⟨fun _ => ?_, fun c => absurd (fun z => c3 ((nI_eq (b := 3) (by omega) (by decide)).mp z)) c⟩
      refine am_run hX 7 _ _ _ _ ?_
      conv => whnf
      rw [nI_xor, nI_xor]
      refine am_c1 (ct_cell (d := d + 2) _ _) ?_
      conv => whnf
      exact this
  refine am_run hX 6 _ _ _ _ ?_
  conv => whnf
  rw [nI_xor, nI_and]
  by_cases c : (i ^^^ j) &&& m = 0
  · refine ⟨fun _ => ?_, fun z => absurd (by rw [c]; rfl) z⟩
    refine am_run hX 1 _ _ _ _ ?_
    conv => whnf
    exact k13 0 ⟨fun z => absurd z (by decide), fun z => absurd c z⟩ (by decide)
  · refine ⟨fun z => absurd ((nI_eq (b := 0) (by omega) (by decide)).mp z) c, fun _ => ?_⟩
    refine am_run hX 2 _ _ _ _ ?_
    conv => whnf
    exact k13 1 ⟨fun _ => c, fun _ => rfl⟩ (by decide)
end SPA
