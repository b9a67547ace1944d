/-! THE PAIR term, both sides -/
section TR2
variable {d : Nat} {M : mm_M} {a b : Nat} {A B : SU}
theorem orS_1 {k : Nat} {p q : Int32} (hk : k < 65536) : orS (oneT k p q) := ⟨by show 1 ≤ 150; decide, by show 0 ≤ 60; decide, fun i j hij hj => by have hj : j < 1 := hj; omega, fun i _ => hk⟩
theorem orS_0 : orS noT := ⟨by decide, by decide, fun i j hij hj => absurd hj (Nat.not_lt_zero _), fun i hi => absurd hi (Nat.not_lt_zero _)⟩
theorem adE_2 {N : mm_M} {sg : Int32} {X : SU} (hab : b ≤ 1) (h : f2M M N) (r : _) (M' : mm_M) (hE : adE N a b sg A X r M') : adE M a b sg A X r M' := by
  obtain ⟨h1, h2, h3, h4⟩ := hE
  exact ⟨csF_t (f2M_F h) h1, csG_t (f2M_G h) h2, fun B hB => h3 B (f2M_c h hab (by decide) hB), h4⟩
set_option maxRecDepth 100000 in
theorem ct_addT {x z : Nat} {p q : Int32} (hr : sm_r M a b) (h1 : csS M a 0 A) (oA : orS A) (hx : x < 256) (hz : z < 256) : am_M (d + 5) false nm_X9_addTerm [aR 83, aI (nI x), aI (nI z), aI p, aI q] M (fun r M' => (¬ (p = 0 ∧ q = 0) ∧ adE M a b 1 A (oneT (256 * x + z) p q) r M') ∨ ((p = 0 ∧ q = 0) ∧ adE M a b 1 A noT r M')) := by
  have hab : a ≤ 1 ∧ b ≤ 1 := by
    have := hr.1
    omega
  have hr0 := hr
  obtain ⟨_, ⟨_, _, a3⟩, ⟨_, _, b3⟩, ⟨_, _, c3⟩⟩ := hr
  have h2 : vp_in 2 3 := vp_in_nI (n := 2) (N := 3) (by decide) (by decide)
  have f1 : f2M M (eM2 M) := f2M_e
  refine ⟨rfl, rfl, rfl, fun X hX => ?_⟩
  have no : (p = 0 ∧ q = 0) → X 38 [some (aR 83), some (aI (nI x)), some (aI (nI z)), some (aI p), some (aI q)] [] (eM2 M) := fun hpq => by
    refine am_run hX 20 _ _ _ _ ?_
    conv => whnf
    have key := ct_addE (d := d) (M := eM2 M) (sg := 1) (xr := 2) (xp := 2) (X := noT) (sm_rG (f2M_G f1) hr0) (Or.inr ⟨rfl, rfl⟩) (f2M_c f1 hab.1 (by decide) h1) ⟨rfl, rfl, fun i hi => absurd hi (Nat.not_lt_zero _)⟩ oA orS_0
    refine am_cq key ?_
    intro r M' hE
    have hE := adE_2 hab.2 f1 r M' hE
    have hE' := hE
    obtain ⟨_, _, _, ⟨_, rfl, _⟩ | ⟨_, _, _, _, ⟨_, rfl, _⟩ | ⟨_, rfl, _⟩⟩⟩ := hE'
    all_goals (
      refine ⟨_, rfl, ?_⟩
      conv => whnf
      exact ⟨rfl, Or.inr ⟨hpq, hE⟩⟩)
  have yes : ¬ (p = 0 ∧ q = 0) → X 23 [some (aR 83), some (aI (nI x)), some (aI (nI z)), some (aI p), some (aI q)] [] (eM2 M) := fun hpq => by
    refine am_run hX 30 _ _ _ _ ?_
    conv => whnf
    rw [show (256 : Int32) = nI 256 from rfl, nI_mul, nI_add]
    have f2 : f2M M (stMx (eM2 M) 2 2 0 (nI (256 * x + z)) p q) := f2M_t f1 f2M_s
    refine am_c0 (ct_setT (d := d + 3) (M := eM2 M) (x := 2) (ph := 2) (s := 0) (k := nI (256 * x + z)) (p := p) (q := q) (by decide) (by decide) a3 b3 c3 rfl) ?_
    conv => whnf
    have key := ct_addE (d := d) (M := stMx (eM2 M) 2 2 0 (nI (256 * x + z)) p q) (sg := 1) (xr := 2) (xp := 2) (X := oneT (256 * x + z) p q) (sm_rG (f2M_G f2) hr0) (Or.inr ⟨rfl, rfl⟩) (f2M_c f2 hab.1 (by decide) h1) ⟨rfl, rfl, fun i hi => by
      have hi : i < 1 := hi
      have e : i = 0 := by omega
      subst e
      exact ⟨rfl, rfl, rfl⟩⟩ oA (orS_1 (by omega))
    refine am_cq key ?_
    intro r M' hE
    have hE := adE_2 hab.2 f2 r M' hE
    have hE' := hE
    obtain ⟨_, _, _, ⟨_, rfl, _⟩ | ⟨_, _, _, _, ⟨_, rfl, _⟩ | ⟨_, rfl, _⟩⟩⟩ := hE'
    all_goals (
      refine ⟨_, rfl, ?_⟩
      conv => whnf
      exact ⟨rfl, Or.inl ⟨hpq, hE⟩⟩)
  refine am_run hX 12 _ _ _ _ ?_
  conv => whnf
  refine ⟨h2, ?_⟩
  conv => whnf
  refine ⟨h2, ?_⟩
  conv => whnf
  refine ⟨fun c => yes fun z => c z.1, fun c => ?_⟩
  have c : p = 0 := Decidable.byContradiction c
  refine am_run hX 2 _ _ _ _ ?_
  conv => whnf
  refine ⟨fun c2 => no ⟨c, c2⟩, fun c2 => yes fun z => c2 z.2⟩
/-- out of bounds -/
def teB (x z p q : Int32) : Prop := x < 0 ∨ 255 < x ∨ z < 0 ∨ 255 < z ∨ smJ p.toInt64 = false ∨ smJ q.toInt64 = false
theorem b255 {s : Int32} (h1 : ¬ s < 0) (h2 : ¬ 255 < s) : ∃ v, v < 256 ∧ s = nI v := set_n (w := 8) (by decide) ⟨h1, fun z => h2 (Int32.lt_of_lt_of_le (by decide) z)⟩
/-- the answer of a class's step: how many TERMS, or none -/
def clA (M : mm_M) (a b : Nat) (A : SU) (P Q : Nat → Int64) (m c : Nat) (κ : Nat → Nat) : am_Q := fun r M' => csF M M' ∧ csG M M' ∧ (∀ B, csS M b 1 B → csS M' b 1 B) ∧ ((okN P Q m c κ = true ∧ r = .inl (some (aI (nI c))) ∧ csS M' a 0 (newS P Q m c κ)) ∨ (okN P Q m c κ = false ∧ r = .inl (some (aI (-1))) ∧ csS M' a 0 A))
set_option maxRecDepth 100000 in
theorem tex_n {x z p q : Int32} {Pp : am_Q} {Z : am_X} (hZ : am_K d false nm_X11_term Pp Z) (hP : Pp (.inl (some (aI (-1)))) M) : Z 39 [some (aR 0), some (aI x), some (aI z), some (aI p), some (aI q)] [] M := by
  refine am_run hZ 2 _ _ _ _ ?_
  conv => whnf
  exact ⟨trivial, hP⟩
set_option maxRecDepth 100000 in
theorem tex_f2 {x z p q : Int32} {bq : Bool} {Pp : am_Q} {Z : am_X} (hZ : am_K (d + 1) false nm_X11_term Pp Z) (kq : am_M (d + 1) false nm_X9_fits [aJ q.toInt64] M (am_q1 (aI (b01 bq)) M)) (hP : ¬ bq = true → Z 39 [some (aR 0), some (aI x), some (aI z), some (aI p), some (aI q)] [] M) (hK : bq = true → Z 41 [some (aR 0), some (aI x), some (aI z), some (aI p), some (aI q)] [] M) : Z 30 [some (aR 0), some (aI x), some (aI z), some (aI p), some (aI q)] [] M := by
  refine am_run hZ 4 _ _ _ _ ?_
  conv => whnf
  refine am_c1 kq ?_
  cases bq with
  | false =>
    conv => whnf
    refine ⟨fun c => absurd rfl c, fun _ => ?_⟩
    exact hP (by decide)
  | true =>
    conv => whnf
    refine ⟨fun _ => ?_, fun c => absurd (by decide) c⟩
    exact hK rfl
set_option maxRecDepth 100000 in
theorem tex_f1 {x z p q : Int32} {bp : Bool} {Pp : am_Q} {Z : am_X} (hZ : am_K (d + 1) false nm_X11_term Pp Z) (kp : am_M (d + 1) false nm_X9_fits [aJ p.toInt64] M (am_q1 (aI (b01 bp)) M)) (hP : ¬ bp = true → Z 39 [some (aR 0), some (aI x), some (aI z), some (aI p), some (aI q)] [] M) (hK : bp = true → Z 30 [some (aR 0), some (aI x), some (aI z), some (aI p), some (aI q)] [] M) : Z 22 [some (aR 0), some (aI x), some (aI z), some (aI p), some (aI q)] [] M := by
  refine am_run hZ 4 _ _ _ _ ?_
  conv => whnf
  refine am_c1 kp ?_
  cases bp with
  | false =>
    conv => whnf
    refine ⟨fun _ => ?_, fun c => absurd rfl c⟩
    exact hP (by decide)
  | true =>
    conv => whnf
    refine ⟨fun c => absurd c (by decide), fun _ => ?_⟩
    exact hK rfl
theorem tex_f {x z p q : Int32} {bp bq : Bool} {Pp : am_Q} {Z : am_X} (hZ : am_K (d + 1) false nm_X11_term Pp Z) (kp : am_M (d + 1) false nm_X9_fits [aJ p.toInt64] M (am_q1 (aI (b01 bp)) M)) (kq : am_M (d + 1) false nm_X9_fits [aJ q.toInt64] M (am_q1 (aI (b01 bq)) M)) (hP : ¬ (bp = true ∧ bq = true) → Pp (.inl (some (aI (-1)))) M) (hK : bp = true → bq = true → Z 41 [some (aR 0), some (aI x), some (aI z), some (aI p), some (aI q)] [] M) : Z 22 [some (aR 0), some (aI x), some (aI z), some (aI p), some (aI q)] [] M := tex_f1 hZ kp (fun h => tex_n hZ (hP fun z => h z.1)) fun h1 => tex_f2 hZ kq (fun h => tex_n hZ (hP fun z => h z.2)) fun h2 => hK h1 h2
set_option maxRecDepth 100000 in
theorem tex_b {x z p q : Int32} {Pp : am_Q} {Z : am_X} (hZ : am_K d false nm_X11_term Pp Z) (hP : ¬ (¬ x < 0 ∧ ¬ 255 < x ∧ ¬ z < 0 ∧ ¬ 255 < z) → Pp (.inl (some (aI (-1)))) M) (hK : ¬ x < 0 → ¬ 255 < x → ¬ z < 0 → ¬ 255 < z → Z 22 [some (aR 0), some (aI x), some (aI z), some (aI p), some (aI q)] [] M) : Z 0 [some (aR 0), some (aI x), some (aI z), some (aI p), some (aI q)] [] M := by
  refine am_run hZ 2 _ _ _ _ ?_
  conv => whnf
  refine ⟨fun c => tex_n hZ (hP fun y => y.1 c), fun c1 => ?_⟩
  refine am_run hZ 3 _ _ _ _ ?_
  conv => whnf
  refine ⟨fun c => tex_n hZ (hP fun y => y.2.1 c), fun c2 => ?_⟩
  refine am_run hZ 2 _ _ _ _ ?_
  conv => whnf
  refine ⟨fun c => tex_n hZ (hP fun y => y.2.2.1 c), fun c3 => ?_⟩
  refine am_run hZ 3 _ _ _ _ ?_
  conv => whnf
  refine ⟨fun c => tex_n hZ (hP fun y => y.2.2.2 c), fun c4 => ?_⟩
  exact hK c1 c2 c3 c4
set_option maxRecDepth 100000 in
theorem tex_1 {x z : Nat} {p q : Int32} (hr : sm_r M a b) (h1 : csS M a 0 A) (oA : okS A) (hx : x < 256) (hz : z < 256) (hp : smJ p.toInt64 = true) (hq : smJ q.toInt64 = true) : am_M (d + 6) false nm_X11_term [aR 0, aI (nI x), aI (nI z), aI p, aI q] M (fun r M' => ∃ X, ((¬ (p = 0 ∧ q = 0) ∧ X = oneT (256 * x + z) p q) ∨ ((p = 0 ∧ q = 0) ∧ X = noT)) ∧ csF M M' ∧ csG M M' ∧ (∀ B, csS M b 1 B → csS M' b 1 B) ∧ ((farC A X ∧ r = .inl (some (aI (-1))) ∧ csS M' a 0 A) ∨ (¬ farC A X ∧ ∃ c κ, enX (suP (max A.2.1 X.2.1) 1 A X) (suQ (max A.2.1 X.2.1) 1 A X) c κ ∧ clA M a b A (suP (max A.2.1 X.2.1) 1 A X) (suQ (max A.2.1 X.2.1) 1 A X) (max A.2.1 X.2.1) c κ r M'))) := by
  have h0 : vp_in 0 3 := vp_in_nI (n := 0) (N := 3) (by decide) (by decide)
  refine ⟨rfl, rfl, rfl, fun Z hZ => tex_b hZ (fun c => absurd ⟨nI_pos (by omega), nI_nlt (a := 255) (b := x) (by omega) (by decide), nI_pos (by omega), nI_nlt (a := 255) (b := z) (by omega) (by decide)⟩ c) fun _ _ _ _ => tex_f (d := d + 4) hZ ct_fits ct_fits (fun c => absurd ⟨hp, hq⟩ c) fun _ _ => ?_⟩
  refine am_run hZ 8 _ _ _ _ ?_
  conv => whnf
  refine am_cq (ct_addT (d := d) (p := p) (q := q) hr h1 (okS_or oA) hx hz) ?_
  intro r M' hE
  have hE : ∃ X, ((¬ (p = 0 ∧ q = 0) ∧ X = oneT (256 * x + z) p q) ∨ ((p = 0 ∧ q = 0) ∧ X = noT)) ∧ adE M a b 1 A X r M' := by
    rcases hE with ⟨k1, k2⟩ | ⟨k1, k2⟩
    · exact ⟨_, Or.inl ⟨k1, rfl⟩, k2⟩
    · exact ⟨_, Or.inr ⟨k1, rfl⟩, k2⟩
  obtain ⟨S, hS, e1, e2, e3, hE⟩ := hE
  rcases hE with ⟨k1, rfl, k3⟩ | ⟨k1, c, κ, k2, ⟨k3, rfl, k4⟩ | ⟨k3, rfl, k4⟩⟩
  · refine ⟨_, rfl, ?_⟩
    conv => whnf
    refine ⟨fun _ => ?_, fun c => absurd rfl c⟩
    refine am_run hZ 2 _ _ _ _ ?_
    conv => whnf
    exact ⟨trivial, S, hS, e1, e2, e3, Or.inl ⟨k1, rfl, k3⟩⟩
  · refine ⟨_, rfl, ?_⟩
    conv => whnf
    refine ⟨fun c => absurd c (by decide), fun _ => ?_⟩
    refine am_run hZ 8 _ _ _ _ ?_
    conv => whnf
    refine ⟨h0, ?_⟩
    conv => whnf
    rw [show M'.1 96 (Int32.toNatClampNeg 0) = nI c from k4.1]
    exact ⟨trivial, S, hS, e1, e2, e3, Or.inr ⟨k1, c, κ, k2, e1, e2, e3, Or.inl ⟨k3, rfl, k4⟩⟩⟩
  · refine ⟨_, rfl, ?_⟩
    conv => whnf
    refine ⟨fun _ => ?_, fun c => absurd rfl c⟩
    refine am_run hZ 2 _ _ _ _ ?_
    conv => whnf
    exact ⟨trivial, S, hS, e1, e2, e3, Or.inr ⟨k1, c, κ, k2, e1, e2, e3, Or.inr ⟨k3, rfl, k4⟩⟩⟩
set_option maxRecDepth 100000 in
theorem tex_0 {x z p q : Int32} (h : teB x z p q) : am_M (d + 2) false nm_X11_term [aR 0, aI x, aI z, aI p, aI q] M (am_q1 (aI (-1)) M) := by
  refine ⟨rfl, rfl, rfl, fun Z hZ => tex_b hZ (fun _ => ⟨rfl, rfl⟩) fun c1 c2 c3 c4 => tex_f (d := d) hZ ct_fits ct_fits (fun _ => ⟨rfl, rfl⟩) fun hp hq => ?_⟩
  unfold teB at h
  rw [hp, hq] at h
  rcases h with h | h | h | h | h | h
  · exact absurd h c1
  · exact absurd h c2
  · exact absurd h c3
  · exact absurd h c4
  · exact absurd h (by decide)
  · exact absurd h (by decide)
end TR2
