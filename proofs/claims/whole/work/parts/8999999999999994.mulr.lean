/-! PRODUCTS of SUMS: the reference's multiplySums -/
section MLR
variable {d : Nat} {M : mm_M} {A B : SU} {K : Nat → Nat → Nat} {T U : Nat → Nat → Int64} {o : Int32}
/-- which way round -/
def mwR (o : Int32) (A B : SU) (K : Nat → Nat → Nat) (T U : Nat → Nat → Int64) : Prop := (o = 0 ∧ K = (fun i j => A.2.2.1 i ^^^ B.2.2.1 j) ∧ T = tP A B ∧ U = tQ A B) ∨ (o = 1 ∧ K = (fun i j => B.2.2.1 j ^^^ A.2.2.1 i) ∧ T = (fun i j => tP B A j i) ∧ U = fun i j => tQ B A j i)
set_option maxRecDepth 100000 in
theorem mr_j {Pp : am_Q} {X : am_X} {i : Nat} (hX : am_K (d + 2) false nm_X12_multiplySums Pp X) (ho : mwR o A B K T U) (h1 : rsS M 0 A) (h2 : rsS M 1 B) (oA : orS A) (oB : orS B) (hi : i < A.1) (hK : ∀ n q t f g kk l3 l4 l5, n ≤ (i + 1) * B.1 → wkO n q t f g kk → wkS K T U B.1 (i + 1) 0 f g → X 6 [some (aR 108), some (aI o), some (aI (nI (i + 1))), l3, l4, l5] [] (wF M n q t f g)) : ∀ w j n q t f g kk l4 l5, j + w = B.1 → n ≤ i * B.1 + j → wkO n q t f g kk → wkS K T U B.1 i j f g → X 20 [some (aR 108), some (aI o), some (aI (nI i)), some (aI (nI (150 + j))), l4, l5] [] (wF M n q t f g) := by
  have i1 : vp_in 1 2 := vp_in_nI (n := 1) (N := 2) (by decide) (by decide)
  have t1 := oA.1
  have t2 := oB.1
  have nl : i * B.1 ≤ 149 * 150 := Nat.mul_le_mul (by omega) t2
  obtain ⟨ai1, ai2, ai3⟩ := h1.2.2 i hi
  rw [show 150 * 0 + i = i by omega] at ai1 ai2 ai3
  have ka := oA.2.2.2 i hi
  have ai1 : M.1 143 (nI i).toNatClampNeg = nI (A.2.2.1 i) := by rw [nI_clamp (n := i) (by omega)]; exact ai1
  have ai2 : M.1 144 (nI i).toNatClampNeg = A.2.2.2.1 i := by rw [nI_clamp (n := i) (by omega)]; exact ai2
  have ai3 : M.1 145 (nI i).toNatClampNeg = A.2.2.2.2 i := by rw [nI_clamp (n := i) (by omega)]; exact ai3
  have hI : vp_in (nI i) 300 := vp_in_nI (by omega) (by decide)
  intro w
  induction w with
  | zero =>
    intro j n q t f g kk l4 l5 hj hn hw hS
    have hj : j = B.1 := by omega
    subst hj
    refine am_run hX 8 _ _ _ _ ?_
    conv => whnf
    refine ⟨i1, ?_⟩
    conv => whnf
    rw [show (wF M n q t f g).1 141 (Int32.toNatClampNeg 1) = nI B.1 from h2.1, show (150 : Int32) = nI 150 from rfl, nI_add]
    refine ⟨fun _ => ?_, fun c => absurd (nI_le (by omega) (by omega)) c⟩
    refine am_run hX 2 _ _ _ _ ?_
    conv => whnf
    rw [nI_1]
    exact hK n q t f g kk _ _ _ (by rw [Nat.succ_mul]; exact hn) hw (wkS_n hS)
  | succ w ih =>
    intro j n q t f g kk l4 l5 hj hn hw hS
    have hjB : j < B.1 := by omega
    obtain ⟨bj1, bj2, bj3⟩ := h2.2.2 j hjB
    have kb := oB.2.2.2 j hjB
    have bj1 : M.1 143 (nI (150 + j)).toNatClampNeg = nI (B.2.2.1 j) := by rw [nI_clamp (n := 150 + j) (by omega)]; exact bj1
    have bj2 : M.1 144 (nI (150 + j)).toNatClampNeg = B.2.2.2.1 j := by rw [nI_clamp (n := 150 + j) (by omega)]; exact bj2
    have bj3 : M.1 145 (nI (150 + j)).toNatClampNeg = B.2.2.2.2 j := by rw [nI_clamp (n := 150 + j) (by omega)]; exact bj3
    have hJ : vp_in (nI (150 + j)) 300 := vp_in_nI (by omega) (by decide)
    refine am_run hX 8 _ _ _ _ ?_
    conv => whnf
    refine ⟨i1, ?_⟩
    conv => whnf
    rw [show (wF M n q t f g).1 141 (Int32.toNatClampNeg 1) = nI B.1 from h2.1, show (150 : Int32) = nI 150 from rfl, nI_add]
    refine ⟨fun c => absurd c (nI_ge (by omega) (by omega)), fun _ => ?_⟩
    have g3 : ∀ k, (wF M n q t f g).1 143 k = M.1 143 k := fun _ => rfl
    have g4 : ∀ k, (wF M n q t f g).1 144 k = M.1 144 k := fun _ => rfl
    have g5 : ∀ k, (wF M n q t f g).1 145 k = M.1 145 k := fun _ => rfl
    rcases ho with ⟨rfl, rfl, rfl, rfl⟩ | ⟨rfl, rfl, rfl, rfl⟩
    · refine am_run hX 38 _ _ _ _ ?_
      conv => whnf
      refine ⟨fun _ => ?_, fun c => absurd rfl c⟩
      conv => whnf
      refine ⟨fun _ => ?_, fun c => absurd rfl c⟩
      conv => whnf
      iterate 3
        refine ⟨hI, ?_⟩
        conv => whnf
      iterate 3
        refine ⟨hJ, ?_⟩
        conv => whnf
      rw [g3, g3, g4, g4, g5, g5, ai1, ai2, ai3, bj1, bj2, bj3]
      refine am_cq (ct_atR (d := d) (M := M) hw (by omega) ka kb) ?_
      rintro r' M' ⟨rfl, n2, q2, t2, kk2, h2, hw2, rfl⟩
      refine ⟨none, rfl, ?_⟩
      conv => whnf
      refine am_run hX 2 _ _ _ _ ?_
      conv => whnf
      rw [nI_1]
      exact ih (j + 1) n2 q2 t2 _ _ kk2 _ _ (by omega) (by omega) hw2 (wkS_s (K := fun i j => A.2.2.1 i ^^^ B.2.2.1 j) (T := tP A B) (U := tQ A B) hS)
    · refine am_run hX 40 _ _ _ _ ?_
      conv => whnf
      refine ⟨fun c => absurd c (by decide), fun _ => ?_⟩
      conv => whnf
      refine ⟨fun c => absurd c (by decide), fun _ => ?_⟩
      conv => whnf
      iterate 3
        refine ⟨hJ, ?_⟩
        conv => whnf
      iterate 3
        refine ⟨hI, ?_⟩
        conv => whnf
      rw [g3, g3, g4, g4, g5, g5, ai1, ai2, ai3, bj1, bj2, bj3]
      refine am_cq (ct_atR (d := d) (M := M) hw (by omega) kb ka) ?_
      rintro r' M' ⟨rfl, n2, q2, t2, kk2, h2, hw2, rfl⟩
      refine ⟨none, rfl, ?_⟩
      conv => whnf
      refine am_run hX 2 _ _ _ _ ?_
      conv => whnf
      rw [nI_1]
      exact ih (j + 1) n2 q2 t2 _ _ kk2 _ _ (by omega) (by omega) hw2 (wkS_s (K := fun i j => B.2.2.1 j ^^^ A.2.2.1 i) (T := fun i j => tP B A j i) (U := fun i j => tQ B A j i) hS)
set_option maxRecDepth 100000 in
theorem mr_i {Pp : am_Q} {X : am_X} (hX : am_K (d + 2) false nm_X12_multiplySums Pp X) (ho : mwR o A B K T U) (h1 : rsS M 0 A) (h2 : rsS M 1 B) (oA : orS A) (oB : orS B) (hP : ∀ n q t f g kk l3 l4 l5, wkO n q t f g kk → wkS K T U B.1 A.1 0 f g → X 118 [some (aR 108), some (aI o), some (aI (nI A.1)), l3, l4, l5] [] (wF M n q t f g)) : ∀ w i n q t f g kk l3 l4 l5, i + w = A.1 → n ≤ i * B.1 → wkO n q t f g kk → wkS K T U B.1 i 0 f g → X 6 [some (aR 108), some (aI o), some (aI (nI i)), l3, l4, l5] [] (wF M n q t f g) := by
  have h0 : vp_in 0 2 := vp_in_nI (n := 0) (N := 2) (by decide) (by decide)
  have t1 := oA.1
  intro w
  induction w with
  | zero =>
    intro i n q t f g kk l3 l4 l5 hi hn hw hS
    have hi : i = A.1 := by omega
    subst hi
    refine am_run hX 6 _ _ _ _ ?_
    conv => whnf
    refine ⟨h0, ?_⟩
    conv => whnf
    rw [show (wF M n q t f g).1 141 (Int32.toNatClampNeg 0) = nI A.1 from h1.1]
    refine ⟨fun _ => ?_, fun c => absurd (nI_le (by omega) (by omega)) c⟩
    exact hP n q t f g kk _ _ _ hw hS
  | succ w ih =>
    intro i n q t f g kk l3 l4 l5 hi hn hw hS
    refine am_run hX 6 _ _ _ _ ?_
    conv => whnf
    refine ⟨h0, ?_⟩
    conv => whnf
    rw [show (wF M n q t f g).1 141 (Int32.toNatClampNeg 0) = nI A.1 from h1.1]
    refine ⟨fun c => absurd c (nI_ge (by omega) (by omega)), fun _ => ?_⟩
    refine am_run hX 2 _ _ _ _ ?_
    conv => whnf
    exact mr_j (d := d) (M := M) (i := i) hX ho h1 h2 oA oB (by omega) (fun n q t f g kk l3 l4 l5 y1 y2 y3 => ih (i + 1) n q t f g kk l3 l4 l5 (by omega) y1 y2 y3) B.1 0 n q t f g kk _ _ (by omega) (by omega) hw hS
set_option maxRecDepth 100000 in
theorem ct_mulR {c : Nat} {κ : Nat → Nat} (ho : mwR o A B K T U) (h1 : rsS M 0 A) (h2 : rsS M 1 B) (oA : orS A) (oB : orS B) (hw : wkM M) (he : enX (fun x => dbl K T B.1 x A.1) (fun x => dbl K U B.1 x A.1) c κ) : am_M (d + 4) false nm_X12_multiplySums [aR 108, aI o] M (ssE M (fun x => dbl K T B.1 x A.1) (fun x => dbl K U B.1 x A.1) (A.2.1 + B.2.1) c κ) := by
  obtain ⟨n0, kk0, hn0, hw⟩ := hw
  have h0 : vp_in 0 2 := vp_in_nI (n := 0) (N := 2) (by decide) (by decide)
  have i1 : vp_in 1 2 := vp_in_nI (n := 1) (N := 2) (by decide) (by decide)
  have u1 := oA.2.1
  have u2 := oB.2.1
  refine ⟨rfl, rfl, rfl, fun X hX => am_run hX 2 _ _ _ _ ?_⟩
  conv => whnf
  have hcl := ct_clrR (d := d + 2) (M := M) hw
  rw [wF_self hn0] at hcl
  refine am_cq hcl ?_
  rintro r M' ⟨rfl, tc, fc, gc, hz, rfl⟩
  refine ⟨none, rfl, ?_⟩
  conv => whnf
  refine am_run hX 2 _ _ _ _ ?_
  conv => whnf
  refine mr_i (d := d + 1) (M := M) hX ho h1 h2 oA oB (fun n q t f g kk l3 l4 l5 y1 y2 => ?_) A.1 0 0 _ tc fc gc (fun _ => 0) _ _ _ (by omega) (by omega) (wkO_0 hz) (wkS_0 fun x hx => ⟨(hz x hx).2.1, (hz x hx).2.2⟩)
  refine am_run hX 20 _ _ _ _ ?_
  conv => whnf
  refine ⟨h0, ?_⟩
  conv => whnf
  refine ⟨i1, ?_⟩
  conv => whnf
  rw [show (wF M n q t f g).1 142 (Int32.toNatClampNeg 0) = nI A.2.1 from h1.2.1, show (wF M n q t f g).1 142 (Int32.toNatClampNeg 1) = nI B.2.1 from h2.2.1, nI_add]
  refine am_cq (ct_ssumR (d := d) (M := M) y1 (over := A.2.1 + B.2.1) (by omega) (fun x hx => ?_) he) ?_
  · obtain ⟨z1, z2⟩ := y2 x hx
    rw [z1, z2]
    exact ⟨Int64.add_zero _, Int64.add_zero _⟩
  · intro r M' hE
    have hE' := hE
    obtain ⟨_, _, _, ⟨_, rfl, _⟩ | ⟨_, rfl, _⟩⟩ := hE'
    all_goals (
      refine ⟨_, rfl, ?_⟩
      conv => whnf
      exact ⟨trivial, hE⟩)
end MLR
