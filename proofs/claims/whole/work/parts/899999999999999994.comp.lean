/-! DIAGRAMS: complement at the class -/
theorem shm_b {b j : Nat} (hb : b < 64) (hj : j < 64) : (shb b - 1).toBitVec.getLsbD j = decide (j < b) := by
  have : ∀ b, b < 64 → ∀ j, j < 64 → (shb b - 1).toBitVec.getLsbD j = decide (j < b) := by decide +kernel
  exact this b hb j hj
section CPL
variable {d m inp : Nat} {N : mm_M} {W : WB} {S : Nat → Bool}
theorem ja_c {S' : Nat → Bool} {i : Nat} : ∀ n, (∀ j, j < n → S j = S' j) → jaW W i S n = jaW W i S' n
  | 0, _ => rfl
  | n + 1, h => by
    have e := ja_c (i := i) n fun j hj => h j (by omega)
    by_cases hs : S n = true
    · rw [ja_p hs, ja_p (by rw [← h n (by omega)]; exact hs), e]
    · rw [ja_n hs, ja_n (by rw [← h n (by omega)]; exact hs), e]
theorem ja_z {i n : Nat} : ∀ k, (∀ j, n ≤ j → S j = false) → jaW W i S (n + k) = jaW W i S n
  | 0, _ => rfl
  | k + 1, h => by
    rw [show n + (k + 1) = (n + k) + 1 from rfl, ja_n (by rw [h _ (by omega)]; decide)]
    exact ja_z k h
theorem ja_cut {i : Nat} (him : i ≤ m) : jaW W i (fun j => S j && decide (j < i)) m = jaW W i S i := by
  obtain ⟨k, rfl⟩ : ∃ k, m = i + k := ⟨m - i, by omega⟩
  rw [ja_z k fun j hj => by rw [decide_eq_false (by omega), Bool.and_false]]
  exact ja_c i fun j hj => by rw [decide_eq_true hj, Bool.and_true]
/-- neighbours grow and are joined -/
def cpJ (S : Nat → Bool) (k : Nat) (W : WB) : Nat → WB
  | 0 => W
  | i + 1 => if S i = true then jaW ((cpJ S k W i).1, grw (cpJ S k W i).2.1 i k, (cpJ S k W i).2.2) i S i else cpJ S k W i
theorem cp_p {k i : Nat} (h : S i = true) : cpJ S k W (i + 1) = jaW ((cpJ S k W i).1, grw (cpJ S k W i).2.1 i k, (cpJ S k W i).2.2) i S i := if_pos h
theorem cp_n {k i : Nat} (h : ¬ S i = true) : cpJ S k W (i + 1) = cpJ S k W i := if_neg h
theorem cp_T {k : Nat} : ∀ n, (cpJ S k W n).1 = W.1
  | 0 => rfl
  | n + 1 => by
    by_cases h : S n = true
    · rw [cp_p h, ja_T]
      exact cp_T n
    · rw [cp_n h, cp_T n]
theorem ja_gdn {i : Nat} (g : gdW m inp W) (hi : W.1 i = true) (hs : ∀ j, S j = true → W.1 j = true) : ∀ n, n ≤ i → gdW m inp (jaW W i S n)
  | 0, _ => g
  | n + 1, hn => by
    have ih := ja_gdn g hi hs n (by omega)
    by_cases h : S n = true
    · rw [ja_p h]
      exact gd_jn ih (by rw [ja_T]; exact hi) (by rw [ja_T]; exact hs n h) (by omega) (Or.inr rfl)
    · rw [ja_n h]
      exact ih
theorem cp_gd {k : Nat} (g : gdW m inp W) (hs : ∀ j, S j = true → W.1 j = true) : ∀ n, gdW m inp (cpJ S k W n)
  | 0 => g
  | n + 1 => by
    have ih := cp_gd (k := k) g hs n
    by_cases h : S n = true
    · rw [cp_p h]
      refine ja_gdn (gd_gr ih) ?_ (fun j hj => ?_) n (Nat.le_refl _)
      · show (cpJ S k W n).1 n = true
        rw [cp_T]
        exact hs n h
      · show (cpJ S k W n).1 j = true
        rw [cp_T]
        exact hs j hj
    · rw [cp_n h]
      exact ih
set_option maxRecDepth 100000 in
theorem wcc_l {a k : Nat} {v : Int64} {N0 : mm_M} {W0 : WB} {Pp : am_Q} {X : am_X} (hX : am_K (d + 3) false nm_X10_complement Pp X) (g : gdW m inp W0) (hs : ∀ j, S j = true → W0.1 j = true) (hv : ∀ i, i < 64 → v.toBitVec.getLsbD i = S i) (hP : ∀ N, cwK N0 N → cwR N m inp (cpJ S k W0 m) → Pp (.inl (some (aI 1))) N) : ∀ w i N, i + w = m → cwK N0 N → cwR N m inp (cpJ S k W0 i) → X 72 [some (aR 39), some (aI (nI a)), some (aJ v), none, some (aI (nI k)), some (aI (nI i))] [] N := by
  have m60 := g.1
  intro w
  induction w with
  | zero =>
    intro i N hi hf h
    have hi : i = m := by omega
    subst hi
    refine am_run hX 6 _ _ _ _ ?_
    conv => whnf
    rw [h.1]
    refine ⟨fun _ => ?_, fun c => absurd (nI_le (by omega) (by omega)) c⟩
    conv => whnf
    exact ⟨rfl, hP N hf h⟩
  | succ w ih =>
    intro i N hi hf h
    have key := lb_us (x := v) (i := i) (by omega)
    rw [hv i (by omega)] at key
    have nx : ∀ N', cwK N0 N' → cwR N' m inp (cpJ S k W0 (i + 1)) → X 114 [some (aR 39), some (aI (nI a)), some (aJ v), none, some (aI (nI k)), some (aI (nI i))] [] N' := fun N' f' h' => by
      refine am_run hX 2 _ _ _ _ ?_
      conv => whnf
      rw [nI_1]
      exact ih (i + 1) N' (by omega) f' h'
    refine am_run hX 4 _ _ _ _ ?_
    conv => whnf
    rw [h.1]
    refine ⟨fun c => absurd c (nI_ge (by omega) (by omega)), fun _ => ?_⟩
    refine am_run hX 8 _ _ _ _ ?_
    conv => whnf
    cases hsi : S i with
    | false =>
      rw [hsi] at key
      exact ⟨fun _ => nx N hf (by rw [cp_n (by rw [hsi]; decide)]; exact h), fun c => absurd (key.mpr rfl) c⟩
    | true =>
      rw [hsi] at key
      refine ⟨fun c => absurd (key.mp c) (by decide), fun _ => ?_⟩
      have gi := gd_gr (a := i) (k := k) (cp_gd (k := k) g hs i)
      refine am_run hX 14 _ _ _ _ ?_
      conv => whnf
      refine am_c0 (ct_grC0 (d := d + 2) (a := i) (k := k) (by omega)) ?_
      conv => whnf
      have hj : ∀ j, (S j && decide (j < i)) = true → (cpJ S k W0 i).1 j = true ∧ j ≠ i := fun j hj => by
        rw [Bool.and_eq_true] at hj
        have := of_decide_eq_true hj.2
        refine ⟨?_, by omega⟩
        rw [cp_T]
        exact hs j hj.1
      refine am_cq (ct_jaC (d := d) (S := fun j => S j && decide (j < i)) (i := i) (cwR_gr (a := i) (k := k) h) gi (by show (cpJ S k W0 i).1 i = true; rw [cp_T]; exact hs i hsi) hj (fun j hj => by
        show (v.toBitVec &&& (shb i - 1).toBitVec).getLsbD j = _
        rw [BitVec.getLsbD_and, hv j hj, shm_b (by omega) hj])) ?_
      rintro r N' ⟨rfl, f', h'⟩
      refine ⟨none, rfl, ?_⟩
      conv => whnf
      rw [ja_cut (by omega)] at h'
      exact nx N' (cwK_t hf (cwK_t cwK_gr f')) (by rw [cp_p hsi]; exact h')
/-- it can be complemented -/
def cpOK (inp : Nat) (W : WB) (a : Nat) : Prop := inW inp W a ∧ W.2.1 a % 4 = 2 ∧ (∀ j, W.2.2 a j ≠ 1) ∧ frP inp W (fun j => decide (W.2.2 a j = 2))
def cpV (inp m : Nat) (W : WB) (p : Int32) (V : WB) : Prop := ∃ a, p = nI a ∧ cpOK inp W a ∧ V = cpJ (fun j => decide (W.2.2 a j = 2)) (8 - W.2.1 a) (rmW W a) m
set_option maxRecDepth 100000 in
theorem cc_a {p : Int32} {Pp : am_Q} {X : am_X} (hX : am_K (d + 2) false nm_X10_complement Pp X) (h : cwR N m inp W) (g : gdW m inp W) (hN : ¬ (∃ a, p = nI a ∧ inW inp W a ∧ W.2.1 a % 4 = 2 ∧ ∀ j, W.2.2 a j ≠ 1) → X 44 [some (aR 39), some (aI p), none, none, none, none] [] N) (hK : ∀ a, p = nI a → inW inp W a → W.2.1 a % 4 = 2 → (∀ j, W.2.2 a j ≠ 1) → X 31 [some (aR 39), some (aI p), none, none, none, none] [] N) : X 0 [some (aR 39), some (aI p), none, none, none, none] [] N := by
  have m60 := g.1
  have g5 := g.2.2.2.2.1
  by_cases hp : ∃ i, inW inp W i ∧ p = nI i
  · refine am_run hX 4 _ _ _ _ ?_
    conv => whnf
    refine am_c1 (ct_inC (d := d) h g) ?_
    rw [iteC_t hp]
    conv => whnf
    refine ⟨fun c => absurd c (by decide), fun _ => ?_⟩
    obtain ⟨a, ia, rfl⟩ := hp
    have la := g5 a ia.1
    have un : ∀ a', nI a = nI a' → inW inp W a' → a' = a := fun a' e y => by
      have := g5 a' y.1
      exact ((nI_eq (by omega) (by omega)).mp e).symm
    have hA : vp_in (nI a) 60 := vp_in_nI (by omega) (by decide)
    have p8 := g.2.2.2.2.2.2.2.2.2.2 a ia.1
    refine am_run hX 8 _ _ _ _ ?_
    conv => whnf
    refine ⟨hA, ?_⟩
    conv => whnf
    rw [nI_clamp (n := a) (by omega), h.2.2.2.1 a ia.1, nI_m3]
    by_cases p2 : W.2.1 a % 4 = 2
    · rw [p2]
      refine ⟨fun c => absurd rfl c, fun _ => ?_⟩
      refine am_run hX 7 _ _ _ _ ?_
      conv => whnf
      refine ⟨hA, ?_⟩
      conv => whnf
      rw [nI_clamp (n := a) (by omega), lg_0]
      refine ⟨fun z => ?_, fun z => ?_⟩
      · obtain ⟨j, hj, hb⟩ := bit_ex z
        rw [(h.2.2.2.2 a la j hj).1] at hb
        refine hN fun ⟨a', e, y⟩ => y.2.2 j ?_
        rw [un a' e y.1]
        exact of_decide_eq_true hb
      · have z := Decidable.byContradiction z
        refine hK a rfl ia p2 fun j e => ?_
        have lj := g5 j (g.2.2.2.2.2.2.2.2.2.1 a j (by omega)).2
        have := (h.2.2.2.2 a la j (by omega)).1
        rw [z, bit_0, decide_eq_true e] at this
        exact absurd this (by decide)
    · refine ⟨fun _ => ?_, fun c => absurd (fun z => p2 ((nI_eq (a := W.2.1 a % 4) (b := 2) (by omega) (by decide)).mp z)) c⟩
      refine hN fun ⟨a', e, y⟩ => p2 ?_
      rw [← un a' e y.1]
      exact y.2.1
  · refine am_run hX 4 _ _ _ _ ?_
    conv => whnf
    refine am_c1 (ct_inC (d := d) h g) ?_
    rw [iteC_f hp]
    conv => whnf
    refine ⟨fun _ => ?_, fun c => absurd rfl c⟩
    exact hN fun ⟨a', e, y⟩ => hp ⟨a', y.1, e⟩
set_option maxRecDepth 100000 in
theorem ct_cpC {p : Int32} (h : cwR N m inp W) (g : gdW m inp W) : am_M (d + 4) false nm_X10_complement [aR 39, aI p] N (ruC N m inp (∃ a, p = nI a ∧ cpOK inp W a) (cpV inp m W p)) := by
  have m60 := g.1
  refine ⟨rfl, rfl, rfl, fun X hX => ?_⟩
  have no : ¬ (∃ a, p = nI a ∧ cpOK inp W a) → X 44 [some (aR 39), some (aI p), none, none, none, none] [] N := fun hno => by
    refine am_run hX 2 _ _ _ _ ?_
    conv => whnf
    exact ⟨rfl, Or.inl ⟨hno, rfl, rfl⟩⟩
  refine cc_a (d := d + 1) hX h g (fun hno => no fun ⟨a, e, y⟩ => hno ⟨a, e, y.1, y.2.1, y.2.2.1⟩) (fun a ea ia p2 n1 => ?_)
  subst ea
  have la := g.2.2.2.2.1 a ia.1
  have p8 := g.2.2.2.2.2.2.2.2.2.2 a ia.1
  have hA : vp_in (nI a) 60 := vp_in_nI (by omega) (by decide)
  have hv : ∀ i, i < 64 → (N.2 41 a).toBitVec.getLsbD i = decide (W.2.2 a i = 2) := fun i hi => (h.2.2.2.2 a la i hi).2
  have hT : ∀ j, decide (W.2.2 a j = 2) = true → W.1 j = true := fun j hj => (g.2.2.2.2.2.2.2.2.2.1 a j (by have := of_decide_eq_true hj; omega)).2
  refine am_run hX 7 _ _ _ _ ?_
  conv => whnf
  refine ⟨hA, ?_⟩
  conv => whnf
  rw [nI_clamp (n := a) (by omega)]
  refine am_cq (ct_frC (d := d + 1) (S := fun j => decide (W.2.2 a j = 2)) h g hv fun i hi => g.2.2.2.2.1 i (hT i hi)) ?_
  rintro r N1 ⟨rfl, ⟨hf, rfl⟩ | ⟨hf, rfl⟩⟩
  · refine ⟨_, rfl, ?_⟩
    conv => whnf
    refine ⟨fun _ => ?_, fun c => absurd (by decide) c⟩
    refine am_run hX 15 _ _ _ _ ?_
    conv => whnf
    refine ⟨hA, ?_⟩
    conv => whnf
    refine ⟨hA, ?_⟩
    conv => whnf
    rw [nI_clamp (n := a) (by omega), h.2.2.2.1 a ia.1, show (8 : Int32) = nI 8 from rfl, nI_sub (by omega)]
    refine am_cq (ct_rmC (d := d + 1) h g la) ?_
    rintro r N2 ⟨rfl, f1, f2, h1⟩
    refine ⟨none, rfl, ?_⟩
    conv => whnf
    refine am_run hX 2 _ _ _ _ ?_
    conv => whnf
    refine wcc_l (d := d) (a := a) (k := 8 - W.2.1 a) (S := fun j => decide (W.2.2 a j = 2)) (W0 := rmW W a) (N0 := N2) hX (gd_rm g ia.2) (fun j hj => ?_) hv (fun N3 f3 h3 => ?_) m 0 N2 (by omega) cwK_r h1
    · show (if j = a then false else W.1 j) = true
      rw [if_neg]
      · exact hT j hj
      · intro z
        rw [z, g.2.2.2.2.2.2.2.1] at hj
        exact absurd hj (by decide)
    · exact Or.inr ⟨⟨a, rfl, ia, p2, n1, hf⟩, rfl, cwF_t f1 f3.1, by rw [f3.2]; exact f2, _, ⟨a, rfl, ⟨ia, p2, n1, hf⟩, rfl⟩, h3⟩
  · refine ⟨_, rfl, ?_⟩
    conv => whnf
    refine ⟨fun c => absurd rfl c, fun _ => ?_⟩
    refine no fun ⟨a', e', y⟩ => hf ?_
    have := g.2.2.2.2.1 a' y.1.1
    rw [← (nI_eq (by omega) (by omega)).mp e'] at y
    exact y.2.2.2
end CPL
