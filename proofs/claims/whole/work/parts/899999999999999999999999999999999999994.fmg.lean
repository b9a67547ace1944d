/-! FORM: one gate more, at the reference -/
/-- a matrix as the reference has it -/
def mxE (f : Nat → Int64) (a K : Nat) (x y : R2) : Prop := a5 f a K x.1 ∧ a5 f (a + 5) K x.2 ∧ a5 f (a + 10) K y.1 ∧ a5 f (a + 15) K y.2
def lfF (c : Nat) (M N : mm_M) : Prop := N.1 = M.1 ∧ ∀ k, k ≠ 118 → k ≠ 119 → k ≠ 152 → k ≠ c → N.2 k = M.2 k
theorem lfF_r (c : Nat) (M : mm_M) : lfF c M M := ⟨rfl, fun _ _ _ _ _ => rfl⟩
theorem lfF_t {c : Nat} {M N K : mm_M} (h : lfF c M N) (g : lfF c N K) : lfF c M K := ⟨g.1.trans h.1, fun k a b e f => (g.2 k a b e f).trans (h.2 k a b e f)⟩
theorem lfF_8 {c : Nat} {M N : mm_M} (h : opF 118 M N) : lfF c M N := ⟨h.1, fun k a b _ _ => h.2 k a b a⟩
theorem lfF_k {c : Nat} {M N : mm_M} (h : opF 152 M N) : lfF c M N := ⟨h.1, fun k a b e _ => h.2 k a b e⟩
theorem lfF_c {c : Nat} {M N : mm_M} (h : opF c M N) : lfF c M N := ⟨h.1, fun k a b _ e => h.2 k a b e⟩
theorem nrm_ng (x : R4) : nrm (ng x) = nrm x := nrm_t8n x 4
theorem nm_t {x : R4} {n : Nat} (h : nrm x ≤ 2 ^ 120) : nrm (t8n n x) ≤ 2 ^ 120 := by rw [nrm_t8n]; exact h
section FMG
variable {d : Nat} {M : mm_M}
set_option maxRecDepth 100000 in
theorem lf_h186 {P : am_Q} {X : am_X} {j K : Nat} {u v : R4} (hX : am_K (d + 2) false nm_X12_left P X) (hj : j < 2) (hK : K < 2 ^ 28) (nu : nrm u ≤ 2 ^ 120) (nv : nrm v ≤ 2 ^ 120) (hu : a5 (M.2 186) (5 * j) K u) (hv : a5 (M.2 186) (10 + 5 * j) K v) (hE : ∀ N, lfF 186 M N → a5 (N.2 186) (5 * j) (K + 1) (ra u v) → a5 (N.2 186) (10 + 5 * j) (K + 1) (ra u (ng v)) → (∀ b L y, (b + 5 ≤ 5 * j ∨ 5 * j + 5 ≤ b) → (b + 5 ≤ 10 + 5 * j ∨ 10 + 5 * j + 5 ≤ b) → a5 (M.2 186) b L y → a5 (N.2 186) b L y) → X 251 [some (aR 108), some (aR 186), some (aI 0), some (aI (nI 3)), some (aI (nI j)), some (aI (nI (5 * j))), some (aI (nI (10 + 5 * j)))] [] N) : X 28 [some (aR 108), some (aR 186), some (aI 0), some (aI (nI 3)), some (aI (nI j)), some (aI (nI (5 * j))), some (aI (nI (10 + 5 * j)))] [] M := by
  have b1 : bd (ra u v) := nrm_2 nu nv
  have b2 : bd (ra u (ng v)) := nrm_2 nu (by rw [nrm_ng]; exact nv)
  refine am_run hX 3 _ _ _ _ ?_
  conv => whnf
  refine ⟨fun z => absurd rfl z, fun _ => ?_⟩
  refine am_run hX 4 _ _ _ _ ?_
  conv => whnf
  refine am_cq (f_ld186 (d := d + 1) (by omega) hu) ?_
  rintro r1 N1 ⟨rfl, f1, o1⟩
  refine ⟨none, rfl, ?_⟩
  refine am_run hX 5 _ _ _ _ ?_
  conv => whnf
  refine am_cq (f_add186p (d := d) (a := 10 + 5 * j) (by omega) (by omega) b1 o1 (by rw [f1.2 186 (by decide) (by decide) (by decide)]; exact hv)) ?_
  rintro r2 N2 ⟨rfl, f2, o2⟩
  refine ⟨none, rfl, ?_⟩
  refine am_run hX 2 _ _ _ _ ?_
  conv => whnf
  refine am_cq (f_halve (d := d) (by omega) b1 o2) ?_
  rintro r3 N3 ⟨rfl, f3, o3⟩
  refine ⟨none, rfl, ?_⟩
  refine am_run hX 5 _ _ _ _ ?_
  conv => whnf
  refine am_cq (f_st152 (d := d + 1) (a := 0) (by decide) o3) ?_
  rintro r4 N4 ⟨rfl, f4, o4, _⟩
  refine ⟨none, rfl, ?_⟩
  have F4 : N4.2 186 = M.2 186 := by rw [f4.2 186 (by decide) (by decide) (by decide), f3.2 186 (by decide) (by decide) (by decide), f2.2 186 (by decide) (by decide) (by decide), f1.2 186 (by decide) (by decide) (by decide)]
  refine am_run hX 4 _ _ _ _ ?_
  conv => whnf
  refine am_cq (f_ld186 (d := d + 1) (by omega) (by rw [F4]; exact hu)) ?_
  rintro r5 N5 ⟨rfl, f5, o5⟩
  refine ⟨none, rfl, ?_⟩
  refine am_run hX 5 _ _ _ _ ?_
  conv => whnf
  refine am_cq (f_add186m (d := d) (a := 10 + 5 * j) (by omega) (by omega) b2 o5 (by rw [f5.2 186 (by decide) (by decide) (by decide), F4]; exact hv)) ?_
  rintro r6 N6 ⟨rfl, f6, o6⟩
  refine ⟨none, rfl, ?_⟩
  refine am_run hX 2 _ _ _ _ ?_
  conv => whnf
  refine am_cq (f_halve (d := d) (by omega) b2 o6) ?_
  rintro r7 N7 ⟨rfl, f7, o7⟩
  refine ⟨none, rfl, ?_⟩
  have F7 : N7.2 186 = M.2 186 := by rw [f7.2 186 (by decide) (by decide) (by decide), f6.2 186 (by decide) (by decide) (by decide), f5.2 186 (by decide) (by decide) (by decide), F4]
  refine am_run hX 4 _ _ _ _ ?_
  conv => whnf
  refine am_cq (f_st186 (d := d + 1) (a := 10 + 5 * j) (by omega) o7) ?_
  rintro r8 N8 ⟨rfl, f8, o8, k8⟩
  refine ⟨none, rfl, ?_⟩
  refine am_run hX 5 _ _ _ _ ?_
  conv => whnf
  refine am_cq (f_ld152 (d := d + 1) (a := 0) (by decide) (by rw [f8.2 152 (by decide) (by decide) (by decide), f7.2 152 (by decide) (by decide) (by decide), f6.2 152 (by decide) (by decide) (by decide), f5.2 152 (by decide) (by decide) (by decide)]; exact o4)) ?_
  rintro r9 N9 ⟨rfl, f9, o9⟩
  refine ⟨none, rfl, ?_⟩
  refine am_run hX 4 _ _ _ _ ?_
  conv => whnf
  refine am_cq (f_st186 (d := d + 1) (a := 5 * j) (by omega) o9) ?_
  rintro r10 N10 ⟨rfl, f10, o10, k10⟩
  refine ⟨none, rfl, ?_⟩
  refine am_run hX 1 _ _ _ _ ?_
  conv => whnf
  refine hE N10 (lfF_t (lfF_t (lfF_t (lfF_8 f1) (lfF_t (lfF_8 f2) (lfF_8 f3))) (lfF_t (lfF_k f4) (lfF_t (lfF_8 f5) (lfF_8 f6)))) (lfF_t (lfF_t (lfF_8 f7) (lfF_c f8)) (lfF_t (lfF_8 f9) (lfF_c f10)))) o10 ?_ (fun b L y h1 h2 hy => ?_)
  · exact k10 _ _ _ (by omega) (by rw [f9.2 186 (by decide) (by decide) (by decide)]; exact o8)
  · refine k10 _ _ _ h1 ?_
    rw [f9.2 186 (by decide) (by decide) (by decide)]
    refine k8 _ _ _ h2 ?_
    rw [F7]
    exact hy
set_option maxRecDepth 100000 in
theorem lf_0x186 {P : am_Q} {X : am_X} {j K : Nat} {u v : R4} (hX : am_K (d + 2) false nm_X12_left P X) (hj : j < 2) (hu : a5 (M.2 186) (5 * j) K u) (hv : a5 (M.2 186) (10 + 5 * j) K v) (hE : ∀ N, lfF 186 M N → a5 (N.2 186) (5 * j) K (t8n 0 v) → a5 (N.2 186) (10 + 5 * j) K (t8n 0 u) → (∀ b L y, (b + 5 ≤ 5 * j ∨ 5 * j + 5 ≤ b) → (b + 5 ≤ 10 + 5 * j ∨ 10 + 5 * j + 5 ≤ b) → a5 (M.2 186) b L y → a5 (N.2 186) b L y) → X 251 [some (aR 108), some (aR 186), some (aI 0), some (aI (nI 0)), some (aI (nI j)), some (aI (nI (5 * j))), some (aI (nI (10 + 5 * j)))] [] N) : X 28 [some (aR 108), some (aR 186), some (aI 0), some (aI (nI 0)), some (aI (nI j)), some (aI (nI (5 * j))), some (aI (nI (10 + 5 * j)))] [] M := by
  refine am_run hX 3 _ _ _ _ ?_
  conv => whnf
  refine ⟨fun _ => ?_, fun z => absurd (by decide) z⟩
  refine am_run hX 2 _ _ _ _ ?_
  conv => whnf
  refine ⟨fun _ => ?_, fun z => absurd rfl z⟩
  refine am_run hX 4 _ _ _ _ ?_
  conv => whnf
  refine am_cq (f_ld186 (d := d + 1) (by omega) hu) ?_
  rintro r1 N1 ⟨rfl, f1, o1⟩
  refine ⟨none, rfl, ?_⟩
  refine am_run hX 4 _ _ _ _ ?_
  conv => whnf
  refine ⟨fun _ => ?_, fun z => absurd (by decide) z⟩
  refine am_run hX 1 _ _ _ _ ?_
  conv => whnf
  refine am_run hX 1 _ _ _ _ ?_
  conv => whnf
  refine am_cq (f_turn (d := d + 1) (n := 0) (by decide) (by decide) o1) ?_
  rintro r2 N2 ⟨rfl, f2, o2⟩
  refine ⟨none, rfl, ?_⟩
  refine am_run hX 5 _ _ _ _ ?_
  conv => whnf
  refine am_cq (f_st152 (d := d + 1) (a := 0) (by decide) o2) ?_
  rintro r3 N3 ⟨rfl, f3, o3, _⟩
  refine ⟨none, rfl, ?_⟩
  have F3 : N3.2 186 = M.2 186 := by rw [f3.2 186 (by decide) (by decide) (by decide), f2.2 186 (by decide) (by decide) (by decide), f1.2 186 (by decide) (by decide) (by decide)]
  refine am_run hX 4 _ _ _ _ ?_
  conv => whnf
  refine am_cq (f_ld186 (d := d + 1) (a := 10 + 5 * j) (by omega) (by rw [F3]; exact hv)) ?_
  rintro r4 N4 ⟨rfl, f4, o4⟩
  refine ⟨none, rfl, ?_⟩
  refine am_run hX 4 _ _ _ _ ?_
  conv => whnf
  refine ⟨fun _ => ?_, fun z => absurd (by decide) z⟩
  refine am_run hX 1 _ _ _ _ ?_
  conv => whnf
  refine am_run hX 1 _ _ _ _ ?_
  conv => whnf
  refine am_cq (f_turn (d := d + 1) (n := 0) (by decide) (by decide) o4) ?_
  rintro r5 N5 ⟨rfl, f5, o5⟩
  refine ⟨none, rfl, ?_⟩
  have F5 : N5.2 186 = M.2 186 := by rw [f5.2 186 (by decide) (by decide) (by decide), f4.2 186 (by decide) (by decide) (by decide), F3]
  refine am_run hX 4 _ _ _ _ ?_
  conv => whnf
  refine am_cq (f_st186 (d := d + 1) (a := 5 * j) (by omega) o5) ?_
  rintro r6 N6 ⟨rfl, f6, o6, k6⟩
  refine ⟨none, rfl, ?_⟩
  refine am_run hX 5 _ _ _ _ ?_
  conv => whnf
  refine am_cq (f_ld152 (d := d + 1) (a := 0) (by decide) (by rw [f6.2 152 (by decide) (by decide) (by decide), f5.2 152 (by decide) (by decide) (by decide), f4.2 152 (by decide) (by decide) (by decide)]; exact o3)) ?_
  rintro r7 N7 ⟨rfl, f7, o7⟩
  refine ⟨none, rfl, ?_⟩
  refine am_run hX 4 _ _ _ _ ?_
  conv => whnf
  refine am_cq (f_st186 (d := d + 1) (a := 10 + 5 * j) (by omega) o7) ?_
  rintro r8 N8 ⟨rfl, f8, o8, k8⟩
  refine ⟨none, rfl, ?_⟩
  refine am_run hX 1 _ _ _ _ ?_
  conv => whnf
  refine hE N8 (lfF_t (lfF_t (lfF_8 f1) (lfF_t (lfF_8 f2) (lfF_k f3))) (lfF_t (lfF_t (lfF_8 f4) (lfF_8 f5)) (lfF_t (lfF_c f6) (lfF_t (lfF_8 f7) (lfF_c f8))))) ?_ o8 (fun b L y h1 h2 hy => ?_)
  · exact k8 _ _ _ (by omega) (by rw [f7.2 186 (by decide) (by decide) (by decide)]; exact o6)
  · refine k8 _ _ _ h2 ?_
    rw [f7.2 186 (by decide) (by decide) (by decide)]
    refine k6 _ _ _ h1 ?_
    rw [F5]
    exact hy
set_option maxRecDepth 100000 in
theorem lf_1x186 {P : am_Q} {X : am_X} {j K : Nat} {u v : R4} (hX : am_K (d + 2) false nm_X12_left P X) (hj : j < 2) (hu : a5 (M.2 186) (5 * j) K u) (hv : a5 (M.2 186) (10 + 5 * j) K v) (hE : ∀ N, lfF 186 M N → a5 (N.2 186) (5 * j) K (t8n 6 v) → a5 (N.2 186) (10 + 5 * j) K (t8n 2 u) → (∀ b L y, (b + 5 ≤ 5 * j ∨ 5 * j + 5 ≤ b) → (b + 5 ≤ 10 + 5 * j ∨ 10 + 5 * j + 5 ≤ b) → a5 (M.2 186) b L y → a5 (N.2 186) b L y) → X 251 [some (aR 108), some (aR 186), some (aI 0), some (aI (nI 1)), some (aI (nI j)), some (aI (nI (5 * j))), some (aI (nI (10 + 5 * j)))] [] N) : X 28 [some (aR 108), some (aR 186), some (aI 0), some (aI (nI 1)), some (aI (nI j)), some (aI (nI (5 * j))), some (aI (nI (10 + 5 * j)))] [] M := by
  refine am_run hX 3 _ _ _ _ ?_
  conv => whnf
  refine ⟨fun _ => ?_, fun z => absurd (by decide) z⟩
  refine am_run hX 2 _ _ _ _ ?_
  conv => whnf
  refine ⟨fun z => absurd z (by decide), fun _ => ?_⟩
  refine am_run hX 3 _ _ _ _ ?_
  conv => whnf
  refine ⟨fun z => absurd rfl z, fun _ => ?_⟩
  refine am_run hX 4 _ _ _ _ ?_
  conv => whnf
  refine am_cq (f_ld186 (d := d + 1) (by omega) hu) ?_
  rintro r1 N1 ⟨rfl, f1, o1⟩
  refine ⟨none, rfl, ?_⟩
  refine am_run hX 4 _ _ _ _ ?_
  conv => whnf
  refine ⟨fun z => absurd rfl z, fun _ => ?_⟩
  refine am_run hX 2 _ _ _ _ ?_
  conv => whnf
  refine am_run hX 1 _ _ _ _ ?_
  conv => whnf
  refine am_cq (f_turn (d := d + 1) (n := 2) (by decide) (by decide) o1) ?_
  rintro r2 N2 ⟨rfl, f2, o2⟩
  refine ⟨none, rfl, ?_⟩
  refine am_run hX 5 _ _ _ _ ?_
  conv => whnf
  refine am_cq (f_st152 (d := d + 1) (a := 0) (by decide) o2) ?_
  rintro r3 N3 ⟨rfl, f3, o3, _⟩
  refine ⟨none, rfl, ?_⟩
  have F3 : N3.2 186 = M.2 186 := by rw [f3.2 186 (by decide) (by decide) (by decide), f2.2 186 (by decide) (by decide) (by decide), f1.2 186 (by decide) (by decide) (by decide)]
  refine am_run hX 4 _ _ _ _ ?_
  conv => whnf
  refine am_cq (f_ld186 (d := d + 1) (a := 10 + 5 * j) (by omega) (by rw [F3]; exact hv)) ?_
  rintro r4 N4 ⟨rfl, f4, o4⟩
  refine ⟨none, rfl, ?_⟩
  refine am_run hX 4 _ _ _ _ ?_
  conv => whnf
  refine ⟨fun z => absurd rfl z, fun _ => ?_⟩
  refine am_run hX 2 _ _ _ _ ?_
  conv => whnf
  refine am_run hX 1 _ _ _ _ ?_
  conv => whnf
  refine am_cq (f_turn (d := d + 1) (n := 6) (by decide) (by decide) o4) ?_
  rintro r5 N5 ⟨rfl, f5, o5⟩
  refine ⟨none, rfl, ?_⟩
  have F5 : N5.2 186 = M.2 186 := by rw [f5.2 186 (by decide) (by decide) (by decide), f4.2 186 (by decide) (by decide) (by decide), F3]
  refine am_run hX 4 _ _ _ _ ?_
  conv => whnf
  refine am_cq (f_st186 (d := d + 1) (a := 5 * j) (by omega) o5) ?_
  rintro r6 N6 ⟨rfl, f6, o6, k6⟩
  refine ⟨none, rfl, ?_⟩
  refine am_run hX 5 _ _ _ _ ?_
  conv => whnf
  refine am_cq (f_ld152 (d := d + 1) (a := 0) (by decide) (by rw [f6.2 152 (by decide) (by decide) (by decide), f5.2 152 (by decide) (by decide) (by decide), f4.2 152 (by decide) (by decide) (by decide)]; exact o3)) ?_
  rintro r7 N7 ⟨rfl, f7, o7⟩
  refine ⟨none, rfl, ?_⟩
  refine am_run hX 4 _ _ _ _ ?_
  conv => whnf
  refine am_cq (f_st186 (d := d + 1) (a := 10 + 5 * j) (by omega) o7) ?_
  rintro r8 N8 ⟨rfl, f8, o8, k8⟩
  refine ⟨none, rfl, ?_⟩
  refine am_run hX 1 _ _ _ _ ?_
  conv => whnf
  refine hE N8 (lfF_t (lfF_t (lfF_8 f1) (lfF_t (lfF_8 f2) (lfF_k f3))) (lfF_t (lfF_t (lfF_8 f4) (lfF_8 f5)) (lfF_t (lfF_c f6) (lfF_t (lfF_8 f7) (lfF_c f8))))) ?_ o8 (fun b L y h1 h2 hy => ?_)
  · exact k8 _ _ _ (by omega) (by rw [f7.2 186 (by decide) (by decide) (by decide)]; exact o6)
  · refine k8 _ _ _ h2 ?_
    rw [f7.2 186 (by decide) (by decide) (by decide)]
    refine k6 _ _ _ h1 ?_
    rw [F5]
    exact hy
set_option maxRecDepth 100000 in
theorem lf_2p186 {P : am_Q} {X : am_X} {j K : Nat} {u v : R4} (hX : am_K (d + 2) false nm_X12_left P X) (hj : j < 2) (hu : a5 (M.2 186) (5 * j) K u) (hv : a5 (M.2 186) (10 + 5 * j) K v) (hE : ∀ N, lfF 186 M N → a5 (N.2 186) (5 * j) K u → a5 (N.2 186) (10 + 5 * j) K (t8n 4 v) → (∀ b L y, (b + 5 ≤ 5 * j ∨ 5 * j + 5 ≤ b) → (b + 5 ≤ 10 + 5 * j ∨ 10 + 5 * j + 5 ≤ b) → a5 (M.2 186) b L y → a5 (N.2 186) b L y) → X 251 [some (aR 108), some (aR 186), some (aI 0), some (aI (nI 2)), some (aI (nI j)), some (aI (nI (5 * j))), some (aI (nI (10 + 5 * j)))] [] N) : X 28 [some (aR 108), some (aR 186), some (aI 0), some (aI (nI 2)), some (aI (nI j)), some (aI (nI (5 * j))), some (aI (nI (10 + 5 * j)))] [] M := by
  refine am_run hX 3 _ _ _ _ ?_
  conv => whnf
  refine ⟨fun _ => ?_, fun z => absurd (by decide) z⟩
  refine am_run hX 2 _ _ _ _ ?_
  conv => whnf
  refine ⟨fun z => absurd z (by decide), fun _ => ?_⟩
  refine am_run hX 3 _ _ _ _ ?_
  conv => whnf
  refine ⟨fun _ => ?_, fun z => absurd (by decide) z⟩
  refine am_run hX 4 _ _ _ _ ?_
  conv => whnf
  refine am_cq (f_ld186 (d := d + 1) (a := 10 + 5 * j) (by omega) hv) ?_
  rintro r1 N1 ⟨rfl, f1, o1⟩
  refine ⟨none, rfl, ?_⟩
  refine am_run hX 4 _ _ _ _ ?_
  conv => whnf
  refine ⟨fun z => absurd rfl z, fun _ => ?_⟩
  refine am_run hX 2 _ _ _ _ ?_
  conv => whnf
  refine am_run hX 1 _ _ _ _ ?_
  conv => whnf
  refine am_cq (f_turn (d := d + 1) (n := 4) (by decide) (by decide) o1) ?_
  rintro r2 N2 ⟨rfl, f2, o2⟩
  refine ⟨none, rfl, ?_⟩
  have F2 : N2.2 186 = M.2 186 := by rw [f2.2 186 (by decide) (by decide) (by decide), f1.2 186 (by decide) (by decide) (by decide)]
  refine am_run hX 4 _ _ _ _ ?_
  conv => whnf
  refine am_cq (f_st186 (d := d + 1) (a := 10 + 5 * j) (by omega) o2) ?_
  rintro r3 N3 ⟨rfl, f3, o3, k3⟩
  refine ⟨none, rfl, ?_⟩
  refine hE N3 (lfF_t (lfF_8 f1) (lfF_t (lfF_8 f2) (lfF_c f3))) (k3 _ _ _ (by omega) (by rw [F2]; exact hu)) o3 (fun b L y h1 h2 hy => k3 _ _ _ h2 (by rw [F2]; exact hy))
set_option maxRecDepth 100000 in
theorem lf_4p186 {P : am_Q} {X : am_X} {j K : Nat} {u v : R4} (hX : am_K (d + 2) false nm_X12_left P X) (hj : j < 2) (hu : a5 (M.2 186) (5 * j) K u) (hv : a5 (M.2 186) (10 + 5 * j) K v) (hE : ∀ N, lfF 186 M N → a5 (N.2 186) (5 * j) K u → a5 (N.2 186) (10 + 5 * j) K (t8n 2 v) → (∀ b L y, (b + 5 ≤ 5 * j ∨ 5 * j + 5 ≤ b) → (b + 5 ≤ 10 + 5 * j ∨ 10 + 5 * j + 5 ≤ b) → a5 (M.2 186) b L y → a5 (N.2 186) b L y) → X 251 [some (aR 108), some (aR 186), some (aI 0), some (aI (nI 4)), some (aI (nI j)), some (aI (nI (5 * j))), some (aI (nI (10 + 5 * j)))] [] N) : X 28 [some (aR 108), some (aR 186), some (aI 0), some (aI (nI 4)), some (aI (nI j)), some (aI (nI (5 * j))), some (aI (nI (10 + 5 * j)))] [] M := by
  refine am_run hX 3 _ _ _ _ ?_
  conv => whnf
  refine ⟨fun _ => ?_, fun z => absurd (by decide) z⟩
  refine am_run hX 2 _ _ _ _ ?_
  conv => whnf
  refine ⟨fun z => absurd z (by decide), fun _ => ?_⟩
  refine am_run hX 3 _ _ _ _ ?_
  conv => whnf
  refine ⟨fun _ => ?_, fun z => absurd (by decide) z⟩
  refine am_run hX 4 _ _ _ _ ?_
  conv => whnf
  refine am_cq (f_ld186 (d := d + 1) (a := 10 + 5 * j) (by omega) hv) ?_
  rintro r1 N1 ⟨rfl, f1, o1⟩
  refine ⟨none, rfl, ?_⟩
  refine am_run hX 4 _ _ _ _ ?_
  conv => whnf
  refine ⟨fun _ => ?_, fun z => absurd (by decide) z⟩
  refine am_run hX 3 _ _ _ _ ?_
  conv => whnf
  refine ⟨fun z => absurd rfl z, fun _ => ?_⟩
  refine am_run hX 2 _ _ _ _ ?_
  conv => whnf
  refine am_run hX 1 _ _ _ _ ?_
  conv => whnf
  refine am_cq (f_turn (d := d + 1) (n := 2) (by decide) (by decide) o1) ?_
  rintro r2 N2 ⟨rfl, f2, o2⟩
  refine ⟨none, rfl, ?_⟩
  have F2 : N2.2 186 = M.2 186 := by rw [f2.2 186 (by decide) (by decide) (by decide), f1.2 186 (by decide) (by decide) (by decide)]
  refine am_run hX 4 _ _ _ _ ?_
  conv => whnf
  refine am_cq (f_st186 (d := d + 1) (a := 10 + 5 * j) (by omega) o2) ?_
  rintro r3 N3 ⟨rfl, f3, o3, k3⟩
  refine ⟨none, rfl, ?_⟩
  refine hE N3 (lfF_t (lfF_8 f1) (lfF_t (lfF_8 f2) (lfF_c f3))) (k3 _ _ _ (by omega) (by rw [F2]; exact hu)) o3 (fun b L y h1 h2 hy => k3 _ _ _ h2 (by rw [F2]; exact hy))
set_option maxRecDepth 100000 in
theorem lf_5p186 {P : am_Q} {X : am_X} {j K : Nat} {u v : R4} (hX : am_K (d + 2) false nm_X12_left P X) (hj : j < 2) (hu : a5 (M.2 186) (5 * j) K u) (hv : a5 (M.2 186) (10 + 5 * j) K v) (hE : ∀ N, lfF 186 M N → a5 (N.2 186) (5 * j) K u → a5 (N.2 186) (10 + 5 * j) K (t8n 1 v) → (∀ b L y, (b + 5 ≤ 5 * j ∨ 5 * j + 5 ≤ b) → (b + 5 ≤ 10 + 5 * j ∨ 10 + 5 * j + 5 ≤ b) → a5 (M.2 186) b L y → a5 (N.2 186) b L y) → X 251 [some (aR 108), some (aR 186), some (aI 0), some (aI (nI 5)), some (aI (nI j)), some (aI (nI (5 * j))), some (aI (nI (10 + 5 * j)))] [] N) : X 28 [some (aR 108), some (aR 186), some (aI 0), some (aI (nI 5)), some (aI (nI j)), some (aI (nI (5 * j))), some (aI (nI (10 + 5 * j)))] [] M := by
  refine am_run hX 3 _ _ _ _ ?_
  conv => whnf
  refine ⟨fun _ => ?_, fun z => absurd (by decide) z⟩
  refine am_run hX 2 _ _ _ _ ?_
  conv => whnf
  refine ⟨fun z => absurd z (by decide), fun _ => ?_⟩
  refine am_run hX 3 _ _ _ _ ?_
  conv => whnf
  refine ⟨fun _ => ?_, fun z => absurd (by decide) z⟩
  refine am_run hX 4 _ _ _ _ ?_
  conv => whnf
  refine am_cq (f_ld186 (d := d + 1) (a := 10 + 5 * j) (by omega) hv) ?_
  rintro r1 N1 ⟨rfl, f1, o1⟩
  refine ⟨none, rfl, ?_⟩
  refine am_run hX 4 _ _ _ _ ?_
  conv => whnf
  refine ⟨fun _ => ?_, fun z => absurd (by decide) z⟩
  refine am_run hX 3 _ _ _ _ ?_
  conv => whnf
  refine ⟨fun _ => ?_, fun z => absurd (by decide) z⟩
  refine am_run hX 3 _ _ _ _ ?_
  conv => whnf
  refine ⟨fun z => absurd rfl z, fun _ => ?_⟩
  refine am_run hX 2 _ _ _ _ ?_
  conv => whnf
  refine am_run hX 1 _ _ _ _ ?_
  conv => whnf
  refine am_cq (f_turn (d := d + 1) (n := 1) (by decide) (by decide) o1) ?_
  rintro r2 N2 ⟨rfl, f2, o2⟩
  refine ⟨none, rfl, ?_⟩
  have F2 : N2.2 186 = M.2 186 := by rw [f2.2 186 (by decide) (by decide) (by decide), f1.2 186 (by decide) (by decide) (by decide)]
  refine am_run hX 4 _ _ _ _ ?_
  conv => whnf
  refine am_cq (f_st186 (d := d + 1) (a := 10 + 5 * j) (by omega) o2) ?_
  rintro r3 N3 ⟨rfl, f3, o3, k3⟩
  refine ⟨none, rfl, ?_⟩
  refine hE N3 (lfF_t (lfF_8 f1) (lfF_t (lfF_8 f2) (lfF_c f3))) (k3 _ _ _ (by omega) (by rw [F2]; exact hu)) o3 (fun b L y h1 h2 hy => k3 _ _ _ h2 (by rw [F2]; exact hy))
set_option maxRecDepth 100000 in
theorem lf_6p186 {P : am_Q} {X : am_X} {j K : Nat} {u v : R4} (hX : am_K (d + 2) false nm_X12_left P X) (hj : j < 2) (hu : a5 (M.2 186) (5 * j) K u) (hv : a5 (M.2 186) (10 + 5 * j) K v) (hE : ∀ N, lfF 186 M N → a5 (N.2 186) (5 * j) K u → a5 (N.2 186) (10 + 5 * j) K (t8n 6 v) → (∀ b L y, (b + 5 ≤ 5 * j ∨ 5 * j + 5 ≤ b) → (b + 5 ≤ 10 + 5 * j ∨ 10 + 5 * j + 5 ≤ b) → a5 (M.2 186) b L y → a5 (N.2 186) b L y) → X 251 [some (aR 108), some (aR 186), some (aI 0), some (aI (nI 6)), some (aI (nI j)), some (aI (nI (5 * j))), some (aI (nI (10 + 5 * j)))] [] N) : X 28 [some (aR 108), some (aR 186), some (aI 0), some (aI (nI 6)), some (aI (nI j)), some (aI (nI (5 * j))), some (aI (nI (10 + 5 * j)))] [] M := by
  refine am_run hX 3 _ _ _ _ ?_
  conv => whnf
  refine ⟨fun _ => ?_, fun z => absurd (by decide) z⟩
  refine am_run hX 2 _ _ _ _ ?_
  conv => whnf
  refine ⟨fun z => absurd z (by decide), fun _ => ?_⟩
  refine am_run hX 3 _ _ _ _ ?_
  conv => whnf
  refine ⟨fun _ => ?_, fun z => absurd (by decide) z⟩
  refine am_run hX 4 _ _ _ _ ?_
  conv => whnf
  refine am_cq (f_ld186 (d := d + 1) (a := 10 + 5 * j) (by omega) hv) ?_
  rintro r1 N1 ⟨rfl, f1, o1⟩
  refine ⟨none, rfl, ?_⟩
  refine am_run hX 4 _ _ _ _ ?_
  conv => whnf
  refine ⟨fun _ => ?_, fun z => absurd (by decide) z⟩
  refine am_run hX 3 _ _ _ _ ?_
  conv => whnf
  refine ⟨fun _ => ?_, fun z => absurd (by decide) z⟩
  refine am_run hX 3 _ _ _ _ ?_
  conv => whnf
  refine ⟨fun _ => ?_, fun z => absurd (by decide) z⟩
  refine am_run hX 3 _ _ _ _ ?_
  conv => whnf
  refine ⟨fun z => absurd rfl z, fun _ => ?_⟩
  refine am_run hX 2 _ _ _ _ ?_
  conv => whnf
  refine am_run hX 1 _ _ _ _ ?_
  conv => whnf
  refine am_cq (f_turn (d := d + 1) (n := 6) (by decide) (by decide) o1) ?_
  rintro r2 N2 ⟨rfl, f2, o2⟩
  refine ⟨none, rfl, ?_⟩
  have F2 : N2.2 186 = M.2 186 := by rw [f2.2 186 (by decide) (by decide) (by decide), f1.2 186 (by decide) (by decide) (by decide)]
  refine am_run hX 4 _ _ _ _ ?_
  conv => whnf
  refine am_cq (f_st186 (d := d + 1) (a := 10 + 5 * j) (by omega) o2) ?_
  rintro r3 N3 ⟨rfl, f3, o3, k3⟩
  refine ⟨none, rfl, ?_⟩
  refine hE N3 (lfF_t (lfF_8 f1) (lfF_t (lfF_8 f2) (lfF_c f3))) (k3 _ _ _ (by omega) (by rw [F2]; exact hu)) o3 (fun b L y h1 h2 hy => k3 _ _ _ h2 (by rw [F2]; exact hy))
set_option maxRecDepth 100000 in
theorem lf_7p186 {P : am_Q} {X : am_X} {j K : Nat} {u v : R4} (hX : am_K (d + 2) false nm_X12_left P X) (hj : j < 2) (hu : a5 (M.2 186) (5 * j) K u) (hv : a5 (M.2 186) (10 + 5 * j) K v) (hE : ∀ N, lfF 186 M N → a5 (N.2 186) (5 * j) K u → a5 (N.2 186) (10 + 5 * j) K (t8n 7 v) → (∀ b L y, (b + 5 ≤ 5 * j ∨ 5 * j + 5 ≤ b) → (b + 5 ≤ 10 + 5 * j ∨ 10 + 5 * j + 5 ≤ b) → a5 (M.2 186) b L y → a5 (N.2 186) b L y) → X 251 [some (aR 108), some (aR 186), some (aI 0), some (aI (nI 7)), some (aI (nI j)), some (aI (nI (5 * j))), some (aI (nI (10 + 5 * j)))] [] N) : X 28 [some (aR 108), some (aR 186), some (aI 0), some (aI (nI 7)), some (aI (nI j)), some (aI (nI (5 * j))), some (aI (nI (10 + 5 * j)))] [] M := by
  refine am_run hX 3 _ _ _ _ ?_
  conv => whnf
  refine ⟨fun _ => ?_, fun z => absurd (by decide) z⟩
  refine am_run hX 2 _ _ _ _ ?_
  conv => whnf
  refine ⟨fun z => absurd z (by decide), fun _ => ?_⟩
  refine am_run hX 3 _ _ _ _ ?_
  conv => whnf
  refine ⟨fun _ => ?_, fun z => absurd (by decide) z⟩
  refine am_run hX 4 _ _ _ _ ?_
  conv => whnf
  refine am_cq (f_ld186 (d := d + 1) (a := 10 + 5 * j) (by omega) hv) ?_
  rintro r1 N1 ⟨rfl, f1, o1⟩
  refine ⟨none, rfl, ?_⟩
  refine am_run hX 4 _ _ _ _ ?_
  conv => whnf
  refine ⟨fun _ => ?_, fun z => absurd (by decide) z⟩
  refine am_run hX 3 _ _ _ _ ?_
  conv => whnf
  refine ⟨fun _ => ?_, fun z => absurd (by decide) z⟩
  refine am_run hX 3 _ _ _ _ ?_
  conv => whnf
  refine ⟨fun _ => ?_, fun z => absurd (by decide) z⟩
  refine am_run hX 3 _ _ _ _ ?_
  conv => whnf
  refine ⟨fun _ => ?_, fun z => absurd (by decide) z⟩
  refine am_run hX 1 _ _ _ _ ?_
  conv => whnf
  refine am_run hX 1 _ _ _ _ ?_
  conv => whnf
  refine am_cq (f_turn (d := d + 1) (n := 7) (by decide) (by decide) o1) ?_
  rintro r2 N2 ⟨rfl, f2, o2⟩
  refine ⟨none, rfl, ?_⟩
  have F2 : N2.2 186 = M.2 186 := by rw [f2.2 186 (by decide) (by decide) (by decide), f1.2 186 (by decide) (by decide) (by decide)]
  refine am_run hX 4 _ _ _ _ ?_
  conv => whnf
  refine am_cq (f_st186 (d := d + 1) (a := 10 + 5 * j) (by omega) o2) ?_
  rintro r3 N3 ⟨rfl, f3, o3, k3⟩
  refine ⟨none, rfl, ?_⟩
  refine hE N3 (lfF_t (lfF_8 f1) (lfF_t (lfF_8 f2) (lfF_c f3))) (k3 _ _ _ (by omega) (by rw [F2]; exact hu)) o3 (fun b L y h1 h2 hy => k3 _ _ _ h2 (by rw [F2]; exact hy))
set_option maxRecDepth 100000 in
theorem lf_c186 {P : am_Q} {X : am_X} {j K g : Nat} {u v : R4} {v5 v6 : Option am_V} (hX : am_K (d + 2) false nm_X12_left P X) (hg : g < 8) (hj : j < 2) (hK : K < 2 ^ 28) (nu : nrm u ≤ 2 ^ 120) (nv : nrm v ≤ 2 ^ 120) (hu : a5 (M.2 186) (5 * j) K u) (hv : a5 (M.2 186) (10 + 5 * j) K v) (hE : ∀ N, lfF 186 M N → a5 (N.2 186) (5 * j) (K + hk g) (gv g (u, v)).1 → a5 (N.2 186) (10 + 5 * j) (K + hk g) (gv g (u, v)).2 → (∀ b L y, (b + 5 ≤ 5 * j ∨ 5 * j + 5 ≤ b) → (b + 5 ≤ 10 + 5 * j ∨ 10 + 5 * j + 5 ≤ b) → a5 (M.2 186) b L y → a5 (N.2 186) b L y) → X 251 [some (aR 108), some (aR 186), some (aI 0), some (aI (nI g)), some (aI (nI j)), some (aI (nI (5 * j))), some (aI (nI (10 + 5 * j)))] [] N) : X 3 [some (aR 108), some (aR 186), some (aI 0), some (aI (nI g)), some (aI (nI j)), v5, v6] [] M := by
  have e1 : (0 : Int32) + 5 * nI j = nI (5 * j) := by rw [show (5 : Int32) = nI 5 from rfl, show (0 : Int32) = nI 0 from rfl, nI_mul, nI_add, Nat.zero_add]
  have e2 : (0 : Int32) + 10 + 5 * nI j = nI (10 + 5 * j) := by rw [show (5 : Int32) = nI 5 from rfl, show (0 : Int32) + 10 = nI 10 from rfl, nI_mul, nI_add]
  refine am_run hX 3 _ _ _ _ ?_
  conv => whnf
  refine ⟨fun z => absurd z (nI_ge (a := j) (b := 2) hj (by decide)), fun _ => ?_⟩
  refine am_run hX 14 _ _ _ _ ?_
  conv => whnf
  rw [e1, e2]
  have : g = 0 ∨ g = 1 ∨ g = 2 ∨ g = 3 ∨ g = 4 ∨ g = 5 ∨ g = 6 ∨ g = 7 := by omega
  rcases this with rfl | rfl | rfl | rfl | rfl | rfl | rfl | rfl
  · exact lf_0x186 hX hj hu hv hE
  · exact lf_1x186 hX hj hu hv hE
  · exact lf_2p186 hX hj hu hv hE
  · exact lf_h186 hX hj hK nu nv hu hv hE
  · exact lf_4p186 hX hj hu hv hE
  · exact lf_5p186 hX hj hu hv hE
  · exact lf_6p186 hX hj hu hv hE
  · exact lf_7p186 hX hj hu hv hE
set_option maxRecDepth 100000 in
theorem ct_left186 {K g : Nat} {x y : R2} (hg : g < 8) (hK : K < 2 ^ 28) (n1 : nrm x.1 ≤ 2 ^ 120) (n2 : nrm x.2 ≤ 2 ^ 120) (n3 : nrm y.1 ≤ 2 ^ 120) (n4 : nrm y.2 ≤ 2 ^ 120) (h : mxE (M.2 186) 0 K x y) : am_M (d + 3) false nm_X12_left [aR 108, aR 186, aI 0, aI (nI g)] M (fun r N => r = .inl none ∧ lfF 186 M N ∧ mxE (N.2 186) 0 (K + hk g) ((gv g (x.1, y.1)).1, (gv g (x.2, y.2)).1) ((gv g (x.1, y.1)).2, (gv g (x.2, y.2)).2)) := by
  obtain ⟨h1, h2, h3, h4⟩ := h
  refine ⟨rfl, rfl, rfl, fun X hX => am_run hX 2 _ _ _ _ ?_⟩
  conv => whnf
  refine lf_c186 (d := d) (j := 0) (K := K) (g := g) hX hg (by decide) hK n1 n3 h1 h3 (fun N1 f1 o1 o2 k1 => ?_)
  refine am_run hX 2 _ _ _ _ ?_
  conv => whnf
  rw [nI_1]
  refine lf_c186 (d := d) (j := 1) (K := K) (g := g) hX hg (by decide) hK n2 n4 (k1 5 K x.2 (by omega) (by omega) h2) (k1 15 K y.2 (by omega) (by omega) h4) (fun N2 f2 p1 p2 k2 => ?_)
  refine am_run hX 2 _ _ _ _ ?_
  conv => whnf
  rw [nI_1]
  refine am_run hX 3 _ _ _ _ ?_
  conv => whnf
  refine ⟨fun _ => ?_, fun z => absurd (by decide) z⟩
  refine am_run hX 1 _ _ _ _ ?_
  conv => whnf
  exact ⟨trivial, rfl, lfF_t f1 f2, k2 0 _ _ (by omega) (by omega) o1, p1, k2 10 _ _ (by omega) (by omega) o2, p2⟩
set_option maxRecDepth 100000 in
theorem lf_h187 {P : am_Q} {X : am_X} {j K : Nat} {u v : R4} (hX : am_K (d + 2) false nm_X12_left P X) (hj : j < 2) (hK : K < 2 ^ 28) (nu : nrm u ≤ 2 ^ 120) (nv : nrm v ≤ 2 ^ 120) (hu : a5 (M.2 187) (5 * j) K u) (hv : a5 (M.2 187) (10 + 5 * j) K v) (hE : ∀ N, lfF 187 M N → a5 (N.2 187) (5 * j) (K + 1) (ra u v) → a5 (N.2 187) (10 + 5 * j) (K + 1) (ra u (ng v)) → (∀ b L y, (b + 5 ≤ 5 * j ∨ 5 * j + 5 ≤ b) → (b + 5 ≤ 10 + 5 * j ∨ 10 + 5 * j + 5 ≤ b) → a5 (M.2 187) b L y → a5 (N.2 187) b L y) → X 251 [some (aR 108), some (aR 187), some (aI 0), some (aI (nI 3)), some (aI (nI j)), some (aI (nI (5 * j))), some (aI (nI (10 + 5 * j)))] [] N) : X 28 [some (aR 108), some (aR 187), some (aI 0), some (aI (nI 3)), some (aI (nI j)), some (aI (nI (5 * j))), some (aI (nI (10 + 5 * j)))] [] M := by
  have b1 : bd (ra u v) := nrm_2 nu nv
  have b2 : bd (ra u (ng v)) := nrm_2 nu (by rw [nrm_ng]; exact nv)
  refine am_run hX 3 _ _ _ _ ?_
  conv => whnf
  refine ⟨fun z => absurd rfl z, fun _ => ?_⟩
  refine am_run hX 4 _ _ _ _ ?_
  conv => whnf
  refine am_cq (f_ld187 (d := d + 1) (by omega) hu) ?_
  rintro r1 N1 ⟨rfl, f1, o1⟩
  refine ⟨none, rfl, ?_⟩
  refine am_run hX 5 _ _ _ _ ?_
  conv => whnf
  refine am_cq (f_add187p (d := d) (a := 10 + 5 * j) (by omega) (by omega) b1 o1 (by rw [f1.2 187 (by decide) (by decide) (by decide)]; exact hv)) ?_
  rintro r2 N2 ⟨rfl, f2, o2⟩
  refine ⟨none, rfl, ?_⟩
  refine am_run hX 2 _ _ _ _ ?_
  conv => whnf
  refine am_cq (f_halve (d := d) (by omega) b1 o2) ?_
  rintro r3 N3 ⟨rfl, f3, o3⟩
  refine ⟨none, rfl, ?_⟩
  refine am_run hX 5 _ _ _ _ ?_
  conv => whnf
  refine am_cq (f_st152 (d := d + 1) (a := 0) (by decide) o3) ?_
  rintro r4 N4 ⟨rfl, f4, o4, _⟩
  refine ⟨none, rfl, ?_⟩
  have F4 : N4.2 187 = M.2 187 := by rw [f4.2 187 (by decide) (by decide) (by decide), f3.2 187 (by decide) (by decide) (by decide), f2.2 187 (by decide) (by decide) (by decide), f1.2 187 (by decide) (by decide) (by decide)]
  refine am_run hX 4 _ _ _ _ ?_
  conv => whnf
  refine am_cq (f_ld187 (d := d + 1) (by omega) (by rw [F4]; exact hu)) ?_
  rintro r5 N5 ⟨rfl, f5, o5⟩
  refine ⟨none, rfl, ?_⟩
  refine am_run hX 5 _ _ _ _ ?_
  conv => whnf
  refine am_cq (f_add187m (d := d) (a := 10 + 5 * j) (by omega) (by omega) b2 o5 (by rw [f5.2 187 (by decide) (by decide) (by decide), F4]; exact hv)) ?_
  rintro r6 N6 ⟨rfl, f6, o6⟩
  refine ⟨none, rfl, ?_⟩
  refine am_run hX 2 _ _ _ _ ?_
  conv => whnf
  refine am_cq (f_halve (d := d) (by omega) b2 o6) ?_
  rintro r7 N7 ⟨rfl, f7, o7⟩
  refine ⟨none, rfl, ?_⟩
  have F7 : N7.2 187 = M.2 187 := by rw [f7.2 187 (by decide) (by decide) (by decide), f6.2 187 (by decide) (by decide) (by decide), f5.2 187 (by decide) (by decide) (by decide), F4]
  refine am_run hX 4 _ _ _ _ ?_
  conv => whnf
  refine am_cq (f_st187 (d := d + 1) (a := 10 + 5 * j) (by omega) o7) ?_
  rintro r8 N8 ⟨rfl, f8, o8, k8⟩
  refine ⟨none, rfl, ?_⟩
  refine am_run hX 5 _ _ _ _ ?_
  conv => whnf
  refine am_cq (f_ld152 (d := d + 1) (a := 0) (by decide) (by rw [f8.2 152 (by decide) (by decide) (by decide), f7.2 152 (by decide) (by decide) (by decide), f6.2 152 (by decide) (by decide) (by decide), f5.2 152 (by decide) (by decide) (by decide)]; exact o4)) ?_
  rintro r9 N9 ⟨rfl, f9, o9⟩
  refine ⟨none, rfl, ?_⟩
  refine am_run hX 4 _ _ _ _ ?_
  conv => whnf
  refine am_cq (f_st187 (d := d + 1) (a := 5 * j) (by omega) o9) ?_
  rintro r10 N10 ⟨rfl, f10, o10, k10⟩
  refine ⟨none, rfl, ?_⟩
  refine am_run hX 1 _ _ _ _ ?_
  conv => whnf
  refine hE N10 (lfF_t (lfF_t (lfF_t (lfF_8 f1) (lfF_t (lfF_8 f2) (lfF_8 f3))) (lfF_t (lfF_k f4) (lfF_t (lfF_8 f5) (lfF_8 f6)))) (lfF_t (lfF_t (lfF_8 f7) (lfF_c f8)) (lfF_t (lfF_8 f9) (lfF_c f10)))) o10 ?_ (fun b L y h1 h2 hy => ?_)
  · exact k10 _ _ _ (by omega) (by rw [f9.2 187 (by decide) (by decide) (by decide)]; exact o8)
  · refine k10 _ _ _ h1 ?_
    rw [f9.2 187 (by decide) (by decide) (by decide)]
    refine k8 _ _ _ h2 ?_
    rw [F7]
    exact hy
set_option maxRecDepth 100000 in
theorem lf_0x187 {P : am_Q} {X : am_X} {j K : Nat} {u v : R4} (hX : am_K (d + 2) false nm_X12_left P X) (hj : j < 2) (hu : a5 (M.2 187) (5 * j) K u) (hv : a5 (M.2 187) (10 + 5 * j) K v) (hE : ∀ N, lfF 187 M N → a5 (N.2 187) (5 * j) K (t8n 0 v) → a5 (N.2 187) (10 + 5 * j) K (t8n 0 u) → (∀ b L y, (b + 5 ≤ 5 * j ∨ 5 * j + 5 ≤ b) → (b + 5 ≤ 10 + 5 * j ∨ 10 + 5 * j + 5 ≤ b) → a5 (M.2 187) b L y → a5 (N.2 187) b L y) → X 251 [some (aR 108), some (aR 187), some (aI 0), some (aI (nI 0)), some (aI (nI j)), some (aI (nI (5 * j))), some (aI (nI (10 + 5 * j)))] [] N) : X 28 [some (aR 108), some (aR 187), some (aI 0), some (aI (nI 0)), some (aI (nI j)), some (aI (nI (5 * j))), some (aI (nI (10 + 5 * j)))] [] M := by
  refine am_run hX 3 _ _ _ _ ?_
  conv => whnf
  refine ⟨fun _ => ?_, fun z => absurd (by decide) z⟩
  refine am_run hX 2 _ _ _ _ ?_
  conv => whnf
  refine ⟨fun _ => ?_, fun z => absurd rfl z⟩
  refine am_run hX 4 _ _ _ _ ?_
  conv => whnf
  refine am_cq (f_ld187 (d := d + 1) (by omega) hu) ?_
  rintro r1 N1 ⟨rfl, f1, o1⟩
  refine ⟨none, rfl, ?_⟩
  refine am_run hX 4 _ _ _ _ ?_
  conv => whnf
  refine ⟨fun _ => ?_, fun z => absurd (by decide) z⟩
  refine am_run hX 1 _ _ _ _ ?_
  conv => whnf
  refine am_run hX 1 _ _ _ _ ?_
  conv => whnf
  refine am_cq (f_turn (d := d + 1) (n := 0) (by decide) (by decide) o1) ?_
  rintro r2 N2 ⟨rfl, f2, o2⟩
  refine ⟨none, rfl, ?_⟩
  refine am_run hX 5 _ _ _ _ ?_
  conv => whnf
  refine am_cq (f_st152 (d := d + 1) (a := 0) (by decide) o2) ?_
  rintro r3 N3 ⟨rfl, f3, o3, _⟩
  refine ⟨none, rfl, ?_⟩
  have F3 : N3.2 187 = M.2 187 := by rw [f3.2 187 (by decide) (by decide) (by decide), f2.2 187 (by decide) (by decide) (by decide), f1.2 187 (by decide) (by decide) (by decide)]
  refine am_run hX 4 _ _ _ _ ?_
  conv => whnf
  refine am_cq (f_ld187 (d := d + 1) (a := 10 + 5 * j) (by omega) (by rw [F3]; exact hv)) ?_
  rintro r4 N4 ⟨rfl, f4, o4⟩
  refine ⟨none, rfl, ?_⟩
  refine am_run hX 4 _ _ _ _ ?_
  conv => whnf
  refine ⟨fun _ => ?_, fun z => absurd (by decide) z⟩
  refine am_run hX 1 _ _ _ _ ?_
  conv => whnf
  refine am_run hX 1 _ _ _ _ ?_
  conv => whnf
  refine am_cq (f_turn (d := d + 1) (n := 0) (by decide) (by decide) o4) ?_
  rintro r5 N5 ⟨rfl, f5, o5⟩
  refine ⟨none, rfl, ?_⟩
  have F5 : N5.2 187 = M.2 187 := by rw [f5.2 187 (by decide) (by decide) (by decide), f4.2 187 (by decide) (by decide) (by decide), F3]
  refine am_run hX 4 _ _ _ _ ?_
  conv => whnf
  refine am_cq (f_st187 (d := d + 1) (a := 5 * j) (by omega) o5) ?_
  rintro r6 N6 ⟨rfl, f6, o6, k6⟩
  refine ⟨none, rfl, ?_⟩
  refine am_run hX 5 _ _ _ _ ?_
  conv => whnf
  refine am_cq (f_ld152 (d := d + 1) (a := 0) (by decide) (by rw [f6.2 152 (by decide) (by decide) (by decide), f5.2 152 (by decide) (by decide) (by decide), f4.2 152 (by decide) (by decide) (by decide)]; exact o3)) ?_
  rintro r7 N7 ⟨rfl, f7, o7⟩
  refine ⟨none, rfl, ?_⟩
  refine am_run hX 4 _ _ _ _ ?_
  conv => whnf
  refine am_cq (f_st187 (d := d + 1) (a := 10 + 5 * j) (by omega) o7) ?_
  rintro r8 N8 ⟨rfl, f8, o8, k8⟩
  refine ⟨none, rfl, ?_⟩
  refine am_run hX 1 _ _ _ _ ?_
  conv => whnf
  refine hE N8 (lfF_t (lfF_t (lfF_8 f1) (lfF_t (lfF_8 f2) (lfF_k f3))) (lfF_t (lfF_t (lfF_8 f4) (lfF_8 f5)) (lfF_t (lfF_c f6) (lfF_t (lfF_8 f7) (lfF_c f8))))) ?_ o8 (fun b L y h1 h2 hy => ?_)
  · exact k8 _ _ _ (by omega) (by rw [f7.2 187 (by decide) (by decide) (by decide)]; exact o6)
  · refine k8 _ _ _ h2 ?_
    rw [f7.2 187 (by decide) (by decide) (by decide)]
    refine k6 _ _ _ h1 ?_
    rw [F5]
    exact hy
set_option maxRecDepth 100000 in
theorem lf_1x187 {P : am_Q} {X : am_X} {j K : Nat} {u v : R4} (hX : am_K (d + 2) false nm_X12_left P X) (hj : j < 2) (hu : a5 (M.2 187) (5 * j) K u) (hv : a5 (M.2 187) (10 + 5 * j) K v) (hE : ∀ N, lfF 187 M N → a5 (N.2 187) (5 * j) K (t8n 6 v) → a5 (N.2 187) (10 + 5 * j) K (t8n 2 u) → (∀ b L y, (b + 5 ≤ 5 * j ∨ 5 * j + 5 ≤ b) → (b + 5 ≤ 10 + 5 * j ∨ 10 + 5 * j + 5 ≤ b) → a5 (M.2 187) b L y → a5 (N.2 187) b L y) → X 251 [some (aR 108), some (aR 187), some (aI 0), some (aI (nI 1)), some (aI (nI j)), some (aI (nI (5 * j))), some (aI (nI (10 + 5 * j)))] [] N) : X 28 [some (aR 108), some (aR 187), some (aI 0), some (aI (nI 1)), some (aI (nI j)), some (aI (nI (5 * j))), some (aI (nI (10 + 5 * j)))] [] M := by
  refine am_run hX 3 _ _ _ _ ?_
  conv => whnf
  refine ⟨fun _ => ?_, fun z => absurd (by decide) z⟩
  refine am_run hX 2 _ _ _ _ ?_
  conv => whnf
  refine ⟨fun z => absurd z (by decide), fun _ => ?_⟩
  refine am_run hX 3 _ _ _ _ ?_
  conv => whnf
  refine ⟨fun z => absurd rfl z, fun _ => ?_⟩
  refine am_run hX 4 _ _ _ _ ?_
  conv => whnf
  refine am_cq (f_ld187 (d := d + 1) (by omega) hu) ?_
  rintro r1 N1 ⟨rfl, f1, o1⟩
  refine ⟨none, rfl, ?_⟩
  refine am_run hX 4 _ _ _ _ ?_
  conv => whnf
  refine ⟨fun z => absurd rfl z, fun _ => ?_⟩
  refine am_run hX 2 _ _ _ _ ?_
  conv => whnf
  refine am_run hX 1 _ _ _ _ ?_
  conv => whnf
  refine am_cq (f_turn (d := d + 1) (n := 2) (by decide) (by decide) o1) ?_
  rintro r2 N2 ⟨rfl, f2, o2⟩
  refine ⟨none, rfl, ?_⟩
  refine am_run hX 5 _ _ _ _ ?_
  conv => whnf
  refine am_cq (f_st152 (d := d + 1) (a := 0) (by decide) o2) ?_
  rintro r3 N3 ⟨rfl, f3, o3, _⟩
  refine ⟨none, rfl, ?_⟩
  have F3 : N3.2 187 = M.2 187 := by rw [f3.2 187 (by decide) (by decide) (by decide), f2.2 187 (by decide) (by decide) (by decide), f1.2 187 (by decide) (by decide) (by decide)]
  refine am_run hX 4 _ _ _ _ ?_
  conv => whnf
  refine am_cq (f_ld187 (d := d + 1) (a := 10 + 5 * j) (by omega) (by rw [F3]; exact hv)) ?_
  rintro r4 N4 ⟨rfl, f4, o4⟩
  refine ⟨none, rfl, ?_⟩
  refine am_run hX 4 _ _ _ _ ?_
  conv => whnf
  refine ⟨fun z => absurd rfl z, fun _ => ?_⟩
  refine am_run hX 2 _ _ _ _ ?_
  conv => whnf
  refine am_run hX 1 _ _ _ _ ?_
  conv => whnf
  refine am_cq (f_turn (d := d + 1) (n := 6) (by decide) (by decide) o4) ?_
  rintro r5 N5 ⟨rfl, f5, o5⟩
  refine ⟨none, rfl, ?_⟩
  have F5 : N5.2 187 = M.2 187 := by rw [f5.2 187 (by decide) (by decide) (by decide), f4.2 187 (by decide) (by decide) (by decide), F3]
  refine am_run hX 4 _ _ _ _ ?_
  conv => whnf
  refine am_cq (f_st187 (d := d + 1) (a := 5 * j) (by omega) o5) ?_
  rintro r6 N6 ⟨rfl, f6, o6, k6⟩
  refine ⟨none, rfl, ?_⟩
  refine am_run hX 5 _ _ _ _ ?_
  conv => whnf
  refine am_cq (f_ld152 (d := d + 1) (a := 0) (by decide) (by rw [f6.2 152 (by decide) (by decide) (by decide), f5.2 152 (by decide) (by decide) (by decide), f4.2 152 (by decide) (by decide) (by decide)]; exact o3)) ?_
  rintro r7 N7 ⟨rfl, f7, o7⟩
  refine ⟨none, rfl, ?_⟩
  refine am_run hX 4 _ _ _ _ ?_
  conv => whnf
  refine am_cq (f_st187 (d := d + 1) (a := 10 + 5 * j) (by omega) o7) ?_
  rintro r8 N8 ⟨rfl, f8, o8, k8⟩
  refine ⟨none, rfl, ?_⟩
  refine am_run hX 1 _ _ _ _ ?_
  conv => whnf
  refine hE N8 (lfF_t (lfF_t (lfF_8 f1) (lfF_t (lfF_8 f2) (lfF_k f3))) (lfF_t (lfF_t (lfF_8 f4) (lfF_8 f5)) (lfF_t (lfF_c f6) (lfF_t (lfF_8 f7) (lfF_c f8))))) ?_ o8 (fun b L y h1 h2 hy => ?_)
  · exact k8 _ _ _ (by omega) (by rw [f7.2 187 (by decide) (by decide) (by decide)]; exact o6)
  · refine k8 _ _ _ h2 ?_
    rw [f7.2 187 (by decide) (by decide) (by decide)]
    refine k6 _ _ _ h1 ?_
    rw [F5]
    exact hy
set_option maxRecDepth 100000 in
theorem lf_2p187 {P : am_Q} {X : am_X} {j K : Nat} {u v : R4} (hX : am_K (d + 2) false nm_X12_left P X) (hj : j < 2) (hu : a5 (M.2 187) (5 * j) K u) (hv : a5 (M.2 187) (10 + 5 * j) K v) (hE : ∀ N, lfF 187 M N → a5 (N.2 187) (5 * j) K u → a5 (N.2 187) (10 + 5 * j) K (t8n 4 v) → (∀ b L y, (b + 5 ≤ 5 * j ∨ 5 * j + 5 ≤ b) → (b + 5 ≤ 10 + 5 * j ∨ 10 + 5 * j + 5 ≤ b) → a5 (M.2 187) b L y → a5 (N.2 187) b L y) → X 251 [some (aR 108), some (aR 187), some (aI 0), some (aI (nI 2)), some (aI (nI j)), some (aI (nI (5 * j))), some (aI (nI (10 + 5 * j)))] [] N) : X 28 [some (aR 108), some (aR 187), some (aI 0), some (aI (nI 2)), some (aI (nI j)), some (aI (nI (5 * j))), some (aI (nI (10 + 5 * j)))] [] M := by
  refine am_run hX 3 _ _ _ _ ?_
  conv => whnf
  refine ⟨fun _ => ?_, fun z => absurd (by decide) z⟩
  refine am_run hX 2 _ _ _ _ ?_
  conv => whnf
  refine ⟨fun z => absurd z (by decide), fun _ => ?_⟩
  refine am_run hX 3 _ _ _ _ ?_
  conv => whnf
  refine ⟨fun _ => ?_, fun z => absurd (by decide) z⟩
  refine am_run hX 4 _ _ _ _ ?_
  conv => whnf
  refine am_cq (f_ld187 (d := d + 1) (a := 10 + 5 * j) (by omega) hv) ?_
  rintro r1 N1 ⟨rfl, f1, o1⟩
  refine ⟨none, rfl, ?_⟩
  refine am_run hX 4 _ _ _ _ ?_
  conv => whnf
  refine ⟨fun z => absurd rfl z, fun _ => ?_⟩
  refine am_run hX 2 _ _ _ _ ?_
  conv => whnf
  refine am_run hX 1 _ _ _ _ ?_
  conv => whnf
  refine am_cq (f_turn (d := d + 1) (n := 4) (by decide) (by decide) o1) ?_
  rintro r2 N2 ⟨rfl, f2, o2⟩
  refine ⟨none, rfl, ?_⟩
  have F2 : N2.2 187 = M.2 187 := by rw [f2.2 187 (by decide) (by decide) (by decide), f1.2 187 (by decide) (by decide) (by decide)]
  refine am_run hX 4 _ _ _ _ ?_
  conv => whnf
  refine am_cq (f_st187 (d := d + 1) (a := 10 + 5 * j) (by omega) o2) ?_
  rintro r3 N3 ⟨rfl, f3, o3, k3⟩
  refine ⟨none, rfl, ?_⟩
  refine hE N3 (lfF_t (lfF_8 f1) (lfF_t (lfF_8 f2) (lfF_c f3))) (k3 _ _ _ (by omega) (by rw [F2]; exact hu)) o3 (fun b L y h1 h2 hy => k3 _ _ _ h2 (by rw [F2]; exact hy))
set_option maxRecDepth 100000 in
theorem lf_4p187 {P : am_Q} {X : am_X} {j K : Nat} {u v : R4} (hX : am_K (d + 2) false nm_X12_left P X) (hj : j < 2) (hu : a5 (M.2 187) (5 * j) K u) (hv : a5 (M.2 187) (10 + 5 * j) K v) (hE : ∀ N, lfF 187 M N → a5 (N.2 187) (5 * j) K u → a5 (N.2 187) (10 + 5 * j) K (t8n 2 v) → (∀ b L y, (b + 5 ≤ 5 * j ∨ 5 * j + 5 ≤ b) → (b + 5 ≤ 10 + 5 * j ∨ 10 + 5 * j + 5 ≤ b) → a5 (M.2 187) b L y → a5 (N.2 187) b L y) → X 251 [some (aR 108), some (aR 187), some (aI 0), some (aI (nI 4)), some (aI (nI j)), some (aI (nI (5 * j))), some (aI (nI (10 + 5 * j)))] [] N) : X 28 [some (aR 108), some (aR 187), some (aI 0), some (aI (nI 4)), some (aI (nI j)), some (aI (nI (5 * j))), some (aI (nI (10 + 5 * j)))] [] M := by
  refine am_run hX 3 _ _ _ _ ?_
  conv => whnf
  refine ⟨fun _ => ?_, fun z => absurd (by decide) z⟩
  refine am_run hX 2 _ _ _ _ ?_
  conv => whnf
  refine ⟨fun z => absurd z (by decide), fun _ => ?_⟩
  refine am_run hX 3 _ _ _ _ ?_
  conv => whnf
  refine ⟨fun _ => ?_, fun z => absurd (by decide) z⟩
  refine am_run hX 4 _ _ _ _ ?_
  conv => whnf
  refine am_cq (f_ld187 (d := d + 1) (a := 10 + 5 * j) (by omega) hv) ?_
  rintro r1 N1 ⟨rfl, f1, o1⟩
  refine ⟨none, rfl, ?_⟩
  refine am_run hX 4 _ _ _ _ ?_
  conv => whnf
  refine ⟨fun _ => ?_, fun z => absurd (by decide) z⟩
  refine am_run hX 3 _ _ _ _ ?_
  conv => whnf
  refine ⟨fun z => absurd rfl z, fun _ => ?_⟩
  refine am_run hX 2 _ _ _ _ ?_
  conv => whnf
  refine am_run hX 1 _ _ _ _ ?_
  conv => whnf
  refine am_cq (f_turn (d := d + 1) (n := 2) (by decide) (by decide) o1) ?_
  rintro r2 N2 ⟨rfl, f2, o2⟩
  refine ⟨none, rfl, ?_⟩
  have F2 : N2.2 187 = M.2 187 := by rw [f2.2 187 (by decide) (by decide) (by decide), f1.2 187 (by decide) (by decide) (by decide)]
  refine am_run hX 4 _ _ _ _ ?_
  conv => whnf
  refine am_cq (f_st187 (d := d + 1) (a := 10 + 5 * j) (by omega) o2) ?_
  rintro r3 N3 ⟨rfl, f3, o3, k3⟩
  refine ⟨none, rfl, ?_⟩
  refine hE N3 (lfF_t (lfF_8 f1) (lfF_t (lfF_8 f2) (lfF_c f3))) (k3 _ _ _ (by omega) (by rw [F2]; exact hu)) o3 (fun b L y h1 h2 hy => k3 _ _ _ h2 (by rw [F2]; exact hy))
set_option maxRecDepth 100000 in
theorem lf_5p187 {P : am_Q} {X : am_X} {j K : Nat} {u v : R4} (hX : am_K (d + 2) false nm_X12_left P X) (hj : j < 2) (hu : a5 (M.2 187) (5 * j) K u) (hv : a5 (M.2 187) (10 + 5 * j) K v) (hE : ∀ N, lfF 187 M N → a5 (N.2 187) (5 * j) K u → a5 (N.2 187) (10 + 5 * j) K (t8n 1 v) → (∀ b L y, (b + 5 ≤ 5 * j ∨ 5 * j + 5 ≤ b) → (b + 5 ≤ 10 + 5 * j ∨ 10 + 5 * j + 5 ≤ b) → a5 (M.2 187) b L y → a5 (N.2 187) b L y) → X 251 [some (aR 108), some (aR 187), some (aI 0), some (aI (nI 5)), some (aI (nI j)), some (aI (nI (5 * j))), some (aI (nI (10 + 5 * j)))] [] N) : X 28 [some (aR 108), some (aR 187), some (aI 0), some (aI (nI 5)), some (aI (nI j)), some (aI (nI (5 * j))), some (aI (nI (10 + 5 * j)))] [] M := by
  refine am_run hX 3 _ _ _ _ ?_
  conv => whnf
  refine ⟨fun _ => ?_, fun z => absurd (by decide) z⟩
  refine am_run hX 2 _ _ _ _ ?_
  conv => whnf
  refine ⟨fun z => absurd z (by decide), fun _ => ?_⟩
  refine am_run hX 3 _ _ _ _ ?_
  conv => whnf
  refine ⟨fun _ => ?_, fun z => absurd (by decide) z⟩
  refine am_run hX 4 _ _ _ _ ?_
  conv => whnf
  refine am_cq (f_ld187 (d := d + 1) (a := 10 + 5 * j) (by omega) hv) ?_
  rintro r1 N1 ⟨rfl, f1, o1⟩
  refine ⟨none, rfl, ?_⟩
  refine am_run hX 4 _ _ _ _ ?_
  conv => whnf
  refine ⟨fun _ => ?_, fun z => absurd (by decide) z⟩
  refine am_run hX 3 _ _ _ _ ?_
  conv => whnf
  refine ⟨fun _ => ?_, fun z => absurd (by decide) z⟩
  refine am_run hX 3 _ _ _ _ ?_
  conv => whnf
  refine ⟨fun z => absurd rfl z, fun _ => ?_⟩
  refine am_run hX 2 _ _ _ _ ?_
  conv => whnf
  refine am_run hX 1 _ _ _ _ ?_
  conv => whnf
  refine am_cq (f_turn (d := d + 1) (n := 1) (by decide) (by decide) o1) ?_
  rintro r2 N2 ⟨rfl, f2, o2⟩
  refine ⟨none, rfl, ?_⟩
  have F2 : N2.2 187 = M.2 187 := by rw [f2.2 187 (by decide) (by decide) (by decide), f1.2 187 (by decide) (by decide) (by decide)]
  refine am_run hX 4 _ _ _ _ ?_
  conv => whnf
  refine am_cq (f_st187 (d := d + 1) (a := 10 + 5 * j) (by omega) o2) ?_
  rintro r3 N3 ⟨rfl, f3, o3, k3⟩
  refine ⟨none, rfl, ?_⟩
  refine hE N3 (lfF_t (lfF_8 f1) (lfF_t (lfF_8 f2) (lfF_c f3))) (k3 _ _ _ (by omega) (by rw [F2]; exact hu)) o3 (fun b L y h1 h2 hy => k3 _ _ _ h2 (by rw [F2]; exact hy))
set_option maxRecDepth 100000 in
theorem lf_6p187 {P : am_Q} {X : am_X} {j K : Nat} {u v : R4} (hX : am_K (d + 2) false nm_X12_left P X) (hj : j < 2) (hu : a5 (M.2 187) (5 * j) K u) (hv : a5 (M.2 187) (10 + 5 * j) K v) (hE : ∀ N, lfF 187 M N → a5 (N.2 187) (5 * j) K u → a5 (N.2 187) (10 + 5 * j) K (t8n 6 v) → (∀ b L y, (b + 5 ≤ 5 * j ∨ 5 * j + 5 ≤ b) → (b + 5 ≤ 10 + 5 * j ∨ 10 + 5 * j + 5 ≤ b) → a5 (M.2 187) b L y → a5 (N.2 187) b L y) → X 251 [some (aR 108), some (aR 187), some (aI 0), some (aI (nI 6)), some (aI (nI j)), some (aI (nI (5 * j))), some (aI (nI (10 + 5 * j)))] [] N) : X 28 [some (aR 108), some (aR 187), some (aI 0), some (aI (nI 6)), some (aI (nI j)), some (aI (nI (5 * j))), some (aI (nI (10 + 5 * j)))] [] M := by
  refine am_run hX 3 _ _ _ _ ?_
  conv => whnf
  refine ⟨fun _ => ?_, fun z => absurd (by decide) z⟩
  refine am_run hX 2 _ _ _ _ ?_
  conv => whnf
  refine ⟨fun z => absurd z (by decide), fun _ => ?_⟩
  refine am_run hX 3 _ _ _ _ ?_
  conv => whnf
  refine ⟨fun _ => ?_, fun z => absurd (by decide) z⟩
  refine am_run hX 4 _ _ _ _ ?_
  conv => whnf
  refine am_cq (f_ld187 (d := d + 1) (a := 10 + 5 * j) (by omega) hv) ?_
  rintro r1 N1 ⟨rfl, f1, o1⟩
  refine ⟨none, rfl, ?_⟩
  refine am_run hX 4 _ _ _ _ ?_
  conv => whnf
  refine ⟨fun _ => ?_, fun z => absurd (by decide) z⟩
  refine am_run hX 3 _ _ _ _ ?_
  conv => whnf
  refine ⟨fun _ => ?_, fun z => absurd (by decide) z⟩
  refine am_run hX 3 _ _ _ _ ?_
  conv => whnf
  refine ⟨fun _ => ?_, fun z => absurd (by decide) z⟩
  refine am_run hX 3 _ _ _ _ ?_
  conv => whnf
  refine ⟨fun z => absurd rfl z, fun _ => ?_⟩
  refine am_run hX 2 _ _ _ _ ?_
  conv => whnf
  refine am_run hX 1 _ _ _ _ ?_
  conv => whnf
  refine am_cq (f_turn (d := d + 1) (n := 6) (by decide) (by decide) o1) ?_
  rintro r2 N2 ⟨rfl, f2, o2⟩
  refine ⟨none, rfl, ?_⟩
  have F2 : N2.2 187 = M.2 187 := by rw [f2.2 187 (by decide) (by decide) (by decide), f1.2 187 (by decide) (by decide) (by decide)]
  refine am_run hX 4 _ _ _ _ ?_
  conv => whnf
  refine am_cq (f_st187 (d := d + 1) (a := 10 + 5 * j) (by omega) o2) ?_
  rintro r3 N3 ⟨rfl, f3, o3, k3⟩
  refine ⟨none, rfl, ?_⟩
  refine hE N3 (lfF_t (lfF_8 f1) (lfF_t (lfF_8 f2) (lfF_c f3))) (k3 _ _ _ (by omega) (by rw [F2]; exact hu)) o3 (fun b L y h1 h2 hy => k3 _ _ _ h2 (by rw [F2]; exact hy))
set_option maxRecDepth 100000 in
theorem lf_7p187 {P : am_Q} {X : am_X} {j K : Nat} {u v : R4} (hX : am_K (d + 2) false nm_X12_left P X) (hj : j < 2) (hu : a5 (M.2 187) (5 * j) K u) (hv : a5 (M.2 187) (10 + 5 * j) K v) (hE : ∀ N, lfF 187 M N → a5 (N.2 187) (5 * j) K u → a5 (N.2 187) (10 + 5 * j) K (t8n 7 v) → (∀ b L y, (b + 5 ≤ 5 * j ∨ 5 * j + 5 ≤ b) → (b + 5 ≤ 10 + 5 * j ∨ 10 + 5 * j + 5 ≤ b) → a5 (M.2 187) b L y → a5 (N.2 187) b L y) → X 251 [some (aR 108), some (aR 187), some (aI 0), some (aI (nI 7)), some (aI (nI j)), some (aI (nI (5 * j))), some (aI (nI (10 + 5 * j)))] [] N) : X 28 [some (aR 108), some (aR 187), some (aI 0), some (aI (nI 7)), some (aI (nI j)), some (aI (nI (5 * j))), some (aI (nI (10 + 5 * j)))] [] M := by
  refine am_run hX 3 _ _ _ _ ?_
  conv => whnf
  refine ⟨fun _ => ?_, fun z => absurd (by decide) z⟩
  refine am_run hX 2 _ _ _ _ ?_
  conv => whnf
  refine ⟨fun z => absurd z (by decide), fun _ => ?_⟩
  refine am_run hX 3 _ _ _ _ ?_
  conv => whnf
  refine ⟨fun _ => ?_, fun z => absurd (by decide) z⟩
  refine am_run hX 4 _ _ _ _ ?_
  conv => whnf
  refine am_cq (f_ld187 (d := d + 1) (a := 10 + 5 * j) (by omega) hv) ?_
  rintro r1 N1 ⟨rfl, f1, o1⟩
  refine ⟨none, rfl, ?_⟩
  refine am_run hX 4 _ _ _ _ ?_
  conv => whnf
  refine ⟨fun _ => ?_, fun z => absurd (by decide) z⟩
  refine am_run hX 3 _ _ _ _ ?_
  conv => whnf
  refine ⟨fun _ => ?_, fun z => absurd (by decide) z⟩
  refine am_run hX 3 _ _ _ _ ?_
  conv => whnf
  refine ⟨fun _ => ?_, fun z => absurd (by decide) z⟩
  refine am_run hX 3 _ _ _ _ ?_
  conv => whnf
  refine ⟨fun _ => ?_, fun z => absurd (by decide) z⟩
  refine am_run hX 1 _ _ _ _ ?_
  conv => whnf
  refine am_run hX 1 _ _ _ _ ?_
  conv => whnf
  refine am_cq (f_turn (d := d + 1) (n := 7) (by decide) (by decide) o1) ?_
  rintro r2 N2 ⟨rfl, f2, o2⟩
  refine ⟨none, rfl, ?_⟩
  have F2 : N2.2 187 = M.2 187 := by rw [f2.2 187 (by decide) (by decide) (by decide), f1.2 187 (by decide) (by decide) (by decide)]
  refine am_run hX 4 _ _ _ _ ?_
  conv => whnf
  refine am_cq (f_st187 (d := d + 1) (a := 10 + 5 * j) (by omega) o2) ?_
  rintro r3 N3 ⟨rfl, f3, o3, k3⟩
  refine ⟨none, rfl, ?_⟩
  refine hE N3 (lfF_t (lfF_8 f1) (lfF_t (lfF_8 f2) (lfF_c f3))) (k3 _ _ _ (by omega) (by rw [F2]; exact hu)) o3 (fun b L y h1 h2 hy => k3 _ _ _ h2 (by rw [F2]; exact hy))
set_option maxRecDepth 100000 in
theorem lf_c187 {P : am_Q} {X : am_X} {j K g : Nat} {u v : R4} {v5 v6 : Option am_V} (hX : am_K (d + 2) false nm_X12_left P X) (hg : g < 8) (hj : j < 2) (hK : K < 2 ^ 28) (nu : nrm u ≤ 2 ^ 120) (nv : nrm v ≤ 2 ^ 120) (hu : a5 (M.2 187) (5 * j) K u) (hv : a5 (M.2 187) (10 + 5 * j) K v) (hE : ∀ N, lfF 187 M N → a5 (N.2 187) (5 * j) (K + hk g) (gv g (u, v)).1 → a5 (N.2 187) (10 + 5 * j) (K + hk g) (gv g (u, v)).2 → (∀ b L y, (b + 5 ≤ 5 * j ∨ 5 * j + 5 ≤ b) → (b + 5 ≤ 10 + 5 * j ∨ 10 + 5 * j + 5 ≤ b) → a5 (M.2 187) b L y → a5 (N.2 187) b L y) → X 251 [some (aR 108), some (aR 187), some (aI 0), some (aI (nI g)), some (aI (nI j)), some (aI (nI (5 * j))), some (aI (nI (10 + 5 * j)))] [] N) : X 3 [some (aR 108), some (aR 187), some (aI 0), some (aI (nI g)), some (aI (nI j)), v5, v6] [] M := by
  have e1 : (0 : Int32) + 5 * nI j = nI (5 * j) := by rw [show (5 : Int32) = nI 5 from rfl, show (0 : Int32) = nI 0 from rfl, nI_mul, nI_add, Nat.zero_add]
  have e2 : (0 : Int32) + 10 + 5 * nI j = nI (10 + 5 * j) := by rw [show (5 : Int32) = nI 5 from rfl, show (0 : Int32) + 10 = nI 10 from rfl, nI_mul, nI_add]
  refine am_run hX 3 _ _ _ _ ?_
  conv => whnf
  refine ⟨fun z => absurd z (nI_ge (a := j) (b := 2) hj (by decide)), fun _ => ?_⟩
  refine am_run hX 14 _ _ _ _ ?_
  conv => whnf
  rw [e1, e2]
  have : g = 0 ∨ g = 1 ∨ g = 2 ∨ g = 3 ∨ g = 4 ∨ g = 5 ∨ g = 6 ∨ g = 7 := by omega
  rcases this with rfl | rfl | rfl | rfl | rfl | rfl | rfl | rfl
  · exact lf_0x187 hX hj hu hv hE
  · exact lf_1x187 hX hj hu hv hE
  · exact lf_2p187 hX hj hu hv hE
  · exact lf_h187 hX hj hK nu nv hu hv hE
  · exact lf_4p187 hX hj hu hv hE
  · exact lf_5p187 hX hj hu hv hE
  · exact lf_6p187 hX hj hu hv hE
  · exact lf_7p187 hX hj hu hv hE
set_option maxRecDepth 100000 in
theorem ct_left187 {K g : Nat} {x y : R2} (hg : g < 8) (hK : K < 2 ^ 28) (n1 : nrm x.1 ≤ 2 ^ 120) (n2 : nrm x.2 ≤ 2 ^ 120) (n3 : nrm y.1 ≤ 2 ^ 120) (n4 : nrm y.2 ≤ 2 ^ 120) (h : mxE (M.2 187) 0 K x y) : am_M (d + 3) false nm_X12_left [aR 108, aR 187, aI 0, aI (nI g)] M (fun r N => r = .inl none ∧ lfF 187 M N ∧ mxE (N.2 187) 0 (K + hk g) ((gv g (x.1, y.1)).1, (gv g (x.2, y.2)).1) ((gv g (x.1, y.1)).2, (gv g (x.2, y.2)).2)) := by
  obtain ⟨h1, h2, h3, h4⟩ := h
  refine ⟨rfl, rfl, rfl, fun X hX => am_run hX 2 _ _ _ _ ?_⟩
  conv => whnf
  refine lf_c187 (d := d) (j := 0) (K := K) (g := g) hX hg (by decide) hK n1 n3 h1 h3 (fun N1 f1 o1 o2 k1 => ?_)
  refine am_run hX 2 _ _ _ _ ?_
  conv => whnf
  rw [nI_1]
  refine lf_c187 (d := d) (j := 1) (K := K) (g := g) hX hg (by decide) hK n2 n4 (k1 5 K x.2 (by omega) (by omega) h2) (k1 15 K y.2 (by omega) (by omega) h4) (fun N2 f2 p1 p2 k2 => ?_)
  refine am_run hX 2 _ _ _ _ ?_
  conv => whnf
  rw [nI_1]
  refine am_run hX 3 _ _ _ _ ?_
  conv => whnf
  refine ⟨fun _ => ?_, fun z => absurd (by decide) z⟩
  refine am_run hX 1 _ _ _ _ ?_
  conv => whnf
  exact ⟨trivial, rfl, lfF_t f1 f2, k2 0 _ _ (by omega) (by omega) o1, p1, k2 10 _ _ (by omega) (by omega) o2, p2⟩
end FMG
