/-! FORM: what becomes of the PAULIS, at the reference -/
def bq (B : Int) (x : R4) : Prop := (-B ≤ x.1 ∧ x.1 ≤ B) ∧ (-B ≤ x.2.1 ∧ x.2.1 ≤ B) ∧ (-B ≤ x.2.2.1 ∧ x.2.2.1 ≤ B) ∧ (-B ≤ x.2.2.2 ∧ x.2.2.2 ≤ B)
theorem bq_bd {B : Int} {x : R4} (h : bq B x) (hB : B ≤ 2 ^ 61) : bd x := by
  obtain ⟨⟨a, b⟩, ⟨c, d⟩, ⟨e, f⟩, g, k⟩ := h
  exact ⟨⟨by omega, by omega⟩, ⟨by omega, by omega⟩, ⟨by omega, by omega⟩, by omega, by omega⟩
theorem bq_ra {A B : Int} {x y : R4} (h : bq A x) (h' : bq B y) : bq (A + B) (ra x y) := by
  obtain ⟨⟨a, b⟩, ⟨c, d⟩, ⟨e, f⟩, g, k⟩ := h
  obtain ⟨⟨a', b'⟩, ⟨c', d'⟩, ⟨e', f'⟩, g', k'⟩ := h'
  exact ⟨⟨by show _ ≤ x.1 + y.1; omega, by show x.1 + y.1 ≤ _; omega⟩, ⟨by show _ ≤ x.2.1 + y.2.1; omega, by show x.2.1 + y.2.1 ≤ _; omega⟩, ⟨by show _ ≤ x.2.2.1 + y.2.2.1; omega, by show x.2.2.1 + y.2.2.1 ≤ _; omega⟩, by show _ ≤ x.2.2.2 + y.2.2.2; omega, by show x.2.2.2 + y.2.2.2 ≤ _; omega⟩
theorem bq_ng {B : Int} {x : R4} (h : bq B x) : bq B (ng x) := by
  obtain ⟨⟨a, b⟩, ⟨c, d⟩, ⟨e, f⟩, g, k⟩ := h
  exact ⟨⟨by show _ ≤ -x.1; omega, by show -x.1 ≤ _; omega⟩, ⟨by show _ ≤ -x.2.1; omega, by show -x.2.1 ≤ _; omega⟩, ⟨by show _ ≤ -x.2.2.1; omega, by show -x.2.2.1 ≤ _; omega⟩, by show _ ≤ -x.2.2.2; omega, by show -x.2.2.2 ≤ _; omega⟩
theorem bq_0 {B : Int} (h : 0 ≤ B) : bq B (0, 0, 0, 0) := ⟨⟨by show -B ≤ 0; omega, h⟩, ⟨by show -B ≤ 0; omega, h⟩, ⟨by show -B ≤ 0; omega, h⟩, by show -B ≤ 0; omega, h⟩
theorem mu_bq {x y : R4} {B : Int} (hx : nrm x ≤ B) (hy : nrm y ≤ B) : bq B (mu x y) := by
  obtain ⟨a, b, c, d⟩ := x
  obtain ⟨e, f, g, h⟩ := y
  have sq : ∀ u v : Int, -(u * u + v * v) ≤ 2 * (u * v) ∧ 2 * (u * v) ≤ u * u + v * v := fun u v => by
    have p1 := sq_0 (u + v)
    have p2 := sq_0 (u - v)
    rw [show (u + v) * (u + v) = u * u + u * v + (v * u + v * v) by rw [Int.add_mul, Int.mul_add, Int.mul_add], Int.mul_comm v u] at p1
    rw [show (u - v) * (u - v) = u * u - u * v - (v * u - v * v) by rw [Int.sub_mul, Int.mul_sub, Int.mul_sub], Int.mul_comm v u] at p2
    omega
  unfold nrm at hx hy
  simp only at hx hy
  unfold bq mu
  simp only
  have := sq a e
  have := sq b h
  have := sq c g
  have := sq d f
  have := sq a f
  have := sq b e
  have := sq c h
  have := sq d g
  have := sq a g
  have := sq b f
  have := sq c e
  have := sq d h
  have := sq a h
  have := sq b g
  have := sq c f
  have := sq d e
  refine ⟨⟨?_, ?_⟩, ⟨?_, ?_⟩, ⟨?_, ?_⟩, ⟨?_, ?_⟩⟩ <;> omega
def rwS (x y : R2) (c : Nat) : R2 := if c = 0 then x else y
theorem mx_at {f : Nat → Int64} {K : Nat} {x y : R2} (h : mxE f 0 K x y) {c : Nat} (hc : c < 2) : a5 f (10 * c) K (rwS x y c).1 ∧ a5 f (10 * c + 5) K (rwS x y c).2 := by
  have : c = 0 ∨ c = 1 := by omega
  rcases this with rfl | rfl
  · exact ⟨h.1, h.2.1⟩
  · exact ⟨h.2.2.1, h.2.2.2⟩
def slF (M N : mm_M) : Prop := N.1 = M.1 ∧ ∀ k, k ≠ 118 → k ≠ 119 → k ≠ 153 → N.2 k = M.2 k
theorem slF_r (M : mm_M) : slF M M := ⟨rfl, fun _ _ _ _ => rfl⟩
theorem slF_t {M N K : mm_M} (h : slF M N) (g : slF N K) : slF M K := ⟨g.1.trans h.1, fun k a b e => (g.2 k a b e).trans (h.2 k a b e)⟩
theorem slF_8 {M N : mm_M} (h : opF 118 M N) : slF M N := ⟨h.1, fun k a b _ => h.2 k a b a⟩
theorem slF_s {M N : mm_M} (h : opF 153 M N) : slF M N := ⟨h.1, fun k a b e => h.2 k a b e⟩
/-- what PAULI p's place i adds -/
def pP (p i : Nat) (x y : R2) : R4 := if i = 0 then mu (t8n (ph0 p) (cj (pk0 p y))) x.1 else mu (t8n (ph1 p) (cj (pk1 p y))) x.2
theorem nm_c {x : R4} {n : Nat} {B : Int} (h : nrm x ≤ B) : nrm (t8n n (cj x)) ≤ B := by rw [nrm_t8n, nrm_cj]; exact h
/-- a small matrix -/
def smN (B : Int) (x y : R2) : Prop := nrm x.1 ≤ B ∧ nrm x.2 ≤ B ∧ nrm y.1 ≤ B ∧ nrm y.2 ≤ B
theorem sm_S {B : Int} {x y : R2} (h : smN B x y) (c : Nat) : nrm (rwS x y c).1 ≤ B ∧ nrm (rwS x y c).2 ≤ B := by
  unfold rwS
  split
  · exact ⟨h.1, h.2.1⟩
  · exact ⟨h.2.2.1, h.2.2.2⟩
section FMH
variable {d : Nat} {M : mm_M}
set_option maxRecDepth 100000 in
theorem bl_10_186 {P : am_Q} {X : am_X} {r c K : Nat} {x y : R2} {S : R4} {v7 : Option am_V} (hX : am_K (d + 2) false nm_X12_blochCell P X) (hr : r < 2) (hc : c < 2) (hK : K < 2 ^ 27) (h : mxE (M.2 186) 0 K x y) (hn : smN (2 ^ 40) x y) (hS : a5 (M.2 153) 0 (K + K) S) (bS : bq (2 ^ 41) S) (hE : ∀ N v7', slF M N → a5 (N.2 153) 0 (K + K) (ra (pP 1 0 (rwS x y r) (rwS x y c)) S) → X 7 [some (aR 108), some (aR 186), some (aI 0), some (aI (nI 1)), some (aI (nI r)), some (aI (nI c)), some (aI (nI 1)), v7'] [] N) : X 7 [some (aR 108), some (aR 186), some (aI 0), some (aI (nI 1)), some (aI (nI r)), some (aI (nI c)), some (aI (nI 0)), v7] [] M := by
  obtain ⟨q1, q2⟩ := mx_at h hc
  obtain ⟨s1, s2⟩ := mx_at h hr
  obtain ⟨m1, m2⟩ := sm_S hn c
  obtain ⟨m3, m4⟩ := sm_S hn r
  have e1 : (0 : Int32) + 10 * nI c + 5 * (1 - nI 0) = nI (10 * c + 5) := by
    have : c = 0 ∨ c = 1 := by omega
    rcases this with rfl | rfl <;> decide
  have e2 : (0 : Int32) + 10 * nI r + 5 * nI 0 = nI (10 * r) := by
    have : r = 0 ∨ r = 1 := by omega
    rcases this with rfl | rfl <;> decide
  have bP : bq (2 ^ 40) (mu (t8n 0 (cj (rwS x y c).2)) (rwS x y r).1) := mu_bq (nm_c m2) m3
  refine am_run hX 3 _ _ _ _ ?_
  conv => whnf
  refine ⟨fun z => absurd z (by decide), fun _ => ?_⟩
  refine am_run hX 3 _ _ _ _ ?_
  conv => whnf
  refine ⟨fun _ => ?_, fun z => absurd (by decide) z⟩
  refine am_run hX 3 _ _ _ _ ?_
  conv => whnf
  refine am_run hX 13 _ _ _ _ ?_
  conv => whnf
  rw [e1]
  refine am_cq (f_ld186 (d := d + 1) (by omega) q2) ?_
  rintro r1 N1 ⟨rfl, f1, o1⟩
  refine ⟨none, rfl, ?_⟩
  refine am_run hX 2 _ _ _ _ ?_
  conv => whnf
  refine am_cq (f_conj (d := d + 1) o1) ?_
  rintro r2 N2 ⟨rfl, f2, o2⟩
  refine ⟨none, rfl, ?_⟩
  refine am_run hX 4 _ _ _ _ ?_
  conv => whnf
  refine ⟨fun _ => ?_, fun z => absurd (by decide) z⟩
  refine am_run hX 3 _ _ _ _ ?_
  conv => whnf
  refine ⟨fun _ => ?_, fun z => absurd (by decide) z⟩
  refine am_run hX 1 _ _ _ _ ?_
  conv => whnf
  refine am_run hX 1 _ _ _ _ ?_
  conv => whnf
  refine am_cq (f_turn (d := d + 1) (n := 0) (by decide) (by decide) o2) ?_
  rintro r3 N3 ⟨rfl, f3, o3⟩
  refine ⟨none, rfl, ?_⟩
  have F3 : N3.2 186 = M.2 186 := by rw [f3.2 186 (by decide) (by decide) (by decide), f2.2 186 (by decide) (by decide) (by decide), f1.2 186 (by decide) (by decide) (by decide)]
  refine am_run hX 12 _ _ _ _ ?_
  conv => whnf
  rw [e2]
  refine am_cq (f_mul186 (d := d) (K := K) (L := K) (by omega) (by omega) (by omega) (bq_bd bP (by decide)) o3 (by rw [F3]; exact s1)) ?_
  rintro r4 N4 ⟨rfl, f4, o4⟩
  refine ⟨none, rfl, ?_⟩
  have F4 : N4.2 153 = M.2 153 := by rw [f4.2 153 (by decide) (by decide) (by decide), f3.2 153 (by decide) (by decide) (by decide), f2.2 153 (by decide) (by decide) (by decide), f1.2 153 (by decide) (by decide) (by decide)]
  refine am_run hX 6 _ _ _ _ ?_
  conv => whnf
  refine am_cq (f_add153p (d := d) (a := 0) (K := K + K) (by decide) (by omega) (bq_bd (bq_ra bP bS) (by decide)) o4 (by rw [F4]; exact hS)) ?_
  rintro r5 N5 ⟨rfl, f5, o5⟩
  refine ⟨none, rfl, ?_⟩
  refine am_run hX 2 _ _ _ _ ?_
  conv => whnf
  refine am_cq (f_keepS (d := d) o5) ?_
  rintro r6 N6 ⟨rfl, f6, o6⟩
  refine ⟨none, rfl, ?_⟩
  refine am_run hX 2 _ _ _ _ ?_
  conv => whnf
  exact hE N6 _ (slF_t (slF_t (slF_8 f1) (slF_t (slF_8 f2) (slF_8 f3))) (slF_t (slF_8 f4) (slF_t (slF_8 f5) (slF_s f6)))) o6
set_option maxRecDepth 100000 in
theorem bl_11_186 {P : am_Q} {X : am_X} {r c K : Nat} {x y : R2} {S : R4} {v7 : Option am_V} (hX : am_K (d + 2) false nm_X12_blochCell P X) (hr : r < 2) (hc : c < 2) (hK : K < 2 ^ 27) (h : mxE (M.2 186) 0 K x y) (hn : smN (2 ^ 40) x y) (hS : a5 (M.2 153) 0 (K + K) S) (bS : bq (2 ^ 41) S) (hE : ∀ N v7', slF M N → a5 (N.2 153) 0 (K + K) (ra (pP 1 1 (rwS x y r) (rwS x y c)) S) → X 7 [some (aR 108), some (aR 186), some (aI 0), some (aI (nI 1)), some (aI (nI r)), some (aI (nI c)), some (aI (nI 2)), v7'] [] N) : X 7 [some (aR 108), some (aR 186), some (aI 0), some (aI (nI 1)), some (aI (nI r)), some (aI (nI c)), some (aI (nI 1)), v7] [] M := by
  obtain ⟨q1, q2⟩ := mx_at h hc
  obtain ⟨s1, s2⟩ := mx_at h hr
  obtain ⟨m1, m2⟩ := sm_S hn c
  obtain ⟨m3, m4⟩ := sm_S hn r
  have e1 : (0 : Int32) + 10 * nI c + 5 * (1 - nI 1) = nI (10 * c) := by
    have : c = 0 ∨ c = 1 := by omega
    rcases this with rfl | rfl <;> decide
  have e2 : (0 : Int32) + 10 * nI r + 5 * nI 1 = nI (10 * r + 5) := by
    have : r = 0 ∨ r = 1 := by omega
    rcases this with rfl | rfl <;> decide
  have bP : bq (2 ^ 40) (mu (t8n 0 (cj (rwS x y c).1)) (rwS x y r).2) := mu_bq (nm_c m1) m4
  refine am_run hX 3 _ _ _ _ ?_
  conv => whnf
  refine ⟨fun z => absurd z (by decide), fun _ => ?_⟩
  refine am_run hX 3 _ _ _ _ ?_
  conv => whnf
  refine ⟨fun _ => ?_, fun z => absurd (by decide) z⟩
  refine am_run hX 3 _ _ _ _ ?_
  conv => whnf
  refine am_run hX 13 _ _ _ _ ?_
  conv => whnf
  rw [e1]
  refine am_cq (f_ld186 (d := d + 1) (by omega) q1) ?_
  rintro r1 N1 ⟨rfl, f1, o1⟩
  refine ⟨none, rfl, ?_⟩
  refine am_run hX 2 _ _ _ _ ?_
  conv => whnf
  refine am_cq (f_conj (d := d + 1) o1) ?_
  rintro r2 N2 ⟨rfl, f2, o2⟩
  refine ⟨none, rfl, ?_⟩
  refine am_run hX 4 _ _ _ _ ?_
  conv => whnf
  refine ⟨fun _ => ?_, fun z => absurd (by decide) z⟩
  refine am_run hX 3 _ _ _ _ ?_
  conv => whnf
  refine ⟨fun _ => ?_, fun z => absurd (by decide) z⟩
  refine am_run hX 1 _ _ _ _ ?_
  conv => whnf
  refine am_run hX 1 _ _ _ _ ?_
  conv => whnf
  refine am_cq (f_turn (d := d + 1) (n := 0) (by decide) (by decide) o2) ?_
  rintro r3 N3 ⟨rfl, f3, o3⟩
  refine ⟨none, rfl, ?_⟩
  have F3 : N3.2 186 = M.2 186 := by rw [f3.2 186 (by decide) (by decide) (by decide), f2.2 186 (by decide) (by decide) (by decide), f1.2 186 (by decide) (by decide) (by decide)]
  refine am_run hX 12 _ _ _ _ ?_
  conv => whnf
  rw [e2]
  refine am_cq (f_mul186 (d := d) (K := K) (L := K) (by omega) (by omega) (by omega) (bq_bd bP (by decide)) o3 (by rw [F3]; exact s2)) ?_
  rintro r4 N4 ⟨rfl, f4, o4⟩
  refine ⟨none, rfl, ?_⟩
  have F4 : N4.2 153 = M.2 153 := by rw [f4.2 153 (by decide) (by decide) (by decide), f3.2 153 (by decide) (by decide) (by decide), f2.2 153 (by decide) (by decide) (by decide), f1.2 153 (by decide) (by decide) (by decide)]
  refine am_run hX 6 _ _ _ _ ?_
  conv => whnf
  refine am_cq (f_add153p (d := d) (a := 0) (K := K + K) (by decide) (by omega) (bq_bd (bq_ra bP bS) (by decide)) o4 (by rw [F4]; exact hS)) ?_
  rintro r5 N5 ⟨rfl, f5, o5⟩
  refine ⟨none, rfl, ?_⟩
  refine am_run hX 2 _ _ _ _ ?_
  conv => whnf
  refine am_cq (f_keepS (d := d) o5) ?_
  rintro r6 N6 ⟨rfl, f6, o6⟩
  refine ⟨none, rfl, ?_⟩
  refine am_run hX 2 _ _ _ _ ?_
  conv => whnf
  exact hE N6 _ (slF_t (slF_t (slF_8 f1) (slF_t (slF_8 f2) (slF_8 f3))) (slF_t (slF_8 f4) (slF_t (slF_8 f5) (slF_s f6)))) o6
set_option maxRecDepth 100000 in
theorem bl_20_186 {P : am_Q} {X : am_X} {r c K : Nat} {x y : R2} {S : R4} {v7 : Option am_V} (hX : am_K (d + 2) false nm_X12_blochCell P X) (hr : r < 2) (hc : c < 2) (hK : K < 2 ^ 27) (h : mxE (M.2 186) 0 K x y) (hn : smN (2 ^ 40) x y) (hS : a5 (M.2 153) 0 (K + K) S) (bS : bq (2 ^ 41) S) (hE : ∀ N v7', slF M N → a5 (N.2 153) 0 (K + K) (ra (pP 2 0 (rwS x y r) (rwS x y c)) S) → X 7 [some (aR 108), some (aR 186), some (aI 0), some (aI (nI 2)), some (aI (nI r)), some (aI (nI c)), some (aI (nI 1)), v7'] [] N) : X 7 [some (aR 108), some (aR 186), some (aI 0), some (aI (nI 2)), some (aI (nI r)), some (aI (nI c)), some (aI (nI 0)), v7] [] M := by
  obtain ⟨q1, q2⟩ := mx_at h hc
  obtain ⟨s1, s2⟩ := mx_at h hr
  obtain ⟨m1, m2⟩ := sm_S hn c
  obtain ⟨m3, m4⟩ := sm_S hn r
  have e1 : (0 : Int32) + 10 * nI c + 5 * (1 - nI 0) = nI (10 * c + 5) := by
    have : c = 0 ∨ c = 1 := by omega
    rcases this with rfl | rfl <;> decide
  have e2 : (0 : Int32) + 10 * nI r + 5 * nI 0 = nI (10 * r) := by
    have : r = 0 ∨ r = 1 := by omega
    rcases this with rfl | rfl <;> decide
  have bP : bq (2 ^ 40) (mu (t8n 6 (cj (rwS x y c).2)) (rwS x y r).1) := mu_bq (nm_c m2) m3
  refine am_run hX 3 _ _ _ _ ?_
  conv => whnf
  refine ⟨fun z => absurd z (by decide), fun _ => ?_⟩
  refine am_run hX 3 _ _ _ _ ?_
  conv => whnf
  refine ⟨fun _ => ?_, fun z => absurd (by decide) z⟩
  refine am_run hX 3 _ _ _ _ ?_
  conv => whnf
  refine am_run hX 13 _ _ _ _ ?_
  conv => whnf
  rw [e1]
  refine am_cq (f_ld186 (d := d + 1) (by omega) q2) ?_
  rintro r1 N1 ⟨rfl, f1, o1⟩
  refine ⟨none, rfl, ?_⟩
  refine am_run hX 2 _ _ _ _ ?_
  conv => whnf
  refine am_cq (f_conj (d := d + 1) o1) ?_
  rintro r2 N2 ⟨rfl, f2, o2⟩
  refine ⟨none, rfl, ?_⟩
  refine am_run hX 4 _ _ _ _ ?_
  conv => whnf
  refine ⟨fun z => absurd rfl z, fun _ => ?_⟩
  refine am_run hX 2 _ _ _ _ ?_
  conv => whnf
  refine ⟨fun z => absurd rfl z, fun _ => ?_⟩
  refine am_run hX 2 _ _ _ _ ?_
  conv => whnf
  refine am_run hX 1 _ _ _ _ ?_
  conv => whnf
  refine am_cq (f_turn (d := d + 1) (n := 6) (by decide) (by decide) o2) ?_
  rintro r3 N3 ⟨rfl, f3, o3⟩
  refine ⟨none, rfl, ?_⟩
  have F3 : N3.2 186 = M.2 186 := by rw [f3.2 186 (by decide) (by decide) (by decide), f2.2 186 (by decide) (by decide) (by decide), f1.2 186 (by decide) (by decide) (by decide)]
  refine am_run hX 12 _ _ _ _ ?_
  conv => whnf
  rw [e2]
  refine am_cq (f_mul186 (d := d) (K := K) (L := K) (by omega) (by omega) (by omega) (bq_bd bP (by decide)) o3 (by rw [F3]; exact s1)) ?_
  rintro r4 N4 ⟨rfl, f4, o4⟩
  refine ⟨none, rfl, ?_⟩
  have F4 : N4.2 153 = M.2 153 := by rw [f4.2 153 (by decide) (by decide) (by decide), f3.2 153 (by decide) (by decide) (by decide), f2.2 153 (by decide) (by decide) (by decide), f1.2 153 (by decide) (by decide) (by decide)]
  refine am_run hX 6 _ _ _ _ ?_
  conv => whnf
  refine am_cq (f_add153p (d := d) (a := 0) (K := K + K) (by decide) (by omega) (bq_bd (bq_ra bP bS) (by decide)) o4 (by rw [F4]; exact hS)) ?_
  rintro r5 N5 ⟨rfl, f5, o5⟩
  refine ⟨none, rfl, ?_⟩
  refine am_run hX 2 _ _ _ _ ?_
  conv => whnf
  refine am_cq (f_keepS (d := d) o5) ?_
  rintro r6 N6 ⟨rfl, f6, o6⟩
  refine ⟨none, rfl, ?_⟩
  refine am_run hX 2 _ _ _ _ ?_
  conv => whnf
  exact hE N6 _ (slF_t (slF_t (slF_8 f1) (slF_t (slF_8 f2) (slF_8 f3))) (slF_t (slF_8 f4) (slF_t (slF_8 f5) (slF_s f6)))) o6
set_option maxRecDepth 100000 in
theorem bl_21_186 {P : am_Q} {X : am_X} {r c K : Nat} {x y : R2} {S : R4} {v7 : Option am_V} (hX : am_K (d + 2) false nm_X12_blochCell P X) (hr : r < 2) (hc : c < 2) (hK : K < 2 ^ 27) (h : mxE (M.2 186) 0 K x y) (hn : smN (2 ^ 40) x y) (hS : a5 (M.2 153) 0 (K + K) S) (bS : bq (2 ^ 41) S) (hE : ∀ N v7', slF M N → a5 (N.2 153) 0 (K + K) (ra (pP 2 1 (rwS x y r) (rwS x y c)) S) → X 7 [some (aR 108), some (aR 186), some (aI 0), some (aI (nI 2)), some (aI (nI r)), some (aI (nI c)), some (aI (nI 2)), v7'] [] N) : X 7 [some (aR 108), some (aR 186), some (aI 0), some (aI (nI 2)), some (aI (nI r)), some (aI (nI c)), some (aI (nI 1)), v7] [] M := by
  obtain ⟨q1, q2⟩ := mx_at h hc
  obtain ⟨s1, s2⟩ := mx_at h hr
  obtain ⟨m1, m2⟩ := sm_S hn c
  obtain ⟨m3, m4⟩ := sm_S hn r
  have e1 : (0 : Int32) + 10 * nI c + 5 * (1 - nI 1) = nI (10 * c) := by
    have : c = 0 ∨ c = 1 := by omega
    rcases this with rfl | rfl <;> decide
  have e2 : (0 : Int32) + 10 * nI r + 5 * nI 1 = nI (10 * r + 5) := by
    have : r = 0 ∨ r = 1 := by omega
    rcases this with rfl | rfl <;> decide
  have bP : bq (2 ^ 40) (mu (t8n 2 (cj (rwS x y c).1)) (rwS x y r).2) := mu_bq (nm_c m1) m4
  refine am_run hX 3 _ _ _ _ ?_
  conv => whnf
  refine ⟨fun z => absurd z (by decide), fun _ => ?_⟩
  refine am_run hX 3 _ _ _ _ ?_
  conv => whnf
  refine ⟨fun _ => ?_, fun z => absurd (by decide) z⟩
  refine am_run hX 3 _ _ _ _ ?_
  conv => whnf
  refine am_run hX 13 _ _ _ _ ?_
  conv => whnf
  rw [e1]
  refine am_cq (f_ld186 (d := d + 1) (by omega) q1) ?_
  rintro r1 N1 ⟨rfl, f1, o1⟩
  refine ⟨none, rfl, ?_⟩
  refine am_run hX 2 _ _ _ _ ?_
  conv => whnf
  refine am_cq (f_conj (d := d + 1) o1) ?_
  rintro r2 N2 ⟨rfl, f2, o2⟩
  refine ⟨none, rfl, ?_⟩
  refine am_run hX 4 _ _ _ _ ?_
  conv => whnf
  refine ⟨fun z => absurd rfl z, fun _ => ?_⟩
  refine am_run hX 2 _ _ _ _ ?_
  conv => whnf
  refine ⟨fun _ => ?_, fun z => absurd (by decide) z⟩
  refine am_run hX 2 _ _ _ _ ?_
  conv => whnf
  refine am_run hX 1 _ _ _ _ ?_
  conv => whnf
  refine am_cq (f_turn (d := d + 1) (n := 2) (by decide) (by decide) o2) ?_
  rintro r3 N3 ⟨rfl, f3, o3⟩
  refine ⟨none, rfl, ?_⟩
  have F3 : N3.2 186 = M.2 186 := by rw [f3.2 186 (by decide) (by decide) (by decide), f2.2 186 (by decide) (by decide) (by decide), f1.2 186 (by decide) (by decide) (by decide)]
  refine am_run hX 12 _ _ _ _ ?_
  conv => whnf
  rw [e2]
  refine am_cq (f_mul186 (d := d) (K := K) (L := K) (by omega) (by omega) (by omega) (bq_bd bP (by decide)) o3 (by rw [F3]; exact s2)) ?_
  rintro r4 N4 ⟨rfl, f4, o4⟩
  refine ⟨none, rfl, ?_⟩
  have F4 : N4.2 153 = M.2 153 := by rw [f4.2 153 (by decide) (by decide) (by decide), f3.2 153 (by decide) (by decide) (by decide), f2.2 153 (by decide) (by decide) (by decide), f1.2 153 (by decide) (by decide) (by decide)]
  refine am_run hX 6 _ _ _ _ ?_
  conv => whnf
  refine am_cq (f_add153p (d := d) (a := 0) (K := K + K) (by decide) (by omega) (bq_bd (bq_ra bP bS) (by decide)) o4 (by rw [F4]; exact hS)) ?_
  rintro r5 N5 ⟨rfl, f5, o5⟩
  refine ⟨none, rfl, ?_⟩
  refine am_run hX 2 _ _ _ _ ?_
  conv => whnf
  refine am_cq (f_keepS (d := d) o5) ?_
  rintro r6 N6 ⟨rfl, f6, o6⟩
  refine ⟨none, rfl, ?_⟩
  refine am_run hX 2 _ _ _ _ ?_
  conv => whnf
  exact hE N6 _ (slF_t (slF_t (slF_8 f1) (slF_t (slF_8 f2) (slF_8 f3))) (slF_t (slF_8 f4) (slF_t (slF_8 f5) (slF_s f6)))) o6
set_option maxRecDepth 100000 in
theorem bl_30_186 {P : am_Q} {X : am_X} {r c K : Nat} {x y : R2} {S : R4} {v7 : Option am_V} (hX : am_K (d + 2) false nm_X12_blochCell P X) (hr : r < 2) (hc : c < 2) (hK : K < 2 ^ 27) (h : mxE (M.2 186) 0 K x y) (hn : smN (2 ^ 40) x y) (hS : a5 (M.2 153) 0 (K + K) S) (bS : bq (2 ^ 41) S) (hE : ∀ N v7', slF M N → a5 (N.2 153) 0 (K + K) (ra (pP 3 0 (rwS x y r) (rwS x y c)) S) → X 7 [some (aR 108), some (aR 186), some (aI 0), some (aI (nI 3)), some (aI (nI r)), some (aI (nI c)), some (aI (nI 1)), v7'] [] N) : X 7 [some (aR 108), some (aR 186), some (aI 0), some (aI (nI 3)), some (aI (nI r)), some (aI (nI c)), some (aI (nI 0)), v7] [] M := by
  obtain ⟨q1, q2⟩ := mx_at h hc
  obtain ⟨s1, s2⟩ := mx_at h hr
  obtain ⟨m1, m2⟩ := sm_S hn c
  obtain ⟨m3, m4⟩ := sm_S hn r
  have e1 : (0 : Int32) + 10 * nI c + 5 * nI 0 = nI (10 * c) := by
    have : c = 0 ∨ c = 1 := by omega
    rcases this with rfl | rfl <;> decide
  have e2 : (0 : Int32) + 10 * nI r + 5 * nI 0 = nI (10 * r) := by
    have : r = 0 ∨ r = 1 := by omega
    rcases this with rfl | rfl <;> decide
  have bP : bq (2 ^ 40) (mu (t8n 0 (cj (rwS x y c).1)) (rwS x y r).1) := mu_bq (nm_c m1) m3
  refine am_run hX 3 _ _ _ _ ?_
  conv => whnf
  refine ⟨fun z => absurd z (by decide), fun _ => ?_⟩
  refine am_run hX 3 _ _ _ _ ?_
  conv => whnf
  refine ⟨fun z => absurd rfl z, fun _ => ?_⟩
  refine am_run hX 2 _ _ _ _ ?_
  conv => whnf
  refine am_run hX 13 _ _ _ _ ?_
  conv => whnf
  rw [e1]
  refine am_cq (f_ld186 (d := d + 1) (by omega) q1) ?_
  rintro r1 N1 ⟨rfl, f1, o1⟩
  refine ⟨none, rfl, ?_⟩
  refine am_run hX 2 _ _ _ _ ?_
  conv => whnf
  refine am_cq (f_conj (d := d + 1) o1) ?_
  rintro r2 N2 ⟨rfl, f2, o2⟩
  refine ⟨none, rfl, ?_⟩
  refine am_run hX 4 _ _ _ _ ?_
  conv => whnf
  refine ⟨fun _ => ?_, fun z => absurd (by decide) z⟩
  refine am_run hX 3 _ _ _ _ ?_
  conv => whnf
  refine ⟨fun z => absurd rfl z, fun _ => ?_⟩
  refine am_run hX 3 _ _ _ _ ?_
  conv => whnf
  refine ⟨fun _ => ?_, fun z => absurd (by decide) z⟩
  refine am_run hX 1 _ _ _ _ ?_
  conv => whnf
  refine am_run hX 1 _ _ _ _ ?_
  conv => whnf
  refine am_cq (f_turn (d := d + 1) (n := 0) (by decide) (by decide) o2) ?_
  rintro r3 N3 ⟨rfl, f3, o3⟩
  refine ⟨none, rfl, ?_⟩
  have F3 : N3.2 186 = M.2 186 := by rw [f3.2 186 (by decide) (by decide) (by decide), f2.2 186 (by decide) (by decide) (by decide), f1.2 186 (by decide) (by decide) (by decide)]
  refine am_run hX 12 _ _ _ _ ?_
  conv => whnf
  rw [e2]
  refine am_cq (f_mul186 (d := d) (K := K) (L := K) (by omega) (by omega) (by omega) (bq_bd bP (by decide)) o3 (by rw [F3]; exact s1)) ?_
  rintro r4 N4 ⟨rfl, f4, o4⟩
  refine ⟨none, rfl, ?_⟩
  have F4 : N4.2 153 = M.2 153 := by rw [f4.2 153 (by decide) (by decide) (by decide), f3.2 153 (by decide) (by decide) (by decide), f2.2 153 (by decide) (by decide) (by decide), f1.2 153 (by decide) (by decide) (by decide)]
  refine am_run hX 6 _ _ _ _ ?_
  conv => whnf
  refine am_cq (f_add153p (d := d) (a := 0) (K := K + K) (by decide) (by omega) (bq_bd (bq_ra bP bS) (by decide)) o4 (by rw [F4]; exact hS)) ?_
  rintro r5 N5 ⟨rfl, f5, o5⟩
  refine ⟨none, rfl, ?_⟩
  refine am_run hX 2 _ _ _ _ ?_
  conv => whnf
  refine am_cq (f_keepS (d := d) o5) ?_
  rintro r6 N6 ⟨rfl, f6, o6⟩
  refine ⟨none, rfl, ?_⟩
  refine am_run hX 2 _ _ _ _ ?_
  conv => whnf
  exact hE N6 _ (slF_t (slF_t (slF_8 f1) (slF_t (slF_8 f2) (slF_8 f3))) (slF_t (slF_8 f4) (slF_t (slF_8 f5) (slF_s f6)))) o6
set_option maxRecDepth 100000 in
theorem bl_31_186 {P : am_Q} {X : am_X} {r c K : Nat} {x y : R2} {S : R4} {v7 : Option am_V} (hX : am_K (d + 2) false nm_X12_blochCell P X) (hr : r < 2) (hc : c < 2) (hK : K < 2 ^ 27) (h : mxE (M.2 186) 0 K x y) (hn : smN (2 ^ 40) x y) (hS : a5 (M.2 153) 0 (K + K) S) (bS : bq (2 ^ 41) S) (hE : ∀ N v7', slF M N → a5 (N.2 153) 0 (K + K) (ra (pP 3 1 (rwS x y r) (rwS x y c)) S) → X 7 [some (aR 108), some (aR 186), some (aI 0), some (aI (nI 3)), some (aI (nI r)), some (aI (nI c)), some (aI (nI 2)), v7'] [] N) : X 7 [some (aR 108), some (aR 186), some (aI 0), some (aI (nI 3)), some (aI (nI r)), some (aI (nI c)), some (aI (nI 1)), v7] [] M := by
  obtain ⟨q1, q2⟩ := mx_at h hc
  obtain ⟨s1, s2⟩ := mx_at h hr
  obtain ⟨m1, m2⟩ := sm_S hn c
  obtain ⟨m3, m4⟩ := sm_S hn r
  have e1 : (0 : Int32) + 10 * nI c + 5 * nI 1 = nI (10 * c + 5) := by
    have : c = 0 ∨ c = 1 := by omega
    rcases this with rfl | rfl <;> decide
  have e2 : (0 : Int32) + 10 * nI r + 5 * nI 1 = nI (10 * r + 5) := by
    have : r = 0 ∨ r = 1 := by omega
    rcases this with rfl | rfl <;> decide
  have bP : bq (2 ^ 40) (mu (t8n 4 (cj (rwS x y c).2)) (rwS x y r).2) := mu_bq (nm_c m2) m4
  refine am_run hX 3 _ _ _ _ ?_
  conv => whnf
  refine ⟨fun z => absurd z (by decide), fun _ => ?_⟩
  refine am_run hX 3 _ _ _ _ ?_
  conv => whnf
  refine ⟨fun z => absurd rfl z, fun _ => ?_⟩
  refine am_run hX 2 _ _ _ _ ?_
  conv => whnf
  refine am_run hX 13 _ _ _ _ ?_
  conv => whnf
  rw [e1]
  refine am_cq (f_ld186 (d := d + 1) (by omega) q2) ?_
  rintro r1 N1 ⟨rfl, f1, o1⟩
  refine ⟨none, rfl, ?_⟩
  refine am_run hX 2 _ _ _ _ ?_
  conv => whnf
  refine am_cq (f_conj (d := d + 1) o1) ?_
  rintro r2 N2 ⟨rfl, f2, o2⟩
  refine ⟨none, rfl, ?_⟩
  refine am_run hX 4 _ _ _ _ ?_
  conv => whnf
  refine ⟨fun _ => ?_, fun z => absurd (by decide) z⟩
  refine am_run hX 3 _ _ _ _ ?_
  conv => whnf
  refine ⟨fun z => absurd rfl z, fun _ => ?_⟩
  refine am_run hX 3 _ _ _ _ ?_
  conv => whnf
  refine ⟨fun z => absurd rfl z, fun _ => ?_⟩
  refine am_run hX 2 _ _ _ _ ?_
  conv => whnf
  refine am_run hX 1 _ _ _ _ ?_
  conv => whnf
  refine am_cq (f_turn (d := d + 1) (n := 4) (by decide) (by decide) o2) ?_
  rintro r3 N3 ⟨rfl, f3, o3⟩
  refine ⟨none, rfl, ?_⟩
  have F3 : N3.2 186 = M.2 186 := by rw [f3.2 186 (by decide) (by decide) (by decide), f2.2 186 (by decide) (by decide) (by decide), f1.2 186 (by decide) (by decide) (by decide)]
  refine am_run hX 12 _ _ _ _ ?_
  conv => whnf
  rw [e2]
  refine am_cq (f_mul186 (d := d) (K := K) (L := K) (by omega) (by omega) (by omega) (bq_bd bP (by decide)) o3 (by rw [F3]; exact s2)) ?_
  rintro r4 N4 ⟨rfl, f4, o4⟩
  refine ⟨none, rfl, ?_⟩
  have F4 : N4.2 153 = M.2 153 := by rw [f4.2 153 (by decide) (by decide) (by decide), f3.2 153 (by decide) (by decide) (by decide), f2.2 153 (by decide) (by decide) (by decide), f1.2 153 (by decide) (by decide) (by decide)]
  refine am_run hX 6 _ _ _ _ ?_
  conv => whnf
  refine am_cq (f_add153p (d := d) (a := 0) (K := K + K) (by decide) (by omega) (bq_bd (bq_ra bP bS) (by decide)) o4 (by rw [F4]; exact hS)) ?_
  rintro r5 N5 ⟨rfl, f5, o5⟩
  refine ⟨none, rfl, ?_⟩
  refine am_run hX 2 _ _ _ _ ?_
  conv => whnf
  refine am_cq (f_keepS (d := d) o5) ?_
  rintro r6 N6 ⟨rfl, f6, o6⟩
  refine ⟨none, rfl, ?_⟩
  refine am_run hX 2 _ _ _ _ ?_
  conv => whnf
  exact hE N6 _ (slF_t (slF_t (slF_8 f1) (slF_t (slF_8 f2) (slF_8 f3))) (slF_t (slF_8 f4) (slF_t (slF_8 f5) (slF_s f6)))) o6
set_option maxRecDepth 100000 in
theorem bl_10_187 {P : am_Q} {X : am_X} {r c K : Nat} {x y : R2} {S : R4} {v7 : Option am_V} (hX : am_K (d + 2) false nm_X12_blochCell P X) (hr : r < 2) (hc : c < 2) (hK : K < 2 ^ 27) (h : mxE (M.2 187) 0 K x y) (hn : smN (2 ^ 40) x y) (hS : a5 (M.2 153) 0 (K + K) S) (bS : bq (2 ^ 41) S) (hE : ∀ N v7', slF M N → a5 (N.2 153) 0 (K + K) (ra (pP 1 0 (rwS x y r) (rwS x y c)) S) → X 7 [some (aR 108), some (aR 187), some (aI 0), some (aI (nI 1)), some (aI (nI r)), some (aI (nI c)), some (aI (nI 1)), v7'] [] N) : X 7 [some (aR 108), some (aR 187), some (aI 0), some (aI (nI 1)), some (aI (nI r)), some (aI (nI c)), some (aI (nI 0)), v7] [] M := by
  obtain ⟨q1, q2⟩ := mx_at h hc
  obtain ⟨s1, s2⟩ := mx_at h hr
  obtain ⟨m1, m2⟩ := sm_S hn c
  obtain ⟨m3, m4⟩ := sm_S hn r
  have e1 : (0 : Int32) + 10 * nI c + 5 * (1 - nI 0) = nI (10 * c + 5) := by
    have : c = 0 ∨ c = 1 := by omega
    rcases this with rfl | rfl <;> decide
  have e2 : (0 : Int32) + 10 * nI r + 5 * nI 0 = nI (10 * r) := by
    have : r = 0 ∨ r = 1 := by omega
    rcases this with rfl | rfl <;> decide
  have bP : bq (2 ^ 40) (mu (t8n 0 (cj (rwS x y c).2)) (rwS x y r).1) := mu_bq (nm_c m2) m3
  refine am_run hX 3 _ _ _ _ ?_
  conv => whnf
  refine ⟨fun z => absurd z (by decide), fun _ => ?_⟩
  refine am_run hX 3 _ _ _ _ ?_
  conv => whnf
  refine ⟨fun _ => ?_, fun z => absurd (by decide) z⟩
  refine am_run hX 3 _ _ _ _ ?_
  conv => whnf
  refine am_run hX 13 _ _ _ _ ?_
  conv => whnf
  rw [e1]
  refine am_cq (f_ld187 (d := d + 1) (by omega) q2) ?_
  rintro r1 N1 ⟨rfl, f1, o1⟩
  refine ⟨none, rfl, ?_⟩
  refine am_run hX 2 _ _ _ _ ?_
  conv => whnf
  refine am_cq (f_conj (d := d + 1) o1) ?_
  rintro r2 N2 ⟨rfl, f2, o2⟩
  refine ⟨none, rfl, ?_⟩
  refine am_run hX 4 _ _ _ _ ?_
  conv => whnf
  refine ⟨fun _ => ?_, fun z => absurd (by decide) z⟩
  refine am_run hX 3 _ _ _ _ ?_
  conv => whnf
  refine ⟨fun _ => ?_, fun z => absurd (by decide) z⟩
  refine am_run hX 1 _ _ _ _ ?_
  conv => whnf
  refine am_run hX 1 _ _ _ _ ?_
  conv => whnf
  refine am_cq (f_turn (d := d + 1) (n := 0) (by decide) (by decide) o2) ?_
  rintro r3 N3 ⟨rfl, f3, o3⟩
  refine ⟨none, rfl, ?_⟩
  have F3 : N3.2 187 = M.2 187 := by rw [f3.2 187 (by decide) (by decide) (by decide), f2.2 187 (by decide) (by decide) (by decide), f1.2 187 (by decide) (by decide) (by decide)]
  refine am_run hX 12 _ _ _ _ ?_
  conv => whnf
  rw [e2]
  refine am_cq (f_mul187 (d := d) (K := K) (L := K) (by omega) (by omega) (by omega) (bq_bd bP (by decide)) o3 (by rw [F3]; exact s1)) ?_
  rintro r4 N4 ⟨rfl, f4, o4⟩
  refine ⟨none, rfl, ?_⟩
  have F4 : N4.2 153 = M.2 153 := by rw [f4.2 153 (by decide) (by decide) (by decide), f3.2 153 (by decide) (by decide) (by decide), f2.2 153 (by decide) (by decide) (by decide), f1.2 153 (by decide) (by decide) (by decide)]
  refine am_run hX 6 _ _ _ _ ?_
  conv => whnf
  refine am_cq (f_add153p (d := d) (a := 0) (K := K + K) (by decide) (by omega) (bq_bd (bq_ra bP bS) (by decide)) o4 (by rw [F4]; exact hS)) ?_
  rintro r5 N5 ⟨rfl, f5, o5⟩
  refine ⟨none, rfl, ?_⟩
  refine am_run hX 2 _ _ _ _ ?_
  conv => whnf
  refine am_cq (f_keepS (d := d) o5) ?_
  rintro r6 N6 ⟨rfl, f6, o6⟩
  refine ⟨none, rfl, ?_⟩
  refine am_run hX 2 _ _ _ _ ?_
  conv => whnf
  exact hE N6 _ (slF_t (slF_t (slF_8 f1) (slF_t (slF_8 f2) (slF_8 f3))) (slF_t (slF_8 f4) (slF_t (slF_8 f5) (slF_s f6)))) o6
set_option maxRecDepth 100000 in
theorem bl_11_187 {P : am_Q} {X : am_X} {r c K : Nat} {x y : R2} {S : R4} {v7 : Option am_V} (hX : am_K (d + 2) false nm_X12_blochCell P X) (hr : r < 2) (hc : c < 2) (hK : K < 2 ^ 27) (h : mxE (M.2 187) 0 K x y) (hn : smN (2 ^ 40) x y) (hS : a5 (M.2 153) 0 (K + K) S) (bS : bq (2 ^ 41) S) (hE : ∀ N v7', slF M N → a5 (N.2 153) 0 (K + K) (ra (pP 1 1 (rwS x y r) (rwS x y c)) S) → X 7 [some (aR 108), some (aR 187), some (aI 0), some (aI (nI 1)), some (aI (nI r)), some (aI (nI c)), some (aI (nI 2)), v7'] [] N) : X 7 [some (aR 108), some (aR 187), some (aI 0), some (aI (nI 1)), some (aI (nI r)), some (aI (nI c)), some (aI (nI 1)), v7] [] M := by
  obtain ⟨q1, q2⟩ := mx_at h hc
  obtain ⟨s1, s2⟩ := mx_at h hr
  obtain ⟨m1, m2⟩ := sm_S hn c
  obtain ⟨m3, m4⟩ := sm_S hn r
  have e1 : (0 : Int32) + 10 * nI c + 5 * (1 - nI 1) = nI (10 * c) := by
    have : c = 0 ∨ c = 1 := by omega
    rcases this with rfl | rfl <;> decide
  have e2 : (0 : Int32) + 10 * nI r + 5 * nI 1 = nI (10 * r + 5) := by
    have : r = 0 ∨ r = 1 := by omega
    rcases this with rfl | rfl <;> decide
  have bP : bq (2 ^ 40) (mu (t8n 0 (cj (rwS x y c).1)) (rwS x y r).2) := mu_bq (nm_c m1) m4
  refine am_run hX 3 _ _ _ _ ?_
  conv => whnf
  refine ⟨fun z => absurd z (by decide), fun _ => ?_⟩
  refine am_run hX 3 _ _ _ _ ?_
  conv => whnf
  refine ⟨fun _ => ?_, fun z => absurd (by decide) z⟩
  refine am_run hX 3 _ _ _ _ ?_
  conv => whnf
  refine am_run hX 13 _ _ _ _ ?_
  conv => whnf
  rw [e1]
  refine am_cq (f_ld187 (d := d + 1) (by omega) q1) ?_
  rintro r1 N1 ⟨rfl, f1, o1⟩
  refine ⟨none, rfl, ?_⟩
  refine am_run hX 2 _ _ _ _ ?_
  conv => whnf
  refine am_cq (f_conj (d := d + 1) o1) ?_
  rintro r2 N2 ⟨rfl, f2, o2⟩
  refine ⟨none, rfl, ?_⟩
  refine am_run hX 4 _ _ _ _ ?_
  conv => whnf
  refine ⟨fun _ => ?_, fun z => absurd (by decide) z⟩
  refine am_run hX 3 _ _ _ _ ?_
  conv => whnf
  refine ⟨fun _ => ?_, fun z => absurd (by decide) z⟩
  refine am_run hX 1 _ _ _ _ ?_
  conv => whnf
  refine am_run hX 1 _ _ _ _ ?_
  conv => whnf
  refine am_cq (f_turn (d := d + 1) (n := 0) (by decide) (by decide) o2) ?_
  rintro r3 N3 ⟨rfl, f3, o3⟩
  refine ⟨none, rfl, ?_⟩
  have F3 : N3.2 187 = M.2 187 := by rw [f3.2 187 (by decide) (by decide) (by decide), f2.2 187 (by decide) (by decide) (by decide), f1.2 187 (by decide) (by decide) (by decide)]
  refine am_run hX 12 _ _ _ _ ?_
  conv => whnf
  rw [e2]
  refine am_cq (f_mul187 (d := d) (K := K) (L := K) (by omega) (by omega) (by omega) (bq_bd bP (by decide)) o3 (by rw [F3]; exact s2)) ?_
  rintro r4 N4 ⟨rfl, f4, o4⟩
  refine ⟨none, rfl, ?_⟩
  have F4 : N4.2 153 = M.2 153 := by rw [f4.2 153 (by decide) (by decide) (by decide), f3.2 153 (by decide) (by decide) (by decide), f2.2 153 (by decide) (by decide) (by decide), f1.2 153 (by decide) (by decide) (by decide)]
  refine am_run hX 6 _ _ _ _ ?_
  conv => whnf
  refine am_cq (f_add153p (d := d) (a := 0) (K := K + K) (by decide) (by omega) (bq_bd (bq_ra bP bS) (by decide)) o4 (by rw [F4]; exact hS)) ?_
  rintro r5 N5 ⟨rfl, f5, o5⟩
  refine ⟨none, rfl, ?_⟩
  refine am_run hX 2 _ _ _ _ ?_
  conv => whnf
  refine am_cq (f_keepS (d := d) o5) ?_
  rintro r6 N6 ⟨rfl, f6, o6⟩
  refine ⟨none, rfl, ?_⟩
  refine am_run hX 2 _ _ _ _ ?_
  conv => whnf
  exact hE N6 _ (slF_t (slF_t (slF_8 f1) (slF_t (slF_8 f2) (slF_8 f3))) (slF_t (slF_8 f4) (slF_t (slF_8 f5) (slF_s f6)))) o6
set_option maxRecDepth 100000 in
theorem bl_20_187 {P : am_Q} {X : am_X} {r c K : Nat} {x y : R2} {S : R4} {v7 : Option am_V} (hX : am_K (d + 2) false nm_X12_blochCell P X) (hr : r < 2) (hc : c < 2) (hK : K < 2 ^ 27) (h : mxE (M.2 187) 0 K x y) (hn : smN (2 ^ 40) x y) (hS : a5 (M.2 153) 0 (K + K) S) (bS : bq (2 ^ 41) S) (hE : ∀ N v7', slF M N → a5 (N.2 153) 0 (K + K) (ra (pP 2 0 (rwS x y r) (rwS x y c)) S) → X 7 [some (aR 108), some (aR 187), some (aI 0), some (aI (nI 2)), some (aI (nI r)), some (aI (nI c)), some (aI (nI 1)), v7'] [] N) : X 7 [some (aR 108), some (aR 187), some (aI 0), some (aI (nI 2)), some (aI (nI r)), some (aI (nI c)), some (aI (nI 0)), v7] [] M := by
  obtain ⟨q1, q2⟩ := mx_at h hc
  obtain ⟨s1, s2⟩ := mx_at h hr
  obtain ⟨m1, m2⟩ := sm_S hn c
  obtain ⟨m3, m4⟩ := sm_S hn r
  have e1 : (0 : Int32) + 10 * nI c + 5 * (1 - nI 0) = nI (10 * c + 5) := by
    have : c = 0 ∨ c = 1 := by omega
    rcases this with rfl | rfl <;> decide
  have e2 : (0 : Int32) + 10 * nI r + 5 * nI 0 = nI (10 * r) := by
    have : r = 0 ∨ r = 1 := by omega
    rcases this with rfl | rfl <;> decide
  have bP : bq (2 ^ 40) (mu (t8n 6 (cj (rwS x y c).2)) (rwS x y r).1) := mu_bq (nm_c m2) m3
  refine am_run hX 3 _ _ _ _ ?_
  conv => whnf
  refine ⟨fun z => absurd z (by decide), fun _ => ?_⟩
  refine am_run hX 3 _ _ _ _ ?_
  conv => whnf
  refine ⟨fun _ => ?_, fun z => absurd (by decide) z⟩
  refine am_run hX 3 _ _ _ _ ?_
  conv => whnf
  refine am_run hX 13 _ _ _ _ ?_
  conv => whnf
  rw [e1]
  refine am_cq (f_ld187 (d := d + 1) (by omega) q2) ?_
  rintro r1 N1 ⟨rfl, f1, o1⟩
  refine ⟨none, rfl, ?_⟩
  refine am_run hX 2 _ _ _ _ ?_
  conv => whnf
  refine am_cq (f_conj (d := d + 1) o1) ?_
  rintro r2 N2 ⟨rfl, f2, o2⟩
  refine ⟨none, rfl, ?_⟩
  refine am_run hX 4 _ _ _ _ ?_
  conv => whnf
  refine ⟨fun z => absurd rfl z, fun _ => ?_⟩
  refine am_run hX 2 _ _ _ _ ?_
  conv => whnf
  refine ⟨fun z => absurd rfl z, fun _ => ?_⟩
  refine am_run hX 2 _ _ _ _ ?_
  conv => whnf
  refine am_run hX 1 _ _ _ _ ?_
  conv => whnf
  refine am_cq (f_turn (d := d + 1) (n := 6) (by decide) (by decide) o2) ?_
  rintro r3 N3 ⟨rfl, f3, o3⟩
  refine ⟨none, rfl, ?_⟩
  have F3 : N3.2 187 = M.2 187 := by rw [f3.2 187 (by decide) (by decide) (by decide), f2.2 187 (by decide) (by decide) (by decide), f1.2 187 (by decide) (by decide) (by decide)]
  refine am_run hX 12 _ _ _ _ ?_
  conv => whnf
  rw [e2]
  refine am_cq (f_mul187 (d := d) (K := K) (L := K) (by omega) (by omega) (by omega) (bq_bd bP (by decide)) o3 (by rw [F3]; exact s1)) ?_
  rintro r4 N4 ⟨rfl, f4, o4⟩
  refine ⟨none, rfl, ?_⟩
  have F4 : N4.2 153 = M.2 153 := by rw [f4.2 153 (by decide) (by decide) (by decide), f3.2 153 (by decide) (by decide) (by decide), f2.2 153 (by decide) (by decide) (by decide), f1.2 153 (by decide) (by decide) (by decide)]
  refine am_run hX 6 _ _ _ _ ?_
  conv => whnf
  refine am_cq (f_add153p (d := d) (a := 0) (K := K + K) (by decide) (by omega) (bq_bd (bq_ra bP bS) (by decide)) o4 (by rw [F4]; exact hS)) ?_
  rintro r5 N5 ⟨rfl, f5, o5⟩
  refine ⟨none, rfl, ?_⟩
  refine am_run hX 2 _ _ _ _ ?_
  conv => whnf
  refine am_cq (f_keepS (d := d) o5) ?_
  rintro r6 N6 ⟨rfl, f6, o6⟩
  refine ⟨none, rfl, ?_⟩
  refine am_run hX 2 _ _ _ _ ?_
  conv => whnf
  exact hE N6 _ (slF_t (slF_t (slF_8 f1) (slF_t (slF_8 f2) (slF_8 f3))) (slF_t (slF_8 f4) (slF_t (slF_8 f5) (slF_s f6)))) o6
set_option maxRecDepth 100000 in
theorem bl_21_187 {P : am_Q} {X : am_X} {r c K : Nat} {x y : R2} {S : R4} {v7 : Option am_V} (hX : am_K (d + 2) false nm_X12_blochCell P X) (hr : r < 2) (hc : c < 2) (hK : K < 2 ^ 27) (h : mxE (M.2 187) 0 K x y) (hn : smN (2 ^ 40) x y) (hS : a5 (M.2 153) 0 (K + K) S) (bS : bq (2 ^ 41) S) (hE : ∀ N v7', slF M N → a5 (N.2 153) 0 (K + K) (ra (pP 2 1 (rwS x y r) (rwS x y c)) S) → X 7 [some (aR 108), some (aR 187), some (aI 0), some (aI (nI 2)), some (aI (nI r)), some (aI (nI c)), some (aI (nI 2)), v7'] [] N) : X 7 [some (aR 108), some (aR 187), some (aI 0), some (aI (nI 2)), some (aI (nI r)), some (aI (nI c)), some (aI (nI 1)), v7] [] M := by
  obtain ⟨q1, q2⟩ := mx_at h hc
  obtain ⟨s1, s2⟩ := mx_at h hr
  obtain ⟨m1, m2⟩ := sm_S hn c
  obtain ⟨m3, m4⟩ := sm_S hn r
  have e1 : (0 : Int32) + 10 * nI c + 5 * (1 - nI 1) = nI (10 * c) := by
    have : c = 0 ∨ c = 1 := by omega
    rcases this with rfl | rfl <;> decide
  have e2 : (0 : Int32) + 10 * nI r + 5 * nI 1 = nI (10 * r + 5) := by
    have : r = 0 ∨ r = 1 := by omega
    rcases this with rfl | rfl <;> decide
  have bP : bq (2 ^ 40) (mu (t8n 2 (cj (rwS x y c).1)) (rwS x y r).2) := mu_bq (nm_c m1) m4
  refine am_run hX 3 _ _ _ _ ?_
  conv => whnf
  refine ⟨fun z => absurd z (by decide), fun _ => ?_⟩
  refine am_run hX 3 _ _ _ _ ?_
  conv => whnf
  refine ⟨fun _ => ?_, fun z => absurd (by decide) z⟩
  refine am_run hX 3 _ _ _ _ ?_
  conv => whnf
  refine am_run hX 13 _ _ _ _ ?_
  conv => whnf
  rw [e1]
  refine am_cq (f_ld187 (d := d + 1) (by omega) q1) ?_
  rintro r1 N1 ⟨rfl, f1, o1⟩
  refine ⟨none, rfl, ?_⟩
  refine am_run hX 2 _ _ _ _ ?_
  conv => whnf
  refine am_cq (f_conj (d := d + 1) o1) ?_
  rintro r2 N2 ⟨rfl, f2, o2⟩
  refine ⟨none, rfl, ?_⟩
  refine am_run hX 4 _ _ _ _ ?_
  conv => whnf
  refine ⟨fun z => absurd rfl z, fun _ => ?_⟩
  refine am_run hX 2 _ _ _ _ ?_
  conv => whnf
  refine ⟨fun _ => ?_, fun z => absurd (by decide) z⟩
  refine am_run hX 2 _ _ _ _ ?_
  conv => whnf
  refine am_run hX 1 _ _ _ _ ?_
  conv => whnf
  refine am_cq (f_turn (d := d + 1) (n := 2) (by decide) (by decide) o2) ?_
  rintro r3 N3 ⟨rfl, f3, o3⟩
  refine ⟨none, rfl, ?_⟩
  have F3 : N3.2 187 = M.2 187 := by rw [f3.2 187 (by decide) (by decide) (by decide), f2.2 187 (by decide) (by decide) (by decide), f1.2 187 (by decide) (by decide) (by decide)]
  refine am_run hX 12 _ _ _ _ ?_
  conv => whnf
  rw [e2]
  refine am_cq (f_mul187 (d := d) (K := K) (L := K) (by omega) (by omega) (by omega) (bq_bd bP (by decide)) o3 (by rw [F3]; exact s2)) ?_
  rintro r4 N4 ⟨rfl, f4, o4⟩
  refine ⟨none, rfl, ?_⟩
  have F4 : N4.2 153 = M.2 153 := by rw [f4.2 153 (by decide) (by decide) (by decide), f3.2 153 (by decide) (by decide) (by decide), f2.2 153 (by decide) (by decide) (by decide), f1.2 153 (by decide) (by decide) (by decide)]
  refine am_run hX 6 _ _ _ _ ?_
  conv => whnf
  refine am_cq (f_add153p (d := d) (a := 0) (K := K + K) (by decide) (by omega) (bq_bd (bq_ra bP bS) (by decide)) o4 (by rw [F4]; exact hS)) ?_
  rintro r5 N5 ⟨rfl, f5, o5⟩
  refine ⟨none, rfl, ?_⟩
  refine am_run hX 2 _ _ _ _ ?_
  conv => whnf
  refine am_cq (f_keepS (d := d) o5) ?_
  rintro r6 N6 ⟨rfl, f6, o6⟩
  refine ⟨none, rfl, ?_⟩
  refine am_run hX 2 _ _ _ _ ?_
  conv => whnf
  exact hE N6 _ (slF_t (slF_t (slF_8 f1) (slF_t (slF_8 f2) (slF_8 f3))) (slF_t (slF_8 f4) (slF_t (slF_8 f5) (slF_s f6)))) o6
set_option maxRecDepth 100000 in
theorem bl_30_187 {P : am_Q} {X : am_X} {r c K : Nat} {x y : R2} {S : R4} {v7 : Option am_V} (hX : am_K (d + 2) false nm_X12_blochCell P X) (hr : r < 2) (hc : c < 2) (hK : K < 2 ^ 27) (h : mxE (M.2 187) 0 K x y) (hn : smN (2 ^ 40) x y) (hS : a5 (M.2 153) 0 (K + K) S) (bS : bq (2 ^ 41) S) (hE : ∀ N v7', slF M N → a5 (N.2 153) 0 (K + K) (ra (pP 3 0 (rwS x y r) (rwS x y c)) S) → X 7 [some (aR 108), some (aR 187), some (aI 0), some (aI (nI 3)), some (aI (nI r)), some (aI (nI c)), some (aI (nI 1)), v7'] [] N) : X 7 [some (aR 108), some (aR 187), some (aI 0), some (aI (nI 3)), some (aI (nI r)), some (aI (nI c)), some (aI (nI 0)), v7] [] M := by
  obtain ⟨q1, q2⟩ := mx_at h hc
  obtain ⟨s1, s2⟩ := mx_at h hr
  obtain ⟨m1, m2⟩ := sm_S hn c
  obtain ⟨m3, m4⟩ := sm_S hn r
  have e1 : (0 : Int32) + 10 * nI c + 5 * nI 0 = nI (10 * c) := by
    have : c = 0 ∨ c = 1 := by omega
    rcases this with rfl | rfl <;> decide
  have e2 : (0 : Int32) + 10 * nI r + 5 * nI 0 = nI (10 * r) := by
    have : r = 0 ∨ r = 1 := by omega
    rcases this with rfl | rfl <;> decide
  have bP : bq (2 ^ 40) (mu (t8n 0 (cj (rwS x y c).1)) (rwS x y r).1) := mu_bq (nm_c m1) m3
  refine am_run hX 3 _ _ _ _ ?_
  conv => whnf
  refine ⟨fun z => absurd z (by decide), fun _ => ?_⟩
  refine am_run hX 3 _ _ _ _ ?_
  conv => whnf
  refine ⟨fun z => absurd rfl z, fun _ => ?_⟩
  refine am_run hX 2 _ _ _ _ ?_
  conv => whnf
  refine am_run hX 13 _ _ _ _ ?_
  conv => whnf
  rw [e1]
  refine am_cq (f_ld187 (d := d + 1) (by omega) q1) ?_
  rintro r1 N1 ⟨rfl, f1, o1⟩
  refine ⟨none, rfl, ?_⟩
  refine am_run hX 2 _ _ _ _ ?_
  conv => whnf
  refine am_cq (f_conj (d := d + 1) o1) ?_
  rintro r2 N2 ⟨rfl, f2, o2⟩
  refine ⟨none, rfl, ?_⟩
  refine am_run hX 4 _ _ _ _ ?_
  conv => whnf
  refine ⟨fun _ => ?_, fun z => absurd (by decide) z⟩
  refine am_run hX 3 _ _ _ _ ?_
  conv => whnf
  refine ⟨fun z => absurd rfl z, fun _ => ?_⟩
  refine am_run hX 3 _ _ _ _ ?_
  conv => whnf
  refine ⟨fun _ => ?_, fun z => absurd (by decide) z⟩
  refine am_run hX 1 _ _ _ _ ?_
  conv => whnf
  refine am_run hX 1 _ _ _ _ ?_
  conv => whnf
  refine am_cq (f_turn (d := d + 1) (n := 0) (by decide) (by decide) o2) ?_
  rintro r3 N3 ⟨rfl, f3, o3⟩
  refine ⟨none, rfl, ?_⟩
  have F3 : N3.2 187 = M.2 187 := by rw [f3.2 187 (by decide) (by decide) (by decide), f2.2 187 (by decide) (by decide) (by decide), f1.2 187 (by decide) (by decide) (by decide)]
  refine am_run hX 12 _ _ _ _ ?_
  conv => whnf
  rw [e2]
  refine am_cq (f_mul187 (d := d) (K := K) (L := K) (by omega) (by omega) (by omega) (bq_bd bP (by decide)) o3 (by rw [F3]; exact s1)) ?_
  rintro r4 N4 ⟨rfl, f4, o4⟩
  refine ⟨none, rfl, ?_⟩
  have F4 : N4.2 153 = M.2 153 := by rw [f4.2 153 (by decide) (by decide) (by decide), f3.2 153 (by decide) (by decide) (by decide), f2.2 153 (by decide) (by decide) (by decide), f1.2 153 (by decide) (by decide) (by decide)]
  refine am_run hX 6 _ _ _ _ ?_
  conv => whnf
  refine am_cq (f_add153p (d := d) (a := 0) (K := K + K) (by decide) (by omega) (bq_bd (bq_ra bP bS) (by decide)) o4 (by rw [F4]; exact hS)) ?_
  rintro r5 N5 ⟨rfl, f5, o5⟩
  refine ⟨none, rfl, ?_⟩
  refine am_run hX 2 _ _ _ _ ?_
  conv => whnf
  refine am_cq (f_keepS (d := d) o5) ?_
  rintro r6 N6 ⟨rfl, f6, o6⟩
  refine ⟨none, rfl, ?_⟩
  refine am_run hX 2 _ _ _ _ ?_
  conv => whnf
  exact hE N6 _ (slF_t (slF_t (slF_8 f1) (slF_t (slF_8 f2) (slF_8 f3))) (slF_t (slF_8 f4) (slF_t (slF_8 f5) (slF_s f6)))) o6
set_option maxRecDepth 100000 in
theorem bl_31_187 {P : am_Q} {X : am_X} {r c K : Nat} {x y : R2} {S : R4} {v7 : Option am_V} (hX : am_K (d + 2) false nm_X12_blochCell P X) (hr : r < 2) (hc : c < 2) (hK : K < 2 ^ 27) (h : mxE (M.2 187) 0 K x y) (hn : smN (2 ^ 40) x y) (hS : a5 (M.2 153) 0 (K + K) S) (bS : bq (2 ^ 41) S) (hE : ∀ N v7', slF M N → a5 (N.2 153) 0 (K + K) (ra (pP 3 1 (rwS x y r) (rwS x y c)) S) → X 7 [some (aR 108), some (aR 187), some (aI 0), some (aI (nI 3)), some (aI (nI r)), some (aI (nI c)), some (aI (nI 2)), v7'] [] N) : X 7 [some (aR 108), some (aR 187), some (aI 0), some (aI (nI 3)), some (aI (nI r)), some (aI (nI c)), some (aI (nI 1)), v7] [] M := by
  obtain ⟨q1, q2⟩ := mx_at h hc
  obtain ⟨s1, s2⟩ := mx_at h hr
  obtain ⟨m1, m2⟩ := sm_S hn c
  obtain ⟨m3, m4⟩ := sm_S hn r
  have e1 : (0 : Int32) + 10 * nI c + 5 * nI 1 = nI (10 * c + 5) := by
    have : c = 0 ∨ c = 1 := by omega
    rcases this with rfl | rfl <;> decide
  have e2 : (0 : Int32) + 10 * nI r + 5 * nI 1 = nI (10 * r + 5) := by
    have : r = 0 ∨ r = 1 := by omega
    rcases this with rfl | rfl <;> decide
  have bP : bq (2 ^ 40) (mu (t8n 4 (cj (rwS x y c).2)) (rwS x y r).2) := mu_bq (nm_c m2) m4
  refine am_run hX 3 _ _ _ _ ?_
  conv => whnf
  refine ⟨fun z => absurd z (by decide), fun _ => ?_⟩
  refine am_run hX 3 _ _ _ _ ?_
  conv => whnf
  refine ⟨fun z => absurd rfl z, fun _ => ?_⟩
  refine am_run hX 2 _ _ _ _ ?_
  conv => whnf
  refine am_run hX 13 _ _ _ _ ?_
  conv => whnf
  rw [e1]
  refine am_cq (f_ld187 (d := d + 1) (by omega) q2) ?_
  rintro r1 N1 ⟨rfl, f1, o1⟩
  refine ⟨none, rfl, ?_⟩
  refine am_run hX 2 _ _ _ _ ?_
  conv => whnf
  refine am_cq (f_conj (d := d + 1) o1) ?_
  rintro r2 N2 ⟨rfl, f2, o2⟩
  refine ⟨none, rfl, ?_⟩
  refine am_run hX 4 _ _ _ _ ?_
  conv => whnf
  refine ⟨fun _ => ?_, fun z => absurd (by decide) z⟩
  refine am_run hX 3 _ _ _ _ ?_
  conv => whnf
  refine ⟨fun z => absurd rfl z, fun _ => ?_⟩
  refine am_run hX 3 _ _ _ _ ?_
  conv => whnf
  refine ⟨fun z => absurd rfl z, fun _ => ?_⟩
  refine am_run hX 2 _ _ _ _ ?_
  conv => whnf
  refine am_run hX 1 _ _ _ _ ?_
  conv => whnf
  refine am_cq (f_turn (d := d + 1) (n := 4) (by decide) (by decide) o2) ?_
  rintro r3 N3 ⟨rfl, f3, o3⟩
  refine ⟨none, rfl, ?_⟩
  have F3 : N3.2 187 = M.2 187 := by rw [f3.2 187 (by decide) (by decide) (by decide), f2.2 187 (by decide) (by decide) (by decide), f1.2 187 (by decide) (by decide) (by decide)]
  refine am_run hX 12 _ _ _ _ ?_
  conv => whnf
  rw [e2]
  refine am_cq (f_mul187 (d := d) (K := K) (L := K) (by omega) (by omega) (by omega) (bq_bd bP (by decide)) o3 (by rw [F3]; exact s2)) ?_
  rintro r4 N4 ⟨rfl, f4, o4⟩
  refine ⟨none, rfl, ?_⟩
  have F4 : N4.2 153 = M.2 153 := by rw [f4.2 153 (by decide) (by decide) (by decide), f3.2 153 (by decide) (by decide) (by decide), f2.2 153 (by decide) (by decide) (by decide), f1.2 153 (by decide) (by decide) (by decide)]
  refine am_run hX 6 _ _ _ _ ?_
  conv => whnf
  refine am_cq (f_add153p (d := d) (a := 0) (K := K + K) (by decide) (by omega) (bq_bd (bq_ra bP bS) (by decide)) o4 (by rw [F4]; exact hS)) ?_
  rintro r5 N5 ⟨rfl, f5, o5⟩
  refine ⟨none, rfl, ?_⟩
  refine am_run hX 2 _ _ _ _ ?_
  conv => whnf
  refine am_cq (f_keepS (d := d) o5) ?_
  rintro r6 N6 ⟨rfl, f6, o6⟩
  refine ⟨none, rfl, ?_⟩
  refine am_run hX 2 _ _ _ _ ?_
  conv => whnf
  exact hE N6 _ (slF_t (slF_t (slF_8 f1) (slF_t (slF_8 f2) (slF_8 f3))) (slF_t (slF_8 f4) (slF_t (slF_8 f5) (slF_s f6)))) o6
def blK (M : mm_M) (a i : Nat) : mm_M := mm_l M 188 (fun j => if a ≤ j ∧ j < a + i then M.2 153 (j - a) else M.2 188 j)
set_option maxRecDepth 100000 in
theorem bl_k186 {P : am_Q} {X : am_X} {p r c : Nat} {v7 : Option am_V} (hX : am_K d false nm_X12_blochCell P X) (hr : r < 2) (hc : c < 2) (hP : P (.inl none) (blK M (10 * r + 5 * c) 5)) : ∀ (m i : Nat), i + m = 5 → X 129 [some (aR 108), some (aR 186), some (aI 0), some (aI (nI p)), some (aI (nI r)), some (aI (nI c)), some (aI (nI i)), v7] [] (blK M (10 * r + 5 * c) i) := by
  intro m
  induction m with
  | zero =>
    intro i hi
    obtain rfl : i = 5 := by omega
    refine am_run hX 3 _ _ _ _ ?_
    conv => whnf
    refine ⟨fun _ => ?_, fun z => absurd (by decide) z⟩
    refine am_run hX 1 _ _ _ _ ?_
    conv => whnf
    exact ⟨trivial, hP⟩
  | succ m ih =>
    intro i hi
    have ei : 10 * nI r + 5 * nI c + nI i = nI (10 * r + 5 * c + i) := by rw [show (10 : Int32) = nI 10 from rfl, show (5 : Int32) = nI 5 from rfl, nI_mul, nI_mul, nI_add, nI_add]
    refine am_run hX 3 _ _ _ _ ?_
    conv => whnf
    refine ⟨fun z => absurd z (nI_ge (a := i) (b := 5) (by omega) (by decide)), fun _ => ?_⟩
    refine am_run hX 16 _ _ _ _ ?_
    conv => whnf
    refine ⟨vp_in_nI (by show i < 5; omega) (by decide), ?_⟩
    conv => whnf
    rw [ei]
    refine ⟨vp_in_nI (by show _ < 20; omega) (by decide), ?_⟩
    unfold blK
    rw [nI_clamp (n := i) (by omega), nI_clamp (n := 10 * r + 5 * c + i) (by omega), mm_l2, mm_ll, mm_lne _ 188 153 _ (by decide)]
    have e : vp_updL (fun j => if 10 * r + 5 * c ≤ j ∧ j < 10 * r + 5 * c + i then M.2 153 (j - (10 * r + 5 * c)) else M.2 188 j) (10 * r + 5 * c + i) (M.2 153 i) = fun j => if 10 * r + 5 * c ≤ j ∧ j < 10 * r + 5 * c + (i + 1) then M.2 153 (j - (10 * r + 5 * c)) else M.2 188 j := by
      funext j
      unfold vp_updL
      by_cases h : j = 10 * r + 5 * c + i
      · rw [if_pos h, if_pos (by omega), h, Nat.add_sub_cancel_left]
      · rw [if_neg h]
        dsimp only
        by_cases h2 : 10 * r + 5 * c ≤ j ∧ j < 10 * r + 5 * c + i
        · rw [if_pos h2, if_pos (by omega)]
        · rw [if_neg h2, if_neg (by omega)]
    rw [e]
    refine am_run hX 2 _ _ _ _ ?_
    conv => whnf
    rw [nI_1]
    exact ih (i + 1) (by omega)
def blF (M N : mm_M) : Prop := N.1 = M.1 ∧ ∀ k, k ≠ 118 → k ≠ 119 → k ≠ 153 → k ≠ 188 → N.2 k = M.2 k
set_option maxRecDepth 100000 in
theorem ct_bl186 {p r c K : Nat} {x y : R2} (p1 : 1 ≤ p) (p3 : p ≤ 3) (hr : r < 2) (hc : c < 2) (hK : K < 2 ^ 27) (h : mxE (M.2 186) 0 K x y) (hn : smN (2 ^ 40) x y) : am_M (d + 3) false nm_X12_blochCell [aR 108, aR 186, aI 0, aI (nI p), aI (nI r), aI (nI c)] M (fun R N => R = .inl none ∧ blF M N ∧ a5 (N.2 188) (10 * r + 5 * c) (K + K) (ce p (rwS x y r) (rwS x y c)) ∧ ∀ b L z, b + 5 ≤ 10 * r + 5 * c ∨ 10 * r + 5 * c + 5 ≤ b → a5 (M.2 188) b L z → a5 (N.2 188) b L z) := by
  have ec : ra (pP p 1 (rwS x y r) (rwS x y c)) (ra (pP p 0 (rwS x y r) (rwS x y c)) (0, 0, 0, 0)) = ce p (rwS x y r) (rwS x y c) := by
    rw [ra_0, ra_c]
    rfl
  have b0 : bq (2 ^ 41) (ra (pP p 0 (rwS x y r) (rwS x y c)) (0, 0, 0, 0)) := by
    rw [ra_0]
    have a : bq (2 ^ 40) (pP p 0 (rwS x y r) (rwS x y c)) := mu_bq (nm_c (by
      unfold pk0
      split
      · exact (sm_S hn c).2
      · exact (sm_S hn c).1)) (sm_S hn r).1
    have z := bq_ra a (bq_0 (B := 2 ^ 40) (by decide))
    rw [ra_0] at z
    exact z
  refine ⟨rfl, rfl, rfl, fun X hX => am_run hX 2 _ _ _ _ ?_⟩
  conv => whnf
  refine am_cq (f_clr (d := d + 1)) ?_
  rintro r1 N1 ⟨rfl, f1, z1⟩
  refine ⟨none, rfl, ?_⟩
  have h1 : mxE (N1.2 186) 0 K x y := by rw [f1.2 186 (by decide) (by decide) (by decide)]; exact h
  have fin : ∀ (N3 : mm_M) (v7 : Option am_V), slF N1 N3 → a5 (N3.2 153) 0 (K + K) (ra (pP p 1 (rwS x y r) (rwS x y c)) (ra (pP p 0 (rwS x y r) (rwS x y c)) (0, 0, 0, 0))) → X 7 [some (aR 108), some (aR 186), some (aI 0), some (aI (nI p)), some (aI (nI r)), some (aI (nI c)), some (aI (nI 2)), v7] [] N3 := by
    intro N3 v7 f3 o3
    rw [ec] at o3
    refine am_run hX 3 _ _ _ _ ?_
    conv => whnf
    refine ⟨fun _ => ?_, fun z => absurd (by decide) z⟩
    refine am_run hX 2 _ _ _ _ ?_
    conv => whnf
    have e0 : blK N3 (10 * r + 5 * c) 0 = N3 := by
      unfold blK
      have e : (fun j => if 10 * r + 5 * c ≤ j ∧ j < 10 * r + 5 * c + 0 then N3.2 153 (j - (10 * r + 5 * c)) else N3.2 188 j) = N3.2 188 := by
        funext j
        rw [if_neg (by omega)]
      rw [e, mm_lz]
    have key := bl_k186 (M := N3) (p := p) (v7 := v7) hX hr hc ?_ 5 0 (by omega)
    · rw [e0] at key
      exact key
    · refine ⟨rfl, ⟨f3.1.trans f1.1, fun k a b e f => ?_⟩, ?_, fun b L z hb hz => ?_⟩
      · unfold blK
        rw [mm_lne _ _ _ _ f, f3.2 k a b e, f1.2 k a b e]
      · unfold blK a5 at5 at *
        rw [mm_l2]
        obtain ⟨g0, g1, g2, g3, g4⟩ := o3
        refine ⟨?_, ?_, ?_, ?_, ?_⟩
        · rw [if_pos (by omega), Nat.sub_self]
          exact g0
        · rw [if_pos (by omega), show 10 * r + 5 * c + 1 - (10 * r + 5 * c) = 0 + 1 by omega]
          exact g1
        · rw [if_pos (by omega), show 10 * r + 5 * c + 2 - (10 * r + 5 * c) = 0 + 2 by omega]
          exact g2
        · rw [if_pos (by omega), show 10 * r + 5 * c + 3 - (10 * r + 5 * c) = 0 + 3 by omega]
          exact g3
        · rw [if_pos (by omega), show 10 * r + 5 * c + 4 - (10 * r + 5 * c) = 0 + 4 by omega]
          exact g4
      · have E : N3.2 188 = M.2 188 := by rw [f3.2 188 (by decide) (by decide) (by decide), f1.2 188 (by decide) (by decide) (by decide)]
        unfold blK a5 at5 at *
        rw [mm_l2, E]
        obtain ⟨g0, g1, g2, g3, g4⟩ := hz
        refine ⟨?_, ?_, ?_, ?_, ?_⟩
        · rw [if_neg (by omega)]
          exact g0
        · rw [if_neg (by omega)]
          exact g1
        · rw [if_neg (by omega)]
          exact g2
        · rw [if_neg (by omega)]
          exact g3
        · rw [if_neg (by omega)]
          exact g4
  refine am_run hX 2 _ _ _ _ ?_
  conv => whnf
  have : p = 1 ∨ p = 2 ∨ p = 3 := by omega
  rcases this with rfl | rfl | rfl
  · refine bl_10_186 (d := d) hX hr hc hK h1 hn (z1 (K + K)) (bq_0 (by decide)) (fun N2 w2 f2 o2 => ?_)
    exact bl_11_186 (d := d) hX hr hc hK (by rw [f2.2 186 (by decide) (by decide) (by decide)]; exact h1) hn o2 b0 (fun N3 w3 f3 o3 => fin N3 w3 (slF_t f2 f3) o3)
  · refine bl_20_186 (d := d) hX hr hc hK h1 hn (z1 (K + K)) (bq_0 (by decide)) (fun N2 w2 f2 o2 => ?_)
    exact bl_21_186 (d := d) hX hr hc hK (by rw [f2.2 186 (by decide) (by decide) (by decide)]; exact h1) hn o2 b0 (fun N3 w3 f3 o3 => fin N3 w3 (slF_t f2 f3) o3)
  · refine bl_30_186 (d := d) hX hr hc hK h1 hn (z1 (K + K)) (bq_0 (by decide)) (fun N2 w2 f2 o2 => ?_)
    exact bl_31_186 (d := d) hX hr hc hK (by rw [f2.2 186 (by decide) (by decide) (by decide)]; exact h1) hn o2 b0 (fun N3 w3 f3 o3 => fin N3 w3 (slF_t f2 f3) o3)
set_option maxRecDepth 100000 in
theorem bl_k187 {P : am_Q} {X : am_X} {p r c : Nat} {v7 : Option am_V} (hX : am_K d false nm_X12_blochCell P X) (hr : r < 2) (hc : c < 2) (hP : P (.inl none) (blK M (10 * r + 5 * c) 5)) : ∀ (m i : Nat), i + m = 5 → X 129 [some (aR 108), some (aR 187), some (aI 0), some (aI (nI p)), some (aI (nI r)), some (aI (nI c)), some (aI (nI i)), v7] [] (blK M (10 * r + 5 * c) i) := by
  intro m
  induction m with
  | zero =>
    intro i hi
    obtain rfl : i = 5 := by omega
    refine am_run hX 3 _ _ _ _ ?_
    conv => whnf
    refine ⟨fun _ => ?_, fun z => absurd (by decide) z⟩
    refine am_run hX 1 _ _ _ _ ?_
    conv => whnf
    exact ⟨trivial, hP⟩
  | succ m ih =>
    intro i hi
    have ei : 10 * nI r + 5 * nI c + nI i = nI (10 * r + 5 * c + i) := by rw [show (10 : Int32) = nI 10 from rfl, show (5 : Int32) = nI 5 from rfl, nI_mul, nI_mul, nI_add, nI_add]
    refine am_run hX 3 _ _ _ _ ?_
    conv => whnf
    refine ⟨fun z => absurd z (nI_ge (a := i) (b := 5) (by omega) (by decide)), fun _ => ?_⟩
    refine am_run hX 16 _ _ _ _ ?_
    conv => whnf
    refine ⟨vp_in_nI (by show i < 5; omega) (by decide), ?_⟩
    conv => whnf
    rw [ei]
    refine ⟨vp_in_nI (by show _ < 20; omega) (by decide), ?_⟩
    unfold blK
    rw [nI_clamp (n := i) (by omega), nI_clamp (n := 10 * r + 5 * c + i) (by omega), mm_l2, mm_ll, mm_lne _ 188 153 _ (by decide)]
    have e : vp_updL (fun j => if 10 * r + 5 * c ≤ j ∧ j < 10 * r + 5 * c + i then M.2 153 (j - (10 * r + 5 * c)) else M.2 188 j) (10 * r + 5 * c + i) (M.2 153 i) = fun j => if 10 * r + 5 * c ≤ j ∧ j < 10 * r + 5 * c + (i + 1) then M.2 153 (j - (10 * r + 5 * c)) else M.2 188 j := by
      funext j
      unfold vp_updL
      by_cases h : j = 10 * r + 5 * c + i
      · rw [if_pos h, if_pos (by omega), h, Nat.add_sub_cancel_left]
      · rw [if_neg h]
        dsimp only
        by_cases h2 : 10 * r + 5 * c ≤ j ∧ j < 10 * r + 5 * c + i
        · rw [if_pos h2, if_pos (by omega)]
        · rw [if_neg h2, if_neg (by omega)]
    rw [e]
    refine am_run hX 2 _ _ _ _ ?_
    conv => whnf
    rw [nI_1]
    exact ih (i + 1) (by omega)
set_option maxRecDepth 100000 in
theorem ct_bl187 {p r c K : Nat} {x y : R2} (p1 : 1 ≤ p) (p3 : p ≤ 3) (hr : r < 2) (hc : c < 2) (hK : K < 2 ^ 27) (h : mxE (M.2 187) 0 K x y) (hn : smN (2 ^ 40) x y) : am_M (d + 3) false nm_X12_blochCell [aR 108, aR 187, aI 0, aI (nI p), aI (nI r), aI (nI c)] M (fun R N => R = .inl none ∧ blF M N ∧ a5 (N.2 188) (10 * r + 5 * c) (K + K) (ce p (rwS x y r) (rwS x y c)) ∧ ∀ b L z, b + 5 ≤ 10 * r + 5 * c ∨ 10 * r + 5 * c + 5 ≤ b → a5 (M.2 188) b L z → a5 (N.2 188) b L z) := by
  have ec : ra (pP p 1 (rwS x y r) (rwS x y c)) (ra (pP p 0 (rwS x y r) (rwS x y c)) (0, 0, 0, 0)) = ce p (rwS x y r) (rwS x y c) := by
    rw [ra_0, ra_c]
    rfl
  have b0 : bq (2 ^ 41) (ra (pP p 0 (rwS x y r) (rwS x y c)) (0, 0, 0, 0)) := by
    rw [ra_0]
    have a : bq (2 ^ 40) (pP p 0 (rwS x y r) (rwS x y c)) := mu_bq (nm_c (by
      unfold pk0
      split
      · exact (sm_S hn c).2
      · exact (sm_S hn c).1)) (sm_S hn r).1
    have z := bq_ra a (bq_0 (B := 2 ^ 40) (by decide))
    rw [ra_0] at z
    exact z
  refine ⟨rfl, rfl, rfl, fun X hX => am_run hX 2 _ _ _ _ ?_⟩
  conv => whnf
  refine am_cq (f_clr (d := d + 1)) ?_
  rintro r1 N1 ⟨rfl, f1, z1⟩
  refine ⟨none, rfl, ?_⟩
  have h1 : mxE (N1.2 187) 0 K x y := by rw [f1.2 187 (by decide) (by decide) (by decide)]; exact h
  have fin : ∀ (N3 : mm_M) (v7 : Option am_V), slF N1 N3 → a5 (N3.2 153) 0 (K + K) (ra (pP p 1 (rwS x y r) (rwS x y c)) (ra (pP p 0 (rwS x y r) (rwS x y c)) (0, 0, 0, 0))) → X 7 [some (aR 108), some (aR 187), some (aI 0), some (aI (nI p)), some (aI (nI r)), some (aI (nI c)), some (aI (nI 2)), v7] [] N3 := by
    intro N3 v7 f3 o3
    rw [ec] at o3
    refine am_run hX 3 _ _ _ _ ?_
    conv => whnf
    refine ⟨fun _ => ?_, fun z => absurd (by decide) z⟩
    refine am_run hX 2 _ _ _ _ ?_
    conv => whnf
    have e0 : blK N3 (10 * r + 5 * c) 0 = N3 := by
      unfold blK
      have e : (fun j => if 10 * r + 5 * c ≤ j ∧ j < 10 * r + 5 * c + 0 then N3.2 153 (j - (10 * r + 5 * c)) else N3.2 188 j) = N3.2 188 := by
        funext j
        rw [if_neg (by omega)]
      rw [e, mm_lz]
    have key := bl_k187 (M := N3) (p := p) (v7 := v7) hX hr hc ?_ 5 0 (by omega)
    · rw [e0] at key
      exact key
    · refine ⟨rfl, ⟨f3.1.trans f1.1, fun k a b e f => ?_⟩, ?_, fun b L z hb hz => ?_⟩
      · unfold blK
        rw [mm_lne _ _ _ _ f, f3.2 k a b e, f1.2 k a b e]
      · unfold blK a5 at5 at *
        rw [mm_l2]
        obtain ⟨g0, g1, g2, g3, g4⟩ := o3
        refine ⟨?_, ?_, ?_, ?_, ?_⟩
        · rw [if_pos (by omega), Nat.sub_self]
          exact g0
        · rw [if_pos (by omega), show 10 * r + 5 * c + 1 - (10 * r + 5 * c) = 0 + 1 by omega]
          exact g1
        · rw [if_pos (by omega), show 10 * r + 5 * c + 2 - (10 * r + 5 * c) = 0 + 2 by omega]
          exact g2
        · rw [if_pos (by omega), show 10 * r + 5 * c + 3 - (10 * r + 5 * c) = 0 + 3 by omega]
          exact g3
        · rw [if_pos (by omega), show 10 * r + 5 * c + 4 - (10 * r + 5 * c) = 0 + 4 by omega]
          exact g4
      · have E : N3.2 188 = M.2 188 := by rw [f3.2 188 (by decide) (by decide) (by decide), f1.2 188 (by decide) (by decide) (by decide)]
        unfold blK a5 at5 at *
        rw [mm_l2, E]
        obtain ⟨g0, g1, g2, g3, g4⟩ := hz
        refine ⟨?_, ?_, ?_, ?_, ?_⟩
        · rw [if_neg (by omega)]
          exact g0
        · rw [if_neg (by omega)]
          exact g1
        · rw [if_neg (by omega)]
          exact g2
        · rw [if_neg (by omega)]
          exact g3
        · rw [if_neg (by omega)]
          exact g4
  refine am_run hX 2 _ _ _ _ ?_
  conv => whnf
  have : p = 1 ∨ p = 2 ∨ p = 3 := by omega
  rcases this with rfl | rfl | rfl
  · refine bl_10_187 (d := d) hX hr hc hK h1 hn (z1 (K + K)) (bq_0 (by decide)) (fun N2 w2 f2 o2 => ?_)
    exact bl_11_187 (d := d) hX hr hc hK (by rw [f2.2 187 (by decide) (by decide) (by decide)]; exact h1) hn o2 b0 (fun N3 w3 f3 o3 => fin N3 w3 (slF_t f2 f3) o3)
  · refine bl_20_187 (d := d) hX hr hc hK h1 hn (z1 (K + K)) (bq_0 (by decide)) (fun N2 w2 f2 o2 => ?_)
    exact bl_21_187 (d := d) hX hr hc hK (by rw [f2.2 187 (by decide) (by decide) (by decide)]; exact h1) hn o2 b0 (fun N3 w3 f3 o3 => fin N3 w3 (slF_t f2 f3) o3)
  · refine bl_30_187 (d := d) hX hr hc hK h1 hn (z1 (K + K)) (bq_0 (by decide)) (fun N2 w2 f2 o2 => ?_)
    exact bl_31_187 (d := d) hX hr hc hK (by rw [f2.2 187 (by decide) (by decide) (by decide)]; exact h1) hn o2 b0 (fun N3 w3 f3 o3 => fin N3 w3 (slF_t f2 f3) o3)
end FMH
