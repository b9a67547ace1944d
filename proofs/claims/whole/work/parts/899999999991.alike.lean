/-! PARTS OF THE STATE THAT ARE ALIKE -/
theorem sq2 : ∀ (n : Nat) (u w : Int), u.natAbs ≤ n → u * u = 2 * (w * w) → u = 0
  | 0, u, w, h, _ => by omega
  | n + 1, u, w, h, e => by
    have ev : ∀ z : Int, (z * z) % 2 = 0 → z % 2 = 0 := fun z hz => by
      rcases (by omega : z % 2 = 0 ∨ z % 2 = 1) with q | q
      · exact q
      · obtain ⟨m, rfl⟩ : ∃ m, z = 2 * m + 1 := ⟨z / 2, by omega⟩
        have : (2 * m + 1) * (2 * m + 1) = 2 * (2 * (m * m) + 2 * m) + 1 := by grind
        omega
    have h1 := ev u (by omega)
    obtain ⟨m, rfl⟩ : ∃ m, u = 2 * m := ⟨u / 2, by omega⟩
    have e1 : (2 * m) * (2 * m) = 4 * (m * m) := by grind
    have h2 := ev w (by omega)
    obtain ⟨k, rfl⟩ : ∃ k, w = 2 * k := ⟨w / 2, by omega⟩
    have e2 : (2 * k) * (2 * k) = 4 * (k * k) := by grind
    by_cases hm : m = 0
    · omega
    · have := sq2 n m k (by omega) (by omega)
      omega
theorem mu_as (x y z : R4) : mu (mu x y) z = mu x (mu y z) := by
  obtain ⟨a, b, c, d⟩ := x
  obtain ⟨e, f, g, h⟩ := y
  obtain ⟨i, j, k, l⟩ := z
  simp only [mu, Prod.mk.injEq]
  refine ⟨?_, ?_, ?_, ?_⟩ <;> grind
def adj (v : R4) : R4 := mu (cj v) (nrm v, -(mu v (cj v)).2.1, 0, (mu v (cj v)).2.1)
theorem adj_e (v : R4) : mu v (adj v) = (nrm v * nrm v - 2 * ((mu v (cj v)).2.1 * (mu v (cj v)).2.1), 0, 0, 0) := by
  unfold adj
  rw [← mu_as]
  obtain ⟨a, b, c, d⟩ := v
  simp only [mu, cj, nrm, Prod.mk.injEq]
  refine ⟨?_, ?_, ?_, ?_⟩ <;> grind
theorem mu_inj {x y v : R4} (hv : ¬ v = (0, 0, 0, 0)) (h : mu x v = mu y v) : x = y := by
  have hn : ¬ nrm v = 0 := fun e => hv (by
    obtain ⟨a, b, c, d⟩ := v
    simp only [nrm] at e
    have h1 := sq0 a
    have h2 := sq0 b
    have h3 := sq0 c
    have h4 := sq0 d
    have g1 := sq_le (a := a) (b := 0) (by omega)
    have g2 := sq_le (a := b) (b := 0) (by omega)
    have g3 := sq_le (a := c) (b := 0) (by omega)
    have g4 := sq_le (a := d) (b := 0) (by omega)
    simp only [Prod.mk.injEq]
    omega)
  have hD : ¬ nrm v * nrm v - 2 * ((mu v (cj v)).2.1 * (mu v (cj v)).2.1) = 0 := fun e => hn (sq2 (nrm v).natAbs (nrm v) (mu v (cj v)).2.1 (Nat.le_refl _) (by omega))
  have e : mu x (mu v (adj v)) = mu y (mu v (adj v)) := by rw [← mu_as, ← mu_as, h]
  rw [adj_e] at e
  generalize nrm v * nrm v - 2 * ((mu v (cj v)).2.1 * (mu v (cj v)).2.1) = D at *
  obtain ⟨a, b, c, d⟩ := x
  obtain ⟨a', b', c', d'⟩ := y
  simp only [mu, Prod.mk.injEq, Int.mul_zero, Int.sub_zero, Int.add_zero, Int.zero_add] at e
  obtain ⟨e1, e2, e3, e4⟩ := e
  have f : ∀ p q : Int, p * D = q * D → p = q := fun p q z => Int.eq_of_mul_eq_mul_right hD z
  have k1 := f a a' (by omega)
  have k2 := f b b' (by omega)
  have k3 := f c c' (by omega)
  have k4 := f d d' (by omega)
  simp only [Prod.mk.injEq]
  exact ⟨k1, k2, k3, k4⟩
theorem mu_0 (x : R4) : mu x (0, 0, 0, 0) = (0, 0, 0, 0) := by
  simp only [mu, Int.mul_zero]
  rfl
theorem mu_z {x v : R4} (hv : ¬ v = (0, 0, 0, 0)) : mu x v = (0, 0, 0, 0) ↔ x = (0, 0, 0, 0) := by
  constructor
  · intro h
    refine mu_inj hv ?_
    rw [h, mu_c, mu_0]
  · intro h
    rw [h, mu_c, mu_0]
/-- the first that is not 0 -/
def isF (u : Nat → R4) (p : Nat) : Prop := ¬ u p = (0, 0, 0, 0) ∧ ∀ j, j < p → u j = (0, 0, 0, 0)
theorem isF_u {u : Nat → R4} {p q : Nat} (h : isF u p) (h' : isF u q) : p = q := by
  rcases Nat.lt_trichotomy p q with z | z | z
  · exact absurd (h'.2 p z) h.1
  · exact z
  · exact absurd (h.2 q z) h'.1
theorem isF_x {u : Nat → R4} : ∀ j, ¬ u j = (0, 0, 0, 0) → ∃ p, p ≤ j ∧ isF u p := by
  intro j
  induction j using Nat.strongRecOn with
  | ind j ih =>
    intro h
    by_cases c : ∃ i, i < j ∧ ¬ u i = (0, 0, 0, 0)
    · obtain ⟨i, hi, hn⟩ := c
      obtain ⟨p, hp, hf⟩ := ih i hi hn
      exact ⟨p, by omega, hf⟩
    · exact ⟨j, Nat.le_refl _, h, fun i hi => Classical.byContradiction fun z => c ⟨i, hi, z⟩⟩
/-- alike: one is the other times a factor -/
def alk (K : Nat) (u v : Nat → R4) : Prop := ∃ p, p < K ∧ isF u p ∧ ¬ v p = (0, 0, 0, 0) ∧ ∀ j, j < K → mu (u j) (v p) = mu (v j) (u p)
theorem alk_r {K : Nat} {u : Nat → R4} (h : ∃ j, j < K ∧ ¬ u j = (0, 0, 0, 0)) : alk K u u := by
  obtain ⟨j, hj, hn⟩ := h
  obtain ⟨p, hp, hf⟩ := isF_x j hn
  exact ⟨p, by omega, hf, hf.1, fun _ _ => rfl⟩
theorem alk_t {K : Nat} {u v x : Nat → R4} (h : alk K u v) (h' : alk K v x) : alk K u x := by
  obtain ⟨p, hp, hf, hv, he⟩ := h
  obtain ⟨q, hq, hg, hx, hc⟩ := h'
  have hvp : isF v p := ⟨hv, fun j hj => by
    have := he j (by omega)
    rw [hf.2 j hj, mu_c, mu_0] at this
    exact (mu_z hf.1).mp this.symm⟩
  have e := isF_u hvp hg
  subst e
  refine ⟨p, hp, hf, hx, fun j hj => ?_⟩
  refine mu_inj hv ?_
  rw [mu_as, mu_c (x p), ← mu_as, he j hj, mu_as, mu_c (u p), ← mu_as, hc j hj, mu_as, mu_c (v p), ← mu_as]
def alB (K p : Nat) (u v : Nat → R4) (j : Nat) : Bool := decide (mu (u j) (v p) = mu (v j) (u p))
theorem alk_B {K p : Nat} {u v : Nat → R4} (hp : p < K) (hf : isF u p) : alk K u v ↔ (¬ v p = (0, 0, 0, 0) ∧ allN (alB K p u v) K = true) := by
  rw [all_iff]
  constructor
  · rintro ⟨q, hq, hg, hv, he⟩
    have e := isF_u hf hg
    subst e
    exact ⟨hv, fun j hj => decide_eq_true (he j hj)⟩
  · rintro ⟨hv, he⟩
    exact ⟨p, hp, hf, hv, fun j hj => of_decide_eq_true (he j hj)⟩
section ALI
variable {d : Nat} {M : mm_M} {g : Nat → Int64}
set_option maxRecDepth 100000 in
theorem ct_prodN {i j e : Nat} {x y s : R4} (hi : i < 256) (hj : j < 256) (he : e < 8) (hx : rt_at M 20 i x) (hy : rt_at M 20 j y) : am_M (d + 2) false nm_X6_addProduct [aR 18, aI (nI i), aI (nI j), aI (nI e), aI 0] (mm_l M 19 (s4 g s)) (am_q0 (mm_l M 19 (s4 g (ra s (t8n e (mu x y)))))) := by
  obtain ⟨x1, x2, x3, x4⟩ := hx
  obtain ⟨y1, y2, y3, y4⟩ := hy
  refine ⟨rfl, rfl, rfl, fun X hX => ?_⟩
  have hK : ∀ l14 l15, X 106 [some (aR 18), some (aI (nI i)), some (aI (nI j)), some (aI (nI e)), some (aI 0), some (aJ (lI x.1)), none, some (aJ (lI x.2.1)), none, some (aJ (lI x.2.2.1)), none, some (aJ (lI x.2.2.2)), none, some (aI (nI 4)), l14, l15] [] (mm_l M 19 (s4 g (ap x y (ap x y (ap x y (ap x y s e 0) e 1) e 2) e 3))) := fun l14 l15 => by
    refine am_run hX 10 _ _ _ _ ?_
    conv => whnf
    refine ⟨fun _ => ?_, fun c => absurd (by decide) c⟩
    conv => whnf
    refine ⟨trivial, rfl, ?_⟩
    rw [ap_4]
  have h3 := fun l14 l15 => ap_b19 (i := i) (b := 0) (A := x) hX hj he (p := 3) (by decide) y4 l14 l15 hK
  have h2 := fun l14 l15 => ap_b19 (i := i) (b := 0) (A := x) hX hj he (p := 2) (by decide) y3 l14 l15 h3
  have h1 := fun l14 l15 => ap_b19 (i := i) (b := 0) (A := x) hX hj he (p := 1) (by decide) y2 l14 l15 h2
  have h0 := fun l14 l15 => ap_b19 (i := i) (b := 0) (A := x) hX hj he (p := 0) (by decide) y1 l14 l15 h1
  refine am_run hX 6 _ _ _ _ ?_
  conv => whnf
  rw [show (4 : Int32) = nI 4 from rfl, nI_mul]
  refine ⟨vp_in_nI (by show _ < 1024; omega) (by decide), ?_⟩
  refine am_run hX 3 _ _ _ _ ?_
  conv => whnf
  refine ⟨fun _ => ?_, fun c => absurd rfl c⟩
  refine am_run hX 8 _ _ _ _ ?_
  conv => whnf
  rw [show (4 : Int32) = nI 4 from rfl, nI_mul, nI_1]
  refine ⟨vp_in_nI (by show _ < 1024; omega) (by decide), ?_⟩
  refine am_run hX 3 _ _ _ _ ?_
  conv => whnf
  refine ⟨fun _ => ?_, fun c => absurd rfl c⟩
  refine am_run hX 8 _ _ _ _ ?_
  conv => whnf
  rw [show (4 : Int32) = nI 4 from rfl, nI_mul, show (2 : Int32) = nI 2 from rfl, nI_add]
  refine ⟨vp_in_nI (by show _ < 1024; omega) (by decide), ?_⟩
  refine am_run hX 3 _ _ _ _ ?_
  conv => whnf
  refine ⟨fun _ => ?_, fun c => absurd rfl c⟩
  refine am_run hX 8 _ _ _ _ ?_
  conv => whnf
  rw [show (4 : Int32) = nI 4 from rfl, nI_mul, show (3 : Int32) = nI 3 from rfl, nI_add]
  refine ⟨vp_in_nI (by show _ < 1024; omega) (by decide), ?_⟩
  refine am_run hX 3 _ _ _ _ ?_
  conv => whnf
  rw [nI_clamp (n := 4 * i) (by omega), nI_clamp (n := 4 * i + 1) (by omega), nI_clamp (n := 4 * i + 2) (by omega), nI_clamp (n := 4 * i + 3) (by omega), mm_lne _ 19 20 _ (by decide), x1, x2, x3, x4]
  exact h0 _ _
/-- the STATE as the class has it, with its bound -/
def stC (M : mm_M) (W : Nat) (xs : Nat → R4) : Prop := M.1 18 2 = nI (2 ^ W) ∧ W ≤ 8 ∧ (∀ j, j < 2 ^ W → rt_at M 20 j (xs j)) ∧ ∀ j, j < 2 ^ W → nrm (xs j) ≤ 2 ^ 60
theorem ix_or {t l j : Nat} (ht : t < 2 ^ l) : t ||| j * 2 ^ l = t + 2 ^ l * j := by
  rw [Nat.mul_comm, Nat.or_comm, Nat.add_comm]
  exact (Nat.two_pow_add_eq_or_of_lt ht j).symm
theorem ix_lt {t l W j : Nat} (hl : l ≤ W) (ht : t < 2 ^ l) (hj : j < 2 ^ (W - l)) : t + 2 ^ l * j < 2 ^ W := by
  have e : 2 ^ W = 2 ^ l * 2 ^ (W - l) := by rw [← Nat.pow_add]; congr 1; omega
  have h1 : 2 ^ l * (j + 1) ≤ 2 ^ l * 2 ^ (W - l) := Nat.mul_le_mul_left _ (by omega)
  rw [e]
  rw [Nat.mul_add] at h1
  omega
/-- a part of the STATE -/
def sub (xs : Nat → R4) (l t : Nat) : Nat → R4 := fun j => xs (t + 2 ^ l * j)
theorem nI_orm {t l j : Nat} (ht : t < 2 ^ l) : nI t ||| nI (2 ^ l * j) = nI (t + 2 ^ l * j) := by rw [nI_or, ← ix_or ht, Nat.mul_comm (2 ^ l) j]
theorem ng_4 (x : R4) : t8n 4 x = ng x := rfl
theorem dif_0 {x y : R4} (hx : lm (2 ^ 61) x) (hy : lm (2 ^ 61) y) : bd (ra x (ng y)) ∧ (ra x (ng y) = (0, 0, 0, 0) ↔ x = y) := by
  obtain ⟨a, b, c, d⟩ := x
  obtain ⟨a', b', c', d'⟩ := y
  simp only [lm, bd, ra, ng, Prod.mk.injEq] at *
  omega
theorem st_lt {W l j : Nat} (hl : l ≤ W) (w8 : W ≤ 8) : (nI (2 ^ W) ≤ nI (2 ^ l * j) ↔ 2 ^ (W - l) ≤ j) ∨ 2 ^ l * j ≥ 2 ^ 31 := by
  by_cases h : 2 ^ l * j ≥ 2 ^ 31
  · exact Or.inr h
  · left
    have e : 2 ^ W = 2 ^ l * 2 ^ (W - l) := by rw [← Nat.pow_add]; congr 1; omega
    have h8 := w256 w8
    have hp := Nat.two_pow_pos l
    constructor
    · intro h1
      apply Decidable.byContradiction
      intro h2
      have : 2 ^ l * j < 2 ^ l * 2 ^ (W - l) := Nat.mul_lt_mul_of_pos_left (by omega) hp
      exact nI_ge (a := 2 ^ l * j) (b := 2 ^ W) (by omega) (by omega) h1
    · intro h1
      have : 2 ^ l * 2 ^ (W - l) ≤ 2 ^ l * j := Nat.mul_le_mul_left _ h1
      exact nI_le (by omega) (by omega)
set_option maxRecDepth 100000 in
theorem ap_l {P : am_Q} {X : am_X} {p : Nat} {W l a b : Nat} {xs : Nat → R4} (hS : stC M W xs) (hl : l ≤ W) (ha : a < 2 ^ l) (hb : b < 2 ^ l) (hX : am_K (d + 1) false nm_X4_areAlike P X) (hp : p < (2 ^ (W - l))) (hf : isF (sub xs l a) p) (hK : X 40 [some (aR 17), some (aI (nI l)), some (aI (nI a)), some (aI (nI b)), some (aI (nI (2 ^ l * p))), none] [] M) : ∀ (m j : Nat), j + m = p → X 3 [some (aR 17), some (aI (nI l)), some (aI (nI a)), some (aI (nI b)), some (aI (nI (2 ^ l * j))), none] [] M := by
  obtain ⟨hs, w8, hr, hn⟩ := hS
  have h8 := w256 w8
  have hz : ∀ j, j < (2 ^ (W - l)) → (zb M (a + 2 ^ l * j) = true ↔ (sub xs l a) j = (0, 0, 0, 0)) := fun j hj => by
    have hi := ix_lt hl ha hj
    exact zb_iff (nrm_bd (by have := hn _ hi; show nrm (xs (a + 2 ^ l * j)) ≤ 2 ^ 61; omega)) (hr _ hi)
  have hlt : ∀ j, j < (2 ^ (W - l)) → 2 ^ l * j < 2 ^ W := fun j hj => by have := ix_lt (t := 0) hl (Nat.two_pow_pos l) hj; omega
  intro m
  induction m with
  | zero =>
    intro j hj
    have hj : j = p := by omega
    subst hj
    have h1 := hlt j hp
    have h2 := ix_lt hl ha hp
    refine am_run hX 5 _ _ _ _ ?_
    conv => whnf
    rw [hs]
    refine ⟨fun c => absurd c (nI_ge h1 (by omega)), fun _ => ?_⟩
    refine am_run hX 7 _ _ _ _ ?_
    conv => whnf
    rw [nI_orm ha]
    refine am_c1 (ct_isz18 (d := d) (by omega)) ?_
    rw [if_neg (fun q => hf.1 ((hz j hp).mp q))]
    conv => whnf
    exact ⟨fun _ => hK, fun c => absurd rfl c⟩
  | succ m ih =>
    intro j hj
    have ih := ih (j + 1) (by omega)
    have h1 := hlt j (by omega)
    have h2 := ix_lt hl ha (show j < (2 ^ (W - l)) by omega)
    refine am_run hX 5 _ _ _ _ ?_
    conv => whnf
    rw [hs]
    refine ⟨fun c => absurd c (nI_ge h1 (by omega)), fun _ => ?_⟩
    refine am_run hX 7 _ _ _ _ ?_
    conv => whnf
    rw [nI_orm ha]
    refine am_c1 (ct_isz18 (d := d) (by omega)) ?_
    rw [if_pos ((hz j (by omega)).mpr (hf.2 j (by omega)))]
    conv => whnf
    refine ⟨fun c => absurd c (by decide), fun _ => ?_⟩
    refine am_run hX 7 _ _ _ _ ?_
    conv => whnf
    rw [sh2 l (by omega), nI_add, show 2 ^ l * j + 2 ^ l = 2 ^ l * (j + 1) by rw [Nat.mul_add, Nat.mul_one]]
    exact ih
set_option maxRecDepth 100000 in
theorem ai_l {P : am_Q} {X : am_X} {p : Nat} {W l a b : Nat} {xs : Nat → R4} (hS : stC M W xs) (hl : l ≤ W) (ha : a < 2 ^ l) (hb : b < 2 ^ l) (hX : am_K (d + 2) false nm_X4_areAlike P X) (hp : p < (2 ^ (W - l))) (hP : ∀ f, P (.inl (some (aI (b01 (allN (alB (2 ^ (W - l)) p (sub xs l a) (sub xs l b)) (2 ^ (W - l))))))) (mm_l M 19 f)) : ∀ (m j : Nat), j + m = (2 ^ (W - l)) → allN (alB (2 ^ (W - l)) p (sub xs l a) (sub xs l b)) j = true → ∀ f, X 71 [some (aR 17), some (aI (nI l)), some (aI (nI a)), some (aI (nI b)), some (aI (nI (2 ^ l * p))), some (aI (nI (2 ^ l * j)))] [] (mm_l M 19 f) := by
  obtain ⟨hs, w8, hr, hn⟩ := hS
  have h8 := w256 w8
  have eW : 2 ^ W = 2 ^ l * (2 ^ (W - l)) := by rw [← Nat.pow_add]; congr 1; omega
  have hlm : ∀ i j, i < 2 ^ W → j < 2 ^ W → lm (2 ^ 61) (mu (xs i) (xs j)) := fun i j hi hj => lm_le (lm_mu _ _) (by have := hn i hi; have := hn j hj; omega)
  intro m
  induction m with
  | zero =>
    intro j hj hA f
    have hj : j = (2 ^ (W - l)) := by omega
    subst hj
    refine am_run hX 12 _ _ _ _ ?_
    conv => whnf
    rw [show (mm_l M 19 f).1 18 2 = nI (2 ^ W) from hs]
    refine ⟨fun _ => ?_, fun c => absurd (nI_le (by omega) (by omega)) c⟩
    conv => whnf
    have := hP f
    rw [hA] at this
    exact ⟨rfl, this⟩
  | succ m ih =>
    intro j hj hA f
    have ih := ih (j + 1) (by omega)
    have hjK : j < (2 ^ (W - l)) := by omega
    have h1 : 2 ^ l * j < 2 ^ W := by have := ix_lt (t := 0) hl (Nat.two_pow_pos l) hjK; omega
    have i1 := ix_lt hl ha hjK
    have i2 := ix_lt hl hb hp
    have i3 := ix_lt hl hb hjK
    have i4 := ix_lt hl ha hp
    obtain ⟨bdz, dz⟩ := dif_0 (hlm _ _ i1 i2) (hlm _ _ i3 i4)
    refine am_run hX 5 _ _ _ _ ?_
    conv => whnf
    rw [show (mm_l M 19 f).1 18 2 = nI (2 ^ W) from hs]
    refine ⟨fun c => absurd c (nI_ge h1 (by omega)), fun _ => ?_⟩
    refine am_run hX 51 _ _ _ _ ?_
    conv => whnf
    refine am_c0 (ct_clear19 (d := d)) ?_
    rw [mm_l2, mm_ll]
    conv => whnf
    rw [nI_orm ha, nI_orm hb]
    refine am_c0 (ct_prodN (d := d) (e := 0) (by omega) (by omega) (by decide) (hr _ i1) (hr _ i2)) ?_
    conv => whnf
    rw [nI_orm hb, nI_orm ha]
    refine am_c0 (ct_prodN (d := d) (e := 4) (by omega) (by omega) (by decide) (hr _ i3) (hr _ i4)) ?_
    rw [show ra (ra (0, 0, 0, 0) (t8n 0 (mu (xs (a + 2 ^ l * j)) (xs (b + 2 ^ l * p))))) (t8n 4 (mu (xs (b + 2 ^ l * j)) (xs (a + 2 ^ l * p)))) = ra (mu (xs (a + 2 ^ l * j)) (xs (b + 2 ^ l * p))) (ng (mu (xs (b + 2 ^ l * j)) (xs (a + 2 ^ l * p)))) from by rw [ra_c (0, 0, 0, 0), ra_0]; rfl]
    conv => whnf
    refine ⟨by first | exact i4_0 | exact i4_1 | exact i4_2 | exact i4_3, ?_⟩
    conv => whnf
    refine ⟨by first | exact i4_0 | exact i4_1 | exact i4_2 | exact i4_3, ?_⟩
    conv => whnf
    refine ⟨by first | exact i4_0 | exact i4_1 | exact i4_2 | exact i4_3, ?_⟩
    conv => whnf
    refine ⟨by first | exact i4_0 | exact i4_1 | exact i4_2 | exact i4_3, ?_⟩
    conv => whnf
    rw [mm_l2, k_0, k_1, k_2, k_3, lg_0]
    have z0 := bd_0 bdz
    rw [dz] at z0
    have z1 : (s4 f (ra (mu (xs (a + 2 ^ l * j)) (xs (b + 2 ^ l * p))) (ng (mu (xs (b + 2 ^ l * j)) (xs (a + 2 ^ l * p))))) 0 ||| s4 f (ra (mu (xs (a + 2 ^ l * j)) (xs (b + 2 ^ l * p))) (ng (mu (xs (b + 2 ^ l * j)) (xs (a + 2 ^ l * p))))) 1 ||| s4 f (ra (mu (xs (a + 2 ^ l * j)) (xs (b + 2 ^ l * p))) (ng (mu (xs (b + 2 ^ l * j)) (xs (a + 2 ^ l * p))))) 2 ||| s4 f (ra (mu (xs (a + 2 ^ l * j)) (xs (b + 2 ^ l * p))) (ng (mu (xs (b + 2 ^ l * j)) (xs (a + 2 ^ l * p))))) 3 = 0) ↔ mu (xs (a + 2 ^ l * j)) (xs (b + 2 ^ l * p)) = mu (xs (b + 2 ^ l * j)) (xs (a + 2 ^ l * p)) := z0
    rw [z1]
    refine ⟨fun c => ?_, fun c => ?_⟩
    · refine am_run hX 7 _ _ _ _ ?_
      conv => whnf
      rw [sh2 l (by omega), nI_add, show 2 ^ l * j + 2 ^ l = 2 ^ l * (j + 1) by rw [Nat.mul_add, Nat.mul_one]]
      exact ih (by simp only [allN]; rw [hA, show alB (2 ^ (W - l)) p (sub xs l a) (sub xs l b) j = true from decide_eq_true c]; rfl) _
    · refine am_run hX 3 _ _ _ _ ?_
      conv => whnf
      have hf : allN (alB (2 ^ (W - l)) p (sub xs l a) (sub xs l b)) (2 ^ (W - l)) = false := nt_f fun z => c (of_decide_eq_true ((all_iff _).mp z j hjK))
      have := hP (s4 f (ra (mu (xs (a + 2 ^ l * j)) (xs (b + 2 ^ l * p))) (ng (mu (xs (b + 2 ^ l * j)) (xs (a + 2 ^ l * p))))))
      rw [hf] at this
      exact ⟨rfl, this⟩
set_option maxRecDepth 100000 in
theorem ct_areAlike {W l a b : Nat} {xs : Nat → R4} (hS : stC M W xs) (hl : l ≤ W) (ha : a < 2 ^ l) (hb : b < 2 ^ l) (h0 : ∃ j, j < (2 ^ (W - l)) ∧ ¬ (sub xs l a) j = (0, 0, 0, 0)) : am_M (d + 3) false nm_X4_areAlike [aR 17, aI (nI l), aI (nI a), aI (nI b)] M (fun r M' => (∃ t : Bool, r = .inl (some (aI (b01 t))) ∧ (t = true ↔ alk (2 ^ (W - l)) (sub xs l a) (sub xs l b))) ∧ ∃ f, M' = mm_l M 19 f) := by
  have hS0 := hS
  obtain ⟨hs, w8, hr, hn⟩ := hS
  have h8 := w256 w8
  obtain ⟨j0, hj0, hne⟩ := h0
  obtain ⟨p, hpj, hf⟩ := isF_x j0 hne
  have hp : p < (2 ^ (W - l)) := by omega
  have hB := alk_B (v := (sub xs l b)) hp hf
  have h1 : 2 ^ l * p < 2 ^ W := by have := ix_lt (t := 0) hl (Nat.two_pow_pos l) hp; omega
  have i2 := ix_lt hl hb hp
  refine ⟨rfl, rfl, rfl, fun X hX => am_run hX 2 _ _ _ _ ?_⟩
  conv => whnf
  refine ap_l (d := d + 1) hS0 hl ha hb hX hp hf ?_ p 0 (by omega)
  refine am_run hX 5 _ _ _ _ ?_
  conv => whnf
  rw [hs]
  refine ⟨fun c => absurd c (nI_ge h1 (by omega)), fun _ => ?_⟩
  refine am_run hX 7 _ _ _ _ ?_
  conv => whnf
  rw [nI_orm hb]
  refine am_c1 (ct_isz18 (d := d + 1) (by omega)) ?_
  have hz : zb M (b + 2 ^ l * p) = true ↔ (sub xs l b) p = (0, 0, 0, 0) := zb_iff (nrm_bd (by have := hn _ i2; show nrm (xs (b + 2 ^ l * p)) ≤ 2 ^ 61; omega)) (hr _ i2)
  by_cases c : (sub xs l b) p = (0, 0, 0, 0)
  · rw [if_pos (hz.mpr c)]
    conv => whnf
    refine ⟨fun q => absurd q (by decide), fun _ => ?_⟩
    refine am_run hX 3 _ _ _ _ ?_
    conv => whnf
    exact ⟨rfl, ⟨false, rfl, ⟨fun q => absurd q (by decide), fun q => absurd c (hB.mp q).1⟩⟩, M.2 19, (mm_lz M 19).symm⟩
  · rw [if_neg (fun q => c (hz.mp q))]
    conv => whnf
    refine ⟨fun _ => ?_, fun q => absurd rfl q⟩
    refine am_run hX 2 _ _ _ _ ?_
    conv => whnf
    have key := ai_l (d := d) hS0 hl ha hb hX hp (fun f => ⟨⟨_, rfl, ⟨fun q => hB.mpr ⟨c, q⟩, fun q => (hB.mp q).2⟩⟩, f, rfl⟩) (2 ^ (W - l)) 0 (by omega) rfl (M.2 19)
    rw [mm_lz] at key
    exact key
end ALI
