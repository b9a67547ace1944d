/-! DIAGRAMS: the first RULE that can be done -/
abbrev okR (inp : Nat) (W : WB) (k a b : Nat) : Prop := rlOK inp W (nI k) (nI a) (nI b)
def noW (inp : Nat) (W : WB) : Prop := ∀ k a b, 1 ≤ k → k < 5 → a < 60 → b < 60 → ¬ okR inp W k a b
def frR (inp m : Nat) (W V : WB) : Prop := ∃ k a b, 1 ≤ k ∧ k < 5 ∧ a < 60 ∧ b < 60 ∧ rlV inp m W (nI k) (nI a) (nI b) V ∧ (∀ k' a' b', 1 ≤ k' → k' < k → a' < 60 → b' < 60 → ¬ okR inp W k' a' b') ∧ (∀ a' b', a' < a → b' < 60 → ¬ okR inp W k a' b') ∧ ((k = 1 ∨ k = 4) → ∀ b', b' < b → ¬ okR inp W k a b')
section FST
variable {d m inp : Nat} {N : mm_M} {W : WB}
theorem k_nI {k j : Nat} (hk : k < 5) (hj : j < 5) (h : nI k = nI j) : k = j := (nI_eq (by omega) (by omega)).mp h
theorem rl_in {k a b : Nat} (g : gdW m inp W) (hk : k < 5) (ha : a < 60) (hb : b < 60) (h : okR inp W k a b) : inW inp W a ∧ ((k = 1 ∨ k = 4) → inW inp W b ∧ a < b) := by
  have m60 := g.1
  have eq : ∀ {x y : Nat}, x < 60 → W.1 y = true → nI x = nI y → x = y := fun {x y} hx hy e => by
    have := g.2.2.2.2.1 y hy
    exact (nI_eq (by omega) (by omega)).mp e
  rcases h with ⟨e, a', b', e1, e2, y⟩ | ⟨e, a', e1, y⟩ | ⟨e, a', e1, y⟩ | ⟨e, a', b', e1, e2, y⟩
  · rw [eq ha y.1.1 e1, eq hb y.2.1.1 e2]
    exact ⟨y.1, fun _ => ⟨y.2.1, y.2.2.1⟩⟩
  · have ek : k = 2 := k_nI hk (by decide) e
    rw [eq ha y.1.1 e1]
    exact ⟨y.1, fun z => by omega⟩
  · have ek : k = 3 := k_nI hk (by decide) e
    rw [eq ha y.1.1 e1]
    exact ⟨y.1, fun z => by omega⟩
  · rw [eq ha y.1.1.1 e1, eq hb y.1.2.1.1 e2]
    exact ⟨y.1.1, fun _ => ⟨y.1.2.1, y.1.2.2.1⟩⟩
theorem rl_q {k a b b' : Nat} (hk : k = 2 ∨ k = 3) : okR inp W k a b → okR inp W k a b' := fun h => by
  rcases h with ⟨e, _⟩ | h | h | ⟨e, _⟩
  · have ek : k = 1 := k_nI (by omega) (by decide) e
    exfalso
    omega
  · exact Or.inr (Or.inl h)
  · exact Or.inr (Or.inr (Or.inl h))
  · have ek : k = 4 := k_nI (by omega) (by decide) e
    exfalso
    omega
theorem rlV_q {k a b b' : Nat} {V : WB} (hk : k = 2 ∨ k = 3) (h : rlV inp m W (nI k) (nI a) (nI b) V) : rlV inp m W (nI k) (nI a) (nI b') V := by
  rcases h with ⟨e, _⟩ | h | h | ⟨e, _⟩
  · have ek : k = 1 := k_nI (by omega) (by decide) e
    exfalso
    omega
  · exact Or.inr (Or.inl h)
  · exact Or.inr (Or.inr (Or.inl h))
  · have ek : k = 4 := k_nI (by omega) (by decide) e
    exfalso
    omega
theorem rlV_ok {k p q : Int32} {V : WB} (h : rlV inp m W k p q V) : rlOK inp W k p q := by
  rcases h with ⟨e, a, b, e1, e2, y, _⟩ | ⟨e, a, c, x, e1, y, _⟩ | ⟨e, a, e1, y, _⟩ | ⟨e, a, b, e1, e2, y, _⟩
  · exact Or.inl ⟨e, a, b, e1, e2, y⟩
  · exact Or.inr (Or.inl ⟨e, a, e1, y⟩)
  · exact Or.inr (Or.inr (Or.inl ⟨e, a, e1, y⟩))
  · exact Or.inr (Or.inr (Or.inr ⟨e, a, b, e1, e2, y⟩))
theorem fr_u {V V' : WB} (g : gdW m inp W) (h : frR inp m W V) (h' : frR inp m W V') : V = V' := by
  obtain ⟨k, a, b, k1, k2, a1, b1, hv, e1, e2, e3⟩ := h
  obtain ⟨k', a', b', k1', k2', a1', b1', hv', e1', e2', e3'⟩ := h'
  have ek : k = k' := by
    rcases Nat.lt_trichotomy k k' with z | z | z
    · exact absurd (rlV_ok hv) (e1' k a b k1 z a1 b1)
    · exact z
    · exact absurd (rlV_ok hv') (e1 k' a' b' k1' z a1' b1')
  subst ek
  have ea : a = a' := by
    rcases Nat.lt_trichotomy a a' with z | z | z
    · exact absurd (rlV_ok hv) (e2' a b z b1)
    · exact z
    · exact absurd (rlV_ok hv') (e2 a' b' z b1')
  subst ea
  by_cases hk : k = 1 ∨ k = 4
  · have eb : b = b' := by
      rcases Nat.lt_trichotomy b b' with z | z | z
      · exact absurd (rlV_ok hv) (e3' hk b z)
      · exact z
      · exact absurd (rlV_ok hv') (e3 hk b' z)
    subst eb
    exact rlV_u g hv hv'
  · exact rlV_u g hv (rlV_q (by omega) hv')
theorem fr_no {V : WB} (h : frR inp m W V) (hn : noW inp W) : False := by
  obtain ⟨k, a, b, k1, k2, a1, b1, hv, _⟩ := h
  exact hn k a b k1 k2 a1 b1 (rlV_ok hv)
theorem fr_gd {V : WB} (g : gdW m inp W) (h : frR inp m W V) : gdW m inp V := by
  obtain ⟨k, a, b, k1, k2, a1, b1, hv, _⟩ := h
  exact rlV_gd g hv
/-- two SPIDERS are asked for -/
def twK (k : Nat) : Nat := if k = 1 ∨ k = 4 then 1 else 0
set_option maxRecDepth 100000 in
theorem df_t {k : Nat} {a : Int32} {l3 l4 : Option am_V} {Pp : am_Q} {X : am_X} (hX : am_K d false nm_X10_doFirstRule Pp X) (k1 : 1 ≤ k) (k5 : k < 5) (hK : X 38 [some (aR 39), some (aI (nI k)), some (aI a), some (aI (nI (twK k))), l4] [] N) : X 22 [some (aR 39), some (aI (nI k)), some (aI a), l3, l4] [] N := by
  obtain rfl | rfl | rfl | rfl : k = 1 ∨ k = 2 ∨ k = 3 ∨ k = 4 := by omega
  · refine am_run hX 3 _ _ _ _ ?_
    conv => whnf
    refine ⟨fun _ => ?_, fun c => absurd rfl c⟩
    refine am_run hX 3 _ _ _ _ ?_
    conv => whnf
    exact hK
  · refine am_run hX 3 _ _ _ _ ?_
    conv => whnf
    refine ⟨fun c => absurd c (by decide), fun _ => ?_⟩
    refine am_run hX 3 _ _ _ _ ?_
    conv => whnf
    refine ⟨fun _ => ?_, fun c => absurd (by decide) c⟩
    refine am_run hX 2 _ _ _ _ ?_
    conv => whnf
    exact hK
  · refine am_run hX 3 _ _ _ _ ?_
    conv => whnf
    refine ⟨fun c => absurd c (by decide), fun _ => ?_⟩
    refine am_run hX 3 _ _ _ _ ?_
    conv => whnf
    refine ⟨fun _ => ?_, fun c => absurd (by decide) c⟩
    refine am_run hX 2 _ _ _ _ ?_
    conv => whnf
    exact hK
  · refine am_run hX 3 _ _ _ _ ?_
    conv => whnf
    refine ⟨fun c => absurd c (by decide), fun _ => ?_⟩
    refine am_run hX 3 _ _ _ _ ?_
    conv => whnf
    refine ⟨fun c => absurd rfl c, fun _ => ?_⟩
    refine am_run hX 3 _ _ _ _ ?_
    conv => whnf
    exact hK
/-- the class's end -/
def frC (N : mm_M) (m inp : Nat) (W : WB) (Pp : am_Q) : Prop := (noW inp W → Pp (.inl (some (aI 0))) N) ∧ ∀ N' V, frR inp m W V → cwF N N' → N'.1 39 9 = -1 → cwR N' m inp V → Pp (.inl (some (aI 1))) N'
set_option maxRecDepth 100000 in
theorem df_b {k a : Nat} {Pp : am_Q} {X : am_X} (hX : am_K (d + 5) false nm_X10_doFirstRule Pp X) (h : cwR N m inp W) (g : gdW m inp W) (k1 : 1 ≤ k) (k5 : k < 5) (la : a < m) (hP : frC N m inp W Pp) (e1 : ∀ k' a' b', 1 ≤ k' → k' < k → a' < 60 → b' < 60 → ¬ okR inp W k' a' b') (e2 : ∀ a' b', a' < a → b' < 60 → ¬ okR inp W k a' b') (hK : (∀ b', b' < 60 → ¬ okR inp W k a b') → ∀ t l4, X 84 [some (aR 39), some (aI (nI k)), some (aI (nI a)), some (aI t), l4] [] N) : ∀ w b, b + w = m → ((k = 1 ∨ k = 4) → ∀ b', b' < b → ¬ okR inp W k a b') → (¬ (k = 1 ∨ k = 4) → b = m → ∀ b', b' < 60 → ¬ okR inp W k a b') → X 56 [some (aR 39), some (aI (nI k)), some (aI (nI a)), some (aI (nI (twK k))), some (aI (nI b))] [] N := by
  have m60 := g.1
  intro w
  induction w with
  | zero =>
    intro b hb e3 e4
    have hb : b = m := by omega
    subst hb
    refine am_run hX 4 _ _ _ _ ?_
    conv => whnf
    rw [h.1]
    refine ⟨fun _ => hK (fun b' hb' ok => ?_) _ _, fun c => absurd (nI_le (by omega) (by omega)) c⟩
    by_cases hk : k = 1 ∨ k = 4
    · have := (rl_in g k5 (by omega) hb' ok).2 hk
      exact e3 hk b' (g.2.2.2.2.1 b' this.1.1) ok
    · exact e4 hk rfl b' hb' ok
  | succ w ih =>
    intro b hb e3 e4
    refine am_run hX 4 _ _ _ _ ?_
    conv => whnf
    rw [h.1]
    refine ⟨fun c => absurd c (nI_ge (by omega) (by omega)), fun _ => ?_⟩
    refine am_run hX 6 _ _ _ _ ?_
    conv => whnf
    refine am_cq (ct_rlC (d := d) h g) ?_
    rintro r N' (⟨no, rfl, rfl⟩ | ⟨ok, rfl, f1, f2, V, hV, h'⟩)
    · refine ⟨_, rfl, ?_⟩
      conv => whnf
      refine ⟨fun _ => ?_, fun c => absurd rfl c⟩
      refine am_run hX 2 _ _ _ _ ?_
      conv => whnf
      rw [nI_1]
      refine ih (b + 1) (by omega) (fun hk b' hb' => ?_) (fun hk _ b' _ ok => no (rl_q (by omega) ok))
      by_cases e : b' = b
      · rw [e]
        exact no
      · exact e3 hk b' (by omega)
    · refine ⟨_, rfl, ?_⟩
      conv => whnf
      refine ⟨fun c => absurd c (by decide), fun _ => ?_⟩
      refine am_run hX 2 _ _ _ _ ?_
      conv => whnf
      exact ⟨rfl, hP.2 N' V ⟨k, a, b, k1, k5, by omega, by omega, hV, e1, e2, e3⟩ f1 f2 h'⟩
set_option maxRecDepth 100000 in
theorem df_a {k : Nat} {Pp : am_Q} {X : am_X} (hX : am_K (d + 5) false nm_X10_doFirstRule Pp X) (h : cwR N m inp W) (g : gdW m inp W) (k1 : 1 ≤ k) (k5 : k < 5) (hP : frC N m inp W Pp) (e1 : ∀ k' a' b', 1 ≤ k' → k' < k → a' < 60 → b' < 60 → ¬ okR inp W k' a' b') (hK : (∀ a' b', a' < 60 → b' < 60 → ¬ okR inp W k a' b') → ∀ l2 l3 l4, X 90 [some (aR 39), some (aI (nI k)), l2, l3, l4] [] N) : ∀ w a l3 l4, a + w = m → (∀ a' b', a' < a → b' < 60 → ¬ okR inp W k a' b') → X 14 [some (aR 39), some (aI (nI k)), some (aI (nI a)), l3, l4] [] N := by
  have m60 := g.1
  intro w
  induction w with
  | zero =>
    intro a l3 l4 ha e2
    have ha : a = m := by omega
    subst ha
    refine am_run hX 4 _ _ _ _ ?_
    conv => whnf
    rw [h.1]
    refine ⟨fun _ => hK (fun a' b' ha' hb' ok => ?_) _ _ _, fun c => absurd (nI_le (by omega) (by omega)) c⟩
    have := (rl_in g k5 ha' hb' ok).1
    exact e2 a' b' (g.2.2.2.2.1 a' this.1) hb' ok
  | succ w ih =>
    intro a l3 l4 ha e2
    refine am_run hX 4 _ _ _ _ ?_
    conv => whnf
    rw [h.1]
    refine ⟨fun c => absurd c (nI_ge (by omega) (by omega)), fun _ => ?_⟩
    refine df_t hX k1 k5 ?_
    have nx : (∀ b', b' < 60 → ¬ okR inp W k a b') → ∀ t l4, X 84 [some (aR 39), some (aI (nI k)), some (aI (nI a)), some (aI t), l4] [] N := fun hq t l4 => by
      refine am_run hX 2 _ _ _ _ ?_
      conv => whnf
      rw [nI_1]
      refine ih (a + 1) _ _ (by omega) fun a' b' ha' hb' => ?_
      by_cases e : a' = a
      · rw [e]
        exact hq b' hb'
      · exact e2 a' b' (by omega) hb'
    by_cases hk : k = 1 ∨ k = 4
    · have et : twK k = 1 := if_pos hk
      have fin := df_b (d := d) hX h g k1 k5 (by omega) hP e1 e2 nx (m - (a + 1)) (a + 1) (by omega) (fun _ b' hb' ok => by
        have := (rl_in g k5 (by omega) (by omega) ok).2 hk
        omega) (fun z => absurd hk z)
      rw [et] at fin ⊢
      refine am_run hX 2 _ _ _ _ ?_
      conv => whnf
      refine ⟨fun c => absurd c (by decide), fun _ => ?_⟩
      refine am_run hX 5 _ _ _ _ ?_
      conv => whnf
      rw [nI_1]
      exact fin
    · have et : twK k = 0 := if_neg hk
      have fin := df_b (d := d) hX h g k1 k5 (by omega) hP e1 e2 nx 1 (m - 1) (by omega) (fun z => absurd z hk) (fun _ z => by omega)
      rw [et] at fin ⊢
      refine am_run hX 2 _ _ _ _ ?_
      conv => whnf
      refine ⟨fun _ => ?_, fun c => absurd rfl c⟩
      refine am_run hX 5 _ _ _ _ ?_
      conv => whnf
      rw [h.1, show (1 : Int32) = nI 1 from rfl, nI_sub (by omega)]
      exact fin
set_option maxRecDepth 100000 in
theorem df_k {Pp : am_Q} {X : am_X} (hX : am_K (d + 5) false nm_X10_doFirstRule Pp X) (h : cwR N m inp W) (g : gdW m inp W) (hP : frC N m inp W Pp) : ∀ w k l2 l3 l4, k + w = 5 → 1 ≤ k → (∀ k' a' b', 1 ≤ k' → k' < k → a' < 60 → b' < 60 → ¬ okR inp W k' a' b') → X 2 [some (aR 39), some (aI (nI k)), l2, l3, l4] [] N := by
  have m60 := g.1
  intro w
  induction w with
  | zero =>
    intro k l2 l3 l4 hk k1 e1
    have hk : k = 5 := by omega
    subst hk
    refine am_run hX 5 _ _ _ _ ?_
    conv => whnf
    refine ⟨fun _ => ?_, fun c => absurd (by decide) c⟩
    conv => whnf
    exact ⟨rfl, hP.1 fun k a b k1 k5 a1 b1 => e1 k a b k1 k5 a1 b1⟩
  | succ w ih =>
    intro k l2 l3 l4 hk k1 e1
    refine am_run hX 3 _ _ _ _ ?_
    conv => whnf
    refine ⟨fun c => absurd c (nI_nlt (a := 4) (b := k) (by omega) (by decide)), fun _ => ?_⟩
    refine am_run hX 5 _ _ _ _ ?_
    conv => whnf
    rw [h.2.1, show (2 : Int32) = nI 2 from rfl, nI_mul]
    refine df_a (d := d) hX h g k1 (by omega) hP e1 (fun hq l2 l3 l4 => ?_) (m - 2 * inp) (2 * inp) _ _ (by have := g.2.1; omega) (fun a' b' ha' hb' ok => ?_)
    · refine am_run hX 2 _ _ _ _ ?_
      conv => whnf
      rw [nI_1]
      refine ih (k + 1) _ _ _ (by omega) (by omega) fun k' a' b' h1 h2 h3 h4 => ?_
      by_cases e : k' = k
      · rw [e]
        exact hq a' b' h3 h4
      · exact e1 k' a' b' h1 (by omega) h3 h4
    · have g3 := g.2.2.1
      have := (rl_in g (by omega) (by omega) hb' ok).1.2
      omega
set_option maxRecDepth 100000 in
theorem ct_dfC (h : cwR N m inp W) (g : gdW m inp W) : am_M (d + 6) false nm_X10_doFirstRule [aR 39] N (fun r N' => (noW inp W ∧ r = .inl (some (aI 0)) ∧ N' = N) ∨ (∃ V, frR inp m W V ∧ r = .inl (some (aI 1)) ∧ cwF N N' ∧ N'.1 39 9 = -1 ∧ cwR N' m inp V)) := by
  refine ⟨rfl, rfl, rfl, fun X hX => am_run hX 2 _ _ _ _ ?_⟩
  conv => whnf
  exact df_k (d := d) hX h g ⟨fun hn => Or.inl ⟨hn, rfl, rfl⟩, fun N' V hV f1 f2 h' => Or.inr ⟨V, hV, rfl, f1, f2, h'⟩⟩ 4 1 _ _ _ (by omega) (by omega) (fun k' a' b' h1 h2 => by omega)
end FST
