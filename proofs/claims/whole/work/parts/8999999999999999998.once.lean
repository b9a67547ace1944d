/-! DIAGRAMS: the first RULE at the reference -/
section ONC
variable {d m inp : Nat} {N : mm_M} {W : WB}
set_option maxRecDepth 100000 in
theorem ro_t {k : Nat} {a : Int32} {l3 l4 : Option am_V} {Pp : am_Q} {X : am_X} (hX : am_K d false nm_X12_reduceOnce Pp X) (k1 : 1 ≤ k) (k5 : k < 5) (hK : X 31 [some (aR 108), some (aI (nI k)), some (aI a), some (aI (nI (twK k))), l4] [] N) : X 15 [some (aR 108), some (aI (nI k)), some (aI a), l3, l4] [] N := by
  obtain rfl | rfl | rfl | rfl : k = 1 ∨ k = 2 ∨ k = 3 ∨ k = 4 := by omega
  · refine am_run hX 3 _ _ _ _ ?_
    conv => whnf
    refine ⟨fun _ => ?_, fun c => absurd rfl c⟩
    refine am_run hX 3 _ _ _ _ ?_
    conv => whnf
    exact hK
  · refine am_run hX 3 _ _ _ _ ?_
    conv => whnf
    refine ⟨fun c => absurd c (by decide), fun _ => ?_⟩
    refine am_run hX 3 _ _ _ _ ?_
    conv => whnf
    refine ⟨fun _ => ?_, fun c => absurd (by decide) c⟩
    refine am_run hX 2 _ _ _ _ ?_
    conv => whnf
    exact hK
  · refine am_run hX 3 _ _ _ _ ?_
    conv => whnf
    refine ⟨fun c => absurd c (by decide), fun _ => ?_⟩
    refine am_run hX 3 _ _ _ _ ?_
    conv => whnf
    refine ⟨fun _ => ?_, fun c => absurd (by decide) c⟩
    refine am_run hX 2 _ _ _ _ ?_
    conv => whnf
    exact hK
  · refine am_run hX 3 _ _ _ _ ?_
    conv => whnf
    refine ⟨fun c => absurd c (by decide), fun _ => ?_⟩
    refine am_run hX 3 _ _ _ _ ?_
    conv => whnf
    refine ⟨fun c => absurd rfl c, fun _ => ?_⟩
    refine am_run hX 3 _ _ _ _ ?_
    conv => whnf
    exact hK
/-- the reference's end -/
def frM (N : mm_M) (m inp : Nat) (W : WB) (Pp : am_Q) : Prop := (noW inp W → Pp (.inl (some (aI 0))) N) ∧ ∀ N' V, frR inp m W V → rwF N N' → rwR N' inp V → Pp (.inl (some (aI 1))) N'
/-- the bound of the inner loop -/
def bdK (k : Nat) : Nat := if k = 1 ∨ k = 4 then 60 else 1
set_option maxRecDepth 100000 in
theorem ro_56 {k : Nat} {a b : Int32} {Pp : am_Q} {X : am_X} (hX : am_K d false nm_X12_reduceOnce Pp X) (hK : X 56 [some (aR 108), some (aI (nI k)), some (aI a), some (aI (nI (twK k))), some (aI b)] [aI (nI (bdK k)), aI b] N) : X 44 [some (aR 108), some (aI (nI k)), some (aI a), some (aI (nI (twK k))), some (aI b)] [] N := by
  by_cases hk : k = 1 ∨ k = 4
  · have et : twK k = 1 := if_pos hk
    have eb : bdK k = 60 := if_pos hk
    rw [et, eb] at hK
    rw [et]
    refine am_run hX 3 _ _ _ _ ?_
    conv => whnf
    refine ⟨fun c => absurd c (by decide), fun _ => ?_⟩
    refine am_run hX 2 _ _ _ _ ?_
    conv => whnf
    exact hK
  · have et : twK k = 0 := if_neg hk
    have eb : bdK k = 1 := if_neg hk
    rw [et, eb] at hK
    rw [et]
    refine am_run hX 3 _ _ _ _ ?_
    conv => whnf
    refine ⟨fun _ => ?_, fun c => absurd rfl c⟩
    refine am_run hX 1 _ _ _ _ ?_
    conv => whnf
    exact hK
set_option maxRecDepth 100000 in
theorem ro_b {k a : Nat} {Pp : am_Q} {X : am_X} (hX : am_K (d + 5) false nm_X12_reduceOnce Pp X) (h : rwR N inp W) (g : gdW m inp W) (k1 : 1 ≤ k) (k5 : k < 5) (la : a < 60) (hP : frM N m inp W Pp) (e1 : ∀ k' a' b', 1 ≤ k' → k' < k → a' < 60 → b' < 60 → ¬ okR inp W k' a' b') (e2 : ∀ a' b', a' < a → b' < 60 → ¬ okR inp W k a' b') (hK : (∀ b', b' < 60 → ¬ okR inp W k a b') → ∀ t l4, X 78 [some (aR 108), some (aI (nI k)), some (aI (nI a)), some (aI t), l4] [] N) : ∀ w b, b + w = bdK k → ((k = 1 ∨ k = 4) → ∀ b', b' < b → ¬ okR inp W k a b') → (¬ (k = 1 ∨ k = 4) → b = 1 → ∀ b', b' < 60 → ¬ okR inp W k a b') → X 44 [some (aR 108), some (aI (nI k)), some (aI (nI a)), some (aI (nI (twK k))), some (aI (nI b))] [] N := by
  have m60 := g.1
  have b60 : bdK k ≤ 60 := by
    unfold bdK
    by_cases hk : k = 1 ∨ k = 4
    · rw [if_pos hk]; decide
    · rw [if_neg hk]; decide
  intro w
  induction w with
  | zero =>
    intro b hb e3 e4
    have hb : b = bdK k := by omega
    refine ro_56 hX ?_
    refine am_run hX 1 _ _ _ _ ?_
    conv => whnf
    rw [hb]
    refine ⟨fun _ => hK (fun b' hb' ok => ?_) _ _, fun c => absurd (nI_le (by omega) (by omega)) c⟩
    by_cases hk : k = 1 ∨ k = 4
    · have eb : bdK k = 60 := if_pos hk
      exact e3 hk b' (by omega) ok
    · have eb : bdK k = 1 := if_neg hk
      exact e4 hk (by omega) b' hb' ok
  | succ w ih =>
    intro b hb e3 e4
    refine ro_56 hX ?_
    refine am_run hX 1 _ _ _ _ ?_
    conv => whnf
    refine ⟨fun c => absurd c (nI_ge (by omega) (by omega)), fun _ => ?_⟩
    refine am_run hX 6 _ _ _ _ ?_
    conv => whnf
    refine am_cq (ct_rlR (d := d) (m := m) h g) ?_
    rintro r N' (⟨no, rfl, rfl⟩ | ⟨ok, rfl, f1, V, hV, h'⟩)
    · refine ⟨_, rfl, ?_⟩
      conv => whnf
      refine ⟨fun _ => ?_, fun c => absurd rfl c⟩
      refine am_run hX 2 _ _ _ _ ?_
      conv => whnf
      rw [nI_1]
      refine ih (b + 1) (by omega) (fun hk b' hb' => ?_) (fun hk _ b' _ ok => no (rl_q (by omega) ok))
      by_cases e : b' = b
      · rw [e]
        exact no
      · exact e3 hk b' (by omega)
    · refine ⟨_, rfl, ?_⟩
      conv => whnf
      refine ⟨fun c => absurd c (by decide), fun _ => ?_⟩
      refine am_run hX 2 _ _ _ _ ?_
      conv => whnf
      exact ⟨rfl, hP.2 N' V ⟨k, a, b, k1, k5, la, by omega, hV, e1, e2, e3⟩ f1 h'⟩
set_option maxRecDepth 100000 in
theorem ro_a {k : Nat} {Pp : am_Q} {X : am_X} (hX : am_K (d + 5) false nm_X12_reduceOnce Pp X) (h : rwR N inp W) (g : gdW m inp W) (k1 : 1 ≤ k) (k5 : k < 5) (hP : frM N m inp W Pp) (e1 : ∀ k' a' b', 1 ≤ k' → k' < k → a' < 60 → b' < 60 → ¬ okR inp W k' a' b') (hK : (∀ a' b', a' < 60 → b' < 60 → ¬ okR inp W k a' b') → ∀ l2 l3 l4, X 84 [some (aR 108), some (aI (nI k)), l2, l3, l4] [] N) : ∀ w a l3 l4, a + w = 60 → (∀ a' b', a' < a → b' < 60 → ¬ okR inp W k a' b') → X 9 [some (aR 108), some (aI (nI k)), some (aI (nI a)), l3, l4] [] N := by
  intro w
  induction w with
  | zero =>
    intro a l3 l4 ha e2
    have ha : a = 60 := by omega
    subst ha
    refine am_run hX 3 _ _ _ _ ?_
    conv => whnf
    exact ⟨fun _ => hK e2 _ _ _, fun c => absurd (by decide) c⟩
  | succ w ih =>
    intro a l3 l4 ha e2
    refine am_run hX 3 _ _ _ _ ?_
    conv => whnf
    refine ⟨fun c => absurd c (nI_ge (a := a) (b := 60) (by omega) (by decide)), fun _ => ?_⟩
    refine ro_t hX k1 k5 ?_
    have nx : (∀ b', b' < 60 → ¬ okR inp W k a b') → ∀ t l4, X 78 [some (aR 108), some (aI (nI k)), some (aI (nI a)), some (aI t), l4] [] N := fun hq t l4 => by
      refine am_run hX 2 _ _ _ _ ?_
      conv => whnf
      rw [nI_1]
      refine ih (a + 1) _ _ (by omega) fun a' b' ha' hb' => ?_
      by_cases e : a' = a
      · rw [e]
        exact hq b' hb'
      · exact e2 a' b' (by omega) hb'
    by_cases hk : k = 1 ∨ k = 4
    · have et : twK k = 1 := if_pos hk
      have eb : bdK k = 60 := if_pos hk
      have fin := ro_b (d := d) hX h g k1 k5 (by omega) hP e1 e2 nx (60 - (a + 1)) (a + 1) (by omega) (fun _ b' hb' ok => by
        by_cases h60 : b' < 60
        · have := (rl_in g k5 (by omega) h60 ok).2 hk
          omega
        · omega) (fun z => absurd hk z)
      rw [et] at fin ⊢
      refine am_run hX 2 _ _ _ _ ?_
      conv => whnf
      refine ⟨fun c => absurd c (by decide), fun _ => ?_⟩
      refine am_run hX 5 _ _ _ _ ?_
      conv => whnf
      rw [nI_1]
      exact fin
    · have et : twK k = 0 := if_neg hk
      have eb : bdK k = 1 := if_neg hk
      have fin := ro_b (d := d) hX h g k1 k5 (by omega) hP e1 e2 nx 1 0 (by omega) (fun z => absurd z hk) (fun _ z => by omega)
      rw [et] at fin ⊢
      refine am_run hX 2 _ _ _ _ ?_
      conv => whnf
      refine ⟨fun _ => ?_, fun c => absurd rfl c⟩
      refine am_run hX 2 _ _ _ _ ?_
      conv => whnf
      exact fin
set_option maxRecDepth 100000 in
theorem ro_k {Pp : am_Q} {X : am_X} (hX : am_K (d + 5) false nm_X12_reduceOnce Pp X) (h : rwR N inp W) (g : gdW m inp W) (hP : frM N m inp W Pp) : ∀ w k l2 l3 l4, k + w = 5 → 1 ≤ k → (∀ k' a' b', 1 ≤ k' → k' < k → a' < 60 → b' < 60 → ¬ okR inp W k' a' b') → X 2 [some (aR 108), some (aI (nI k)), l2, l3, l4] [] N := by
  intro w
  induction w with
  | zero =>
    intro k l2 l3 l4 hk k1 e1
    have hk : k = 5 := by omega
    subst hk
    refine am_run hX 5 _ _ _ _ ?_
    conv => whnf
    refine ⟨fun _ => ?_, fun c => absurd (by decide) c⟩
    conv => whnf
    exact ⟨rfl, hP.1 fun k a b k1 k5 a1 b1 => e1 k a b k1 k5 a1 b1⟩
  | succ w ih =>
    intro k l2 l3 l4 hk k1 e1
    refine am_run hX 3 _ _ _ _ ?_
    conv => whnf
    refine ⟨fun c => absurd c (nI_nlt (a := 4) (b := k) (by omega) (by decide)), fun _ => ?_⟩
    refine am_run hX 2 _ _ _ _ ?_
    conv => whnf
    refine ro_a (d := d) hX h g k1 (by omega) hP e1 (fun hq l2 l3 l4 => ?_) 60 0 _ _ (by omega) (fun a' b' ha' => absurd ha' (Nat.not_lt_zero _))
    refine am_run hX 2 _ _ _ _ ?_
    conv => whnf
    rw [nI_1]
    refine ih (k + 1) _ _ _ (by omega) (by omega) fun k' a' b' h1 h2 h3 h4 => ?_
    by_cases e : k' = k
    · rw [e]
      exact hq a' b' h3 h4
    · exact e1 k' a' b' h1 (by omega) h3 h4
set_option maxRecDepth 100000 in
theorem ct_dfR (h : rwR N inp W) (g : gdW m inp W) : am_M (d + 6) false nm_X12_reduceOnce [aR 108] N (fun r N' => (noW inp W ∧ r = .inl (some (aI 0)) ∧ N' = N) ∨ (∃ V, frR inp m W V ∧ r = .inl (some (aI 1)) ∧ rwF N N' ∧ rwR N' inp V)) := by
  refine ⟨rfl, rfl, rfl, fun X hX => am_run hX 2 _ _ _ _ ?_⟩
  conv => whnf
  exact ro_k (d := d) (m := m) hX h g ⟨fun hn => Or.inl ⟨hn, rfl, rfl⟩, fun N' V hV f1 h' => Or.inr ⟨V, hV, rfl, f1, h'⟩⟩ 4 1 _ _ _ (by omega) (by omega) (fun k' a' b' h1 h2 => by omega)
end ONC
