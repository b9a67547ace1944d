/-! THE REFERENCE'S lowest, goThrough -/
theorem lw_r : ∀ S, S < 256 → 0 < S → lw S < 8 ∧ S.testBit (lw S) = true ∧ ∀ k, k < 8 → k < lw S → S.testBit k = false := by decide +kernel
def fk0 (k a b : Nat) (y : PZ) : PZ := if k = 3 then fH a y else if k = 4 then fS a y else if k = 6 then fS a y else if k = 8 then fW a b y else y
def fk1 (k c a : Nat) (y : PZ) : PZ := if k = 0 then fC c a y else if k = 1 then fS a (fC c a (fS a y)) else fH a (fC c a (fH a y))
section GOT
variable {d : Nat} {M : mm_M}
set_option maxRecDepth 100000 in
theorem rlw_l {P : am_Q} {X : am_X} {S L : Nat} (hX : am_K d false nm_X12_lowest P X) (hS : S < 256) (l8 : L < 8) (lt : S.testBit L = true) (ll : ∀ k, k < 8 → k < L → S.testBit k = false) (hP : P (.inl (some (aI (nI L)))) M) : ∀ m k, k + m = L → X 2 [some (aI (nI S)), some (aI (nI k))] [] M := by
  intro m
  induction m with
  | zero =>
    intro k hk
    have hk : k = L := by omega
    subst hk
    refine am_run hX 12 _ _ _ _ ?_
    conv => whnf
    rw [nI_sh (by omega) _ (by omega), nI_m1, show S / 2 ^ k % 2 = 1 from by have := bt_t S k; rw [lt] at this; exact this]
    refine ⟨fun _ => ?_, fun c => absurd (by decide) c⟩
    conv => whnf
    exact ⟨trivial, hP⟩
  | succ m ih =>
    intro k hk
    have ih := ih (k + 1) (by omega)
    refine am_run hX 8 _ _ _ _ ?_
    conv => whnf
    rw [nI_sh (by omega) _ (by omega), nI_m1, show S / 2 ^ k % 2 = 0 from by have := bt_t S k; rw [ll k (by omega) (by omega)] at this; exact this]
    refine ⟨fun c => absurd rfl c, fun _ => ?_⟩
    conv => whnf
    rw [nI_1]
    exact ih
set_option maxRecDepth 100000 in
theorem ct_rlow {S : Nat} (hS : S < 256) (h0 : 0 < S) : am_M (d + 1) false nm_X12_lowest [aI (nI S)] M (am_q1 (aI (nI (lw S))) M) := by
  refine ⟨rfl, rfl, rfl, fun X hX => am_run hX 2 _ _ _ _ ?_⟩
  conv => whnf
  obtain ⟨l8, lt, ll⟩ := lw_r S hS h0
  exact rlw_l hX hS l8 lt ll ⟨rfl, rfl⟩ _ 0 (Nat.zero_add _)
set_option maxRecDepth 100000 in
theorem ct_go0 {y : PZ} {s : Int32} {k a b : Nat} (hk : k ≤ 4 ∨ k = 6 ∨ k = 8) (hy : p8 y) (ha : a < 8) (hb : b < 8) : am_M (d + 3) false nm_X12_goThrough [aR 108, aI (nI k), aI (nI a), aI (nI b), aI (nI 0)] (rG M y s) (fun r M' => r = .inl none ∧ ∃ s', M' = rG M (fk0 k a b y) s') := by
  refine ⟨rfl, rfl, rfl, fun X hX => am_run hX 40 _ _ _ _ ?_⟩
  rcases (by omega : k = 0 ∨ k = 1 ∨ k = 2 ∨ k = 3 ∨ k = 4 ∨ k = 6 ∨ k = 8) with rfl | rfl | rfl | rfl | rfl | rfl | rfl
  · conv => whnf
    refine ⟨fun c => absurd rfl c, fun _ => ?_⟩
    conv => whnf
    refine ⟨fun _ => ?_, fun c => absurd rfl c⟩
    conv => whnf
    refine am_c1 (ct_hasZ (d := d + 1) hy ha) ?_
    conv => whnf
    refine am_c0 (ct_signIf (d := d + 1) _) ?_
    conv => whnf
    exact ⟨trivial, rfl, _, rfl⟩
  · conv => whnf
    refine ⟨fun c => absurd rfl c, fun _ => ?_⟩
    conv => whnf
    refine ⟨fun c => absurd c (by decide), fun _ => ?_⟩
    refine ⟨fun _ => ?_, fun c => absurd rfl c⟩
    conv => whnf
    refine am_c1 (ct_hasX (d := d + 1) hy ha) ?_
    conv => whnf
    refine am_c1 (ct_hasZ (d := d + 1) hy ha) ?_
    conv => whnf
    refine ⟨fun _ => ?_, fun _ => ?_⟩
    · conv => whnf
      refine am_c0 (ct_signIf (d := d + 1) false) ?_
      conv => whnf
      exact ⟨trivial, rfl, _, rfl⟩
    · conv => whnf
      refine am_c0 (ct_signIf (d := d + 1) true) ?_
      conv => whnf
      exact ⟨trivial, rfl, _, rfl⟩
  · conv => whnf
    refine ⟨fun c => absurd rfl c, fun _ => ?_⟩
    conv => whnf
    refine ⟨fun c => absurd c (by decide), fun _ => ?_⟩
    refine ⟨fun c => absurd c (by decide), fun _ => ?_⟩
    refine ⟨fun _ => ?_, fun c => absurd rfl c⟩
    conv => whnf
    refine am_c1 (ct_hasX (d := d + 1) hy ha) ?_
    conv => whnf
    refine am_c0 (ct_signIf (d := d + 1) _) ?_
    conv => whnf
    exact ⟨trivial, rfl, _, rfl⟩
  · conv => whnf
    refine ⟨fun c => absurd rfl c, fun _ => ?_⟩
    conv => whnf
    refine ⟨fun c => absurd c (by decide), fun _ => ?_⟩
    refine ⟨fun c => absurd c (by decide), fun _ => ?_⟩
    refine ⟨fun c => absurd c (by decide), fun _ => ?_⟩
    refine ⟨fun _ => ?_, fun c => absurd rfl c⟩
    conv => whnf
    refine am_cq (ct_goH (d := d) hy ha) ?_
    rintro r M' ⟨rfl, s', rfl⟩
    refine ⟨none, rfl, ?_⟩
    conv => whnf
    exact ⟨trivial, rfl, s', rfl⟩
  · conv => whnf
    refine ⟨fun c => absurd rfl c, fun _ => ?_⟩
    conv => whnf
    refine ⟨fun c => absurd c (by decide), fun _ => ?_⟩
    refine ⟨fun c => absurd c (by decide), fun _ => ?_⟩
    refine ⟨fun c => absurd c (by decide), fun _ => ?_⟩
    refine ⟨fun c => absurd c (by decide), fun _ => ?_⟩
    refine ⟨fun _ => ?_, fun c => absurd rfl c⟩
    conv => whnf
    refine am_cq (ct_goS (d := d) hy ha false) ?_
    rintro r M' ⟨rfl, s', rfl⟩
    refine ⟨none, rfl, ?_⟩
    conv => whnf
    exact ⟨trivial, rfl, s', rfl⟩
  · conv => whnf
    refine ⟨fun c => absurd rfl c, fun _ => ?_⟩
    conv => whnf
    refine ⟨fun c => absurd c (by decide), fun _ => ?_⟩
    refine ⟨fun c => absurd c (by decide), fun _ => ?_⟩
    refine ⟨fun c => absurd c (by decide), fun _ => ?_⟩
    refine ⟨fun c => absurd c (by decide), fun _ => ?_⟩
    refine ⟨fun c => absurd c (by decide), fun _ => ?_⟩
    refine ⟨fun c => absurd c (by decide), fun _ => ?_⟩
    refine ⟨fun _ => ?_, fun c => absurd rfl c⟩
    conv => whnf
    refine am_cq (ct_goS (d := d) hy ha true) ?_
    rintro r M' ⟨rfl, s', rfl⟩
    refine ⟨none, rfl, ?_⟩
    conv => whnf
    exact ⟨trivial, rfl, s', rfl⟩
  · conv => whnf
    refine ⟨fun c => absurd rfl c, fun _ => ?_⟩
    conv => whnf
    refine ⟨fun c => absurd c (by decide), fun _ => ?_⟩
    refine ⟨fun c => absurd c (by decide), fun _ => ?_⟩
    refine ⟨fun c => absurd c (by decide), fun _ => ?_⟩
    refine ⟨fun c => absurd c (by decide), fun _ => ?_⟩
    refine ⟨fun c => absurd c (by decide), fun _ => ?_⟩
    refine ⟨fun c => absurd c (by decide), fun _ => ?_⟩
    refine ⟨fun c => absurd c (by decide), fun _ => ?_⟩
    conv => whnf
    refine am_cq (ct_goW (d := d) hy ha hb) ?_
    rintro r M' ⟨rfl, s', rfl⟩
    refine ⟨none, rfl, ?_⟩
    conv => whnf
    exact ⟨trivial, rfl, s', rfl⟩
set_option maxRecDepth 100000 in
theorem ct_go1 {y : PZ} {s : Int32} {k a b S : Nat} (hk : k ≤ 2) (hy : p8 y) (ha : a < 8) (hS : S < 256) (h0 : 0 < S) (hne : lw S ≠ a) : am_M (d + 3) false nm_X12_goThrough [aR 108, aI (nI k), aI (nI a), aI (nI b), aI (nI S)] (rG M y s) (fun r M' => r = .inl none ∧ ∃ s', M' = rG M (fk1 k (lw S) a y) s') := by
  have l8 := (lw_r S hS h0).1
  refine ⟨rfl, rfl, rfl, fun X hX => am_run hX 60 _ _ _ _ ?_⟩
  conv => whnf
  refine ⟨fun _ => ?_, fun c => absurd (nI_ne0 h0 (by omega)) c⟩
  conv => whnf
  refine am_c1 (ct_rlow (d := d + 1) hS h0) ?_
  rcases (by omega : k = 0 ∨ k = 1 ∨ k = 2) with rfl | rfl | rfl
  · conv => whnf
    refine ⟨fun _ => ?_, fun c => absurd (by decide) c⟩
    conv => whnf
    refine ⟨fun _ => ?_, fun c => absurd (by decide) c⟩
    conv => whnf
    refine am_cq (ct_goC (d := d) hy l8 ha hne) ?_
    rintro r M' ⟨rfl, s', rfl⟩
    refine ⟨none, rfl, ?_⟩
    conv => whnf
    refine ⟨fun _ => ?_, fun c => absurd (by decide) c⟩
    conv => whnf
    refine ⟨fun _ => ?_, fun c => absurd (by decide) c⟩
    conv => whnf
    exact ⟨trivial, rfl, s', rfl⟩
  · conv => whnf
    refine ⟨fun c => absurd rfl c, fun _ => ?_⟩
    conv => whnf
    refine am_cq (ct_goS (d := d) hy ha true) ?_
    rintro r M' ⟨rfl, s', rfl⟩
    refine ⟨none, rfl, ?_⟩
    conv => whnf
    refine ⟨fun _ => ?_, fun c => absurd (by decide) c⟩
    conv => whnf
    refine am_cq (ct_goC (d := d) (p8_S ha hy) l8 ha hne) ?_
    rintro r M' ⟨rfl, s', rfl⟩
    refine ⟨none, rfl, ?_⟩
    conv => whnf
    refine ⟨fun _ => ?_, fun c => absurd (by decide) c⟩
    conv => whnf
    refine ⟨fun c => absurd rfl c, fun _ => ?_⟩
    conv => whnf
    refine am_cq (ct_goS (d := d) (p8_C l8 ha (p8_S ha hy)) ha false) ?_
    rintro r M' ⟨rfl, s', rfl⟩
    refine ⟨none, rfl, ?_⟩
    conv => whnf
    exact ⟨trivial, rfl, s', rfl⟩
  · conv => whnf
    refine ⟨fun _ => ?_, fun c => absurd (by decide) c⟩
    conv => whnf
    refine ⟨fun c => absurd rfl c, fun _ => ?_⟩
    conv => whnf
    refine am_cq (ct_goH (d := d) hy ha) ?_
    rintro r M' ⟨rfl, s', rfl⟩
    refine ⟨none, rfl, ?_⟩
    conv => whnf
    refine am_cq (ct_goC (d := d) (p8_H ha hy) l8 ha hne) ?_
    rintro r M' ⟨rfl, s', rfl⟩
    refine ⟨none, rfl, ?_⟩
    conv => whnf
    refine ⟨fun c => absurd rfl c, fun _ => ?_⟩
    conv => whnf
    refine am_cq (ct_goH (d := d) (p8_C l8 ha (p8_H ha hy)) ha) ?_
    rintro r M' ⟨rfl, s', rfl⟩
    refine ⟨none, rfl, ?_⟩
    conv => whnf
    refine ⟨fun _ => ?_, fun c => absurd (by decide) c⟩
    conv => whnf
    exact ⟨trivial, rfl, s', rfl⟩
end GOT
