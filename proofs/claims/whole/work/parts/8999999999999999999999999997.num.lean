/-! code: the NUMBER of a PAULI at the reference -/
def dgQ (a b : Nat) : Nat := if a = 1 then (if b = 1 then 2 else 1) else (if b = 1 then 3 else 0)
def nuF (x z : Nat) : Nat → Nat
  | 0 => 0
  | i + 1 => 4 * nuF x z i + dgQ (x / 2 ^ i % 2) (z / 2 ^ i % 2)
theorem dgQ_l (a b : Nat) : dgQ a b < 4 := by unfold dgQ; split <;> split <;> decide
theorem nuF_l (x z : Nat) : ∀ i, nuF x z i < 4 ^ i
  | 0 => by show 0 < 1; decide
  | i + 1 => by
    have h1 := nuF_l x z i
    have h2 := dgQ_l (x / 2 ^ i % 2) (z / 2 ^ i % 2)
    show 4 * nuF x z i + _ < 4 ^ (i + 1)
    rw [Nat.pow_succ]
    omega
section NUM
variable {d : Nat} {M : mm_M}
set_option maxRecDepth 100000 in
theorem nu_l {P : am_Q} {X : am_X} {n x z : Nat} (hX : am_K d false nm_X12_numberOf P X) (n8 : n ≤ 8) (h110 : M.1 108 110 = nI n) (hx : x < 256) (hz : z < 256) (hP : P (.inl (some (aI (nI (nuF x z n))))) M) : ∀ (m i : Nat) (l5 l6 : Option am_V), i + m = n → (∀ v, l5 = some v → ∃ w, v = aI w) → X 5 [some (aR 108), some (aI (nI x)), some (aI (nI z)), some (aI (nI (nuF x z i))), some (aI (nI i)), l5, l6] [] M := by
  intro m
  induction m with
  | zero =>
    intro i l5 l6 ei _
    obtain rfl : i = n := by omega
    refine am_run hX 6 _ _ _ _ ?_
    conv => whnf
    rw [h110]
    refine ⟨fun _ => ?_, fun c => absurd (nI_le (Nat.le_refl _) (by omega)) c⟩
    conv => whnf
    exact ⟨trivial, hP⟩
  | succ m ih =>
    intro i l5 l6 ei hl5
    have ih := fun a b => ih (i + 1) (some (aI (nI a))) (some (aI (nI b))) (by omega) (fun v e => ⟨_, (Option.some.inj e).symm⟩)
    have hend : ∀ (a b k : Nat), k = dgQ (x / 2 ^ i % 2) (z / 2 ^ i % 2) → X 64 [some (aR 108), some (aI (nI x)), some (aI (nI z)), some (aI (nI (nuF x z i))), some (aI (nI i)), some (aI (nI a)), some (aI (nI b))] [aI (nI k), aI (nI (4 * nuF x z i))] M := by
      intro a b k hk
      refine am_run hX 4 _ _ _ _ ?_
      conv => whnf
      rw [nI_add, nI_1, hk]
      exact ih a b
    refine am_run hX 22 _ _ _ _ ?_
    conv => whnf
    rw [h110]
    refine ⟨fun c => absurd c (nI_ge (by omega) (by omega)), fun _ => ?_⟩
    conv => whnf
    rw [nI_sh (by omega) i (by omega), nI_m1, nI_sh (by omega) i (by omega), nI_m1, show (4 : Int32) * nI (nuF x z i) = nI (4 * nuF x z i) from by rw [show (4 : Int32) = nI 4 from rfl, nI_mul]]
    rcases Nat.mod_two_eq_zero_or_one (x / 2 ^ i) with ea | ea <;> rcases Nat.mod_two_eq_zero_or_one (z / 2 ^ i) with eb | eb <;> rw [ea, eb] at hend ⊢
    · refine ⟨fun _ => ?_, fun c => absurd (by decide) c⟩
      refine am_run hX 3 _ _ _ _ ?_
      conv => whnf
      refine ⟨fun _ => ?_, fun c => absurd (by decide) c⟩
      refine am_run hX 1 _ _ _ _ ?_
      conv => whnf
      exact hend 0 0 0 rfl
    · refine ⟨fun _ => ?_, fun c => absurd (by decide) c⟩
      refine am_run hX 3 _ _ _ _ ?_
      conv => whnf
      refine ⟨fun c => absurd rfl c, fun _ => ?_⟩
      refine am_run hX 2 _ _ _ _ ?_
      conv => whnf
      exact hend 0 1 3 rfl
    · refine ⟨fun c => absurd rfl c, fun _ => ?_⟩
      refine am_run hX 3 _ _ _ _ ?_
      conv => whnf
      refine ⟨fun _ => ?_, fun c => absurd (by decide) c⟩
      refine am_run hX 2 _ _ _ _ ?_
      conv => whnf
      exact hend 1 0 1 rfl
    · refine ⟨fun c => absurd rfl c, fun _ => ?_⟩
      refine am_run hX 3 _ _ _ _ ?_
      conv => whnf
      refine ⟨fun c => absurd rfl c, fun _ => ?_⟩
      refine am_run hX 2 _ _ _ _ ?_
      conv => whnf
      exact hend 1 1 2 rfl
set_option maxRecDepth 100000 in
theorem ct_numO {n x z : Nat} (n8 : n ≤ 8) (h110 : M.1 108 110 = nI n) (hx : x < 256) (hz : z < 256) : am_M (d + 1) false nm_X12_numberOf [aR 108, aI (nI x), aI (nI z)] M (am_q1 (aI (nI (nuF x z n))) M) := by
  refine ⟨rfl, rfl, rfl, fun X hX => am_run hX 4 _ _ _ _ ?_⟩
  conv => whnf
  exact nu_l (d := d) hX n8 h110 hx hz ⟨rfl, rfl⟩ n 0 none none (by omega) (fun v e => by cases e)
end NUM
/-- a NUMBER's digits -/
theorem nuF_d {x z : Nat} : ∀ {n j : Nat}, j < n → nuF x z n / 4 ^ (n - 1 - j) % 4 = dgQ (x / 2 ^ j % 2) (z / 2 ^ j % 2)
  | 0, j, h => absurd h (Nat.not_lt_zero _)
  | n + 1, j, h => by
    have hd := dgQ_l (x / 2 ^ n % 2) (z / 2 ^ n % 2)
    show (4 * nuF x z n + dgQ (x / 2 ^ n % 2) (z / 2 ^ n % 2)) / 4 ^ (n + 1 - 1 - j) % 4 = _
    by_cases e : j = n
    · subst e
      rw [show j + 1 - 1 - j = 0 by omega, Nat.pow_zero, Nat.div_one]
      omega
    · have ih := nuF_d (x := x) (z := z) (n := n) (j := j) (by omega)
      rw [show n + 1 - 1 - j = (n - 1 - j) + 1 by omega, Nat.pow_succ, Nat.mul_comm (4 ^ (n - 1 - j)) 4, ← Nat.div_div_eq_div_mul, show (4 * nuF x z n + dgQ (x / 2 ^ n % 2) (z / 2 ^ n % 2)) / 4 = nuF x z n by omega]
      exact ih
/-- the vector of the NUMBER of a vector -/
theorem nuF_v {h : Nat → Nat} {c : Nat → Nat → Nat} {x z n y : Nat} (hh : ∀ k, h k ≤ 1) (hn : n ≤ 8) (hy : y < 2 ^ n) (hc : ∀ j, h (dgQ (x / 2 ^ j % 2) (z / 2 ^ j % 2)) = 1 ↔ y.testBit j = true) : vcW h n (nuF x z n) = y := by
  apply Nat.eq_of_testBit_eq
  intro j
  apply Bool.eq_iff_iff.mpr
  rw [vcW_t hh hn]
  constructor
  · rintro ⟨hj, e⟩
    rw [nuF_d hj] at e
    exact (hc j).mp e
  · intro e
    have hj : j < n := by
      rcases Nat.lt_or_ge j n with q | q
      · exact q
      · rw [Nat.testBit_lt_two_pow (Nat.lt_of_lt_of_le hy (Nat.pow_le_pow_right (by decide) q))] at e
        cases e
    refine ⟨hj, ?_⟩
    rw [nuF_d hj]
    exact (hc j).mpr e
