/-! a circuit backwards: inverse, putInverse -/
def ikN (k : Nat) : Nat := if k = 4 then 6 else if k = 5 then 7 else if k = 6 then 4 else if k = 7 then 5 else k
def ivX (x : bk_X) : bk_X := (ikN x.1, x.2)
theorem ik_16 : ∀ k, k ≤ 10 → ikN k ≤ 10 := by decide
theorem w_iv {W : Nat} {x : bk_X} (h : bk_w W x) : bk_w W (ivX x) := ⟨ik_16 _ h.1, h.2⟩
section INV
variable {d : Nat} {M : mm_M}
set_option maxRecDepth 100000 in
theorem ct_ik {k : Nat} (hk : k ≤ 10) : am_M (d + 1) false nm_X0_inverseKind [aI (nI k)] M (am_q1 (aI (nI (ikN k))) M) := by
  rcases (by omega : k = 0 ∨ k = 1 ∨ k = 2 ∨ k = 3 ∨ k = 4 ∨ k = 5 ∨ k = 6 ∨ k = 7 ∨ k = 8 ∨ k = 9 ∨ k = 10) with rfl | rfl | rfl | rfl | rfl | rfl | rfl | rfl | rfl | rfl | rfl
  all_goals
    refine ⟨rfl, rfl, rfl, fun X hX => am_run hX 10 _ _ _ _ ?_⟩
    conv => whnf
    repeat first
      | (refine ⟨fun e => absurd e (by decide), fun _ => ?_⟩; conv => whnf)
      | (refine ⟨fun _ => ?_, fun e => absurd (by decide) e⟩; conv => whnf)
    exact ⟨trivial, rfl, rfl⟩
set_option maxRecDepth 100000 in
theorem ct_bo {k : Nat} (hk : k ≤ 10) : am_M (d + 1) false nm_X12_backOf [aI (nI k)] M (am_q1 (aI (nI (ikN k))) M) := by
  rcases (by omega : k = 0 ∨ k = 1 ∨ k = 2 ∨ k = 3 ∨ k = 4 ∨ k = 5 ∨ k = 6 ∨ k = 7 ∨ k = 8 ∨ k = 9 ∨ k = 10) with rfl | rfl | rfl | rfl | rfl | rfl | rfl | rfl | rfl | rfl | rfl
  all_goals
    refine ⟨rfl, rfl, rfl, fun X hX => am_run hX 20 _ _ _ _ ?_⟩
    conv => whnf
    repeat first
      | (refine ⟨fun e => absurd e (by decide), fun _ => ?_⟩; conv => whnf)
      | (refine ⟨fun _ => ?_, fun e => absurd (by decide) e⟩; conv => whnf)
    exact ⟨trivial, rfl, rfl⟩
theorem iv_p {W : Nat} {x : bk_X} (hW : W ≤ 8) (h : bk_w W x) : nI (bk_p x) &&& -16 ||| nI (ikN x.1) = nI (bk_p (ivX x)) := by
  have i16 := ik_16 _ h.1
  have e : bk_p x = x.1 + 16 * (bk_p x / 16) := by
    have := (bk_d hW h).1
    omega
  have q : nI (bk_p x) &&& -16 = nI (16 * (bk_p x / 16)) := by
    have a := nI_andn (bk_p x) 15
    rw [show nI 15 ^^^ -1 = (-16 : Int32) from by decide] at a
    rw [a, show (15 : Nat) = 2 ^ 4 - 1 from rfl, Nat.and_two_pow_sub_one_eq_mod]
    congr 1
    have s : bk_p x ^^^ (bk_p x % 2 ^ 4) = 16 * (bk_p x / 16) := by
      have e1 : bk_p x = 2 ^ 4 * (bk_p x / 16) + bk_p x % 16 := by omega
      apply Nat.eq_of_testBit_eq
      intro t
      rw [Nat.testBit_xor, Nat.testBit_mod_two_pow, show 16 * (bk_p x / 16) = 2 ^ 4 * (bk_p x / 2 ^ 4) from rfl, Nat.testBit_two_pow_mul, Nat.testBit_div_two_pow]
      by_cases c : t < 4
      · simp [c, show ¬ 4 ≤ t by omega]
      · simp [c, show 4 ≤ t by omega, show t - 4 + 4 = t by omega]
    exact s
  rw [q, nI_or, Nat.or_comm, show 16 * (bk_p x / 16) = (bk_p x / 16) * 2 ^ 4 by omega, or_sh (by show _ < 16; omega)]
  congr 1
  have e2 : bk_p (ivX x) = ikN x.1 + (bk_p x - x.1) := by
    show ikN x.1 + 16 * x.2.1 + 128 * x.2.2.1 + 1024 * x.2.2.2.1 + 262144 * x.2.2.2.2.1 + 4194304 * x.2.2.2.2.2 = ikN x.1 + (x.1 + 16 * x.2.1 + 128 * x.2.2.1 + 1024 * x.2.2.2.1 + 262144 * x.2.2.2.2.1 + 4194304 * x.2.2.2.2.2 - x.1)
    omega
  rw [e2]
  omega
set_option maxRecDepth 100000 in
theorem ct_iv {W : Nat} {x : bk_X} (hW : W ≤ 8) (h : bk_w W x) : am_M (d + 2) false nm_X0_inverse [aI (nI (bk_p x))] M (am_q1 (aI (nI (bk_p (ivX x)))) M) := by
  refine ⟨rfl, rfl, rfl, fun X hX => am_run hX 20 _ _ _ _ ?_⟩
  conv => whnf
  refine am_c1 ct_kind ?_
  rw [bk_k hW h]
  conv => whnf
  refine am_c1 (ct_ik h.1) ?_
  conv => whnf
  rw [iv_p hW h]
  exact ⟨trivial, rfl, rfl⟩
end INV
