/-! numbers; the bank: its circuits as class and reference keep them -/
theorem nI_and (a b : Nat) : nI a &&& nI b = nI (a &&& b) := by
  apply Int32.toBitVec_inj.mp
  simp [nI]
theorem nI_mul (a b : Nat) : nI a * nI b = nI (a * b) := (Int32.ofNat_mul a b).symm
theorem nI_m15 (n : Nat) : nI n &&& 15 = nI (n % 16) := by
  rw [show (15 : Int32) = nI 15 from rfl, nI_and, show (15 : Nat) = 2 ^ 4 - 1 from rfl, Nat.and_two_pow_sub_one_eq_mod]
theorem nI_m7 (n : Nat) : nI n &&& 7 = nI (n % 8) := by
  rw [show (7 : Int32) = nI 7 from rfl, nI_and, show (7 : Nat) = 2 ^ 3 - 1 from rfl, Nat.and_two_pow_sub_one_eq_mod]
theorem nI_m255 (n : Nat) : nI n &&& 255 = nI (n % 256) := by
  rw [show (255 : Int32) = nI 255 from rfl, nI_and, show (255 : Nat) = 2 ^ 8 - 1 from rfl, Nat.and_two_pow_sub_one_eq_mod]
theorem nI_m1 (n : Nat) : nI n &&& 1 = nI (n % 2) := by
  rw [show (1 : Int32) = nI 1 from rfl, nI_and, show (1 : Nat) = 2 ^ 1 - 1 from rfl, Nat.and_two_pow_sub_one_eq_mod]
theorem nI_sh {n : Nat} (h : n < 2 ^ 31) (k : Nat) (hk : k < 32) : nI n >>> (nI k &&& 31) = nI (n / 2 ^ k) := pk_shrN h _ k (by
  have : ∀ k, k < 32 → ((nI k &&& 31).toBitVec.smod 32).toNat = k := by decide +kernel
  exact this k hk)
/-- an OP's six numbers -/
abbrev bk_X : Type := Nat × Nat × Nat × Nat × Nat × Nat
def bk_p (x : bk_X) : Nat := x.1 + 16 * x.2.1 + 128 * x.2.2.1 + 1024 * x.2.2.2.1 + 262144 * x.2.2.2.2.1 + 4194304 * x.2.2.2.2.2
/-- an OP that can be, of so many WIRES -/
def bk_w (W : Nat) (x : bk_X) : Prop := x.1 ≤ 10 ∧ x.2.1 < W ∧ x.2.2.1 < 8 ∧ x.2.2.2.1 < 2 ^ W ∧ x.2.2.2.2.1 < 16 ∧ x.2.2.2.2.2 < 16
/-- an OP, packed, and as the reference keeps it -/
def bk_o (M : mm_M) (a : Nat) (x : bk_X) : Prop := M.1 10 a = nI (bk_p x) ∧ M.1 112 a = nI x.1 ∧ M.1 113 a = nI x.2.1 ∧ M.1 114 a = nI x.2.2.1 ∧ M.1 115 a = nI x.2.2.2.1 ∧ M.1 116 a = nI x.2.2.2.2.1 ∧ M.1 117 a = nI x.2.2.2.2.2
def bk_c (M : mm_M) (i W S : Nat) : Prop := 1 ≤ W ∧ W ≤ 8 ∧ S ≤ 300 ∧ M.1 12 i = nI W ∧ M.1 110 i = nI W ∧ M.1 11 i = nI S ∧ M.1 111 i = nI S ∧ ∀ j, j < S → ∃ x, bk_w W x ∧ bk_o M (300 * i + j) x
def bk_iv (M : mm_M) (n : Nat) : Prop := n ≤ 20 ∧ M.1 9 7 = nI n ∧ M.1 108 6 = nI n ∧ ∀ i, i < n → ∃ W S, bk_c M i W S
theorem bk_lt {W : Nat} {x : bk_X} (hW : W ≤ 8) (h : bk_w W x) : bk_p x < 67108864 := by
  obtain ⟨h1, h2, h3, h4, h5, h6⟩ := h
  have : 2 ^ W ≤ 2 ^ 8 := Nat.pow_le_pow_right (by decide) hW
  unfold bk_p
  omega
section BK
variable {d : Nat} {M : mm_M}
set_option maxRecDepth 100000 in
theorem bk_has (p : Int32) : am_M (d + 1) false nm_X0_has [aR 9, aI p] M (am_q1 (aI (if p < 0 ∨ M.1 9 7 ≤ p then 0 else 1)) M) := by
  refine ⟨rfl, rfl, rfl, fun X hX => am_run hX 50 _ _ _ _ ?_⟩
  conv => whnf
  refine ⟨fun c => ?_, fun c => ?_⟩
  · conv => whnf
    exact ⟨rfl, by rw [if_pos (Or.inl c)], rfl⟩
  · conv => whnf
    refine ⟨fun c2 => ?_, fun c2 => ?_⟩
    · conv => whnf
      exact ⟨rfl, by rw [if_pos (Or.inr c2)], rfl⟩
    · conv => whnf
      exact ⟨rfl, by rw [if_neg (fun q => q.elim c c2)], rfl⟩
set_option maxRecDepth 100000 in
theorem bk_isc (p : Int32) : am_M (d + 1) false nm_X12_isCircuit [aR 108, aI p] M (am_q1 (aI (if p < 0 ∨ M.1 108 6 ≤ p then 0 else 1)) M) := by
  refine ⟨rfl, rfl, rfl, fun X hX => am_run hX 50 _ _ _ _ ?_⟩
  conv => whnf
  refine ⟨fun c => ?_, fun c => ?_⟩
  · conv => whnf
    exact ⟨rfl, by rw [if_pos (Or.inl c)], rfl⟩
  · conv => whnf
    refine ⟨fun c2 => ?_, fun c2 => ?_⟩
    · conv => whnf
      exact ⟨rfl, by rw [if_pos (Or.inr c2)], rfl⟩
    · conv => whnf
      exact ⟨rfl, by rw [if_neg (fun q => q.elim c c2)], rfl⟩
/-- what is no circuit's number -/
theorem bk_no {n : Nat} {p : Int32} (hn : n ≤ 20) : (p < 0 ∨ nI n ≤ p) ∨ ∃ c, c < n ∧ p = nI c := by
  by_cases h : p < 0
  · exact Or.inl (Or.inl h)
  · obtain ⟨c, hc, rfl⟩ := nI_of h
    by_cases h2 : c < n
    · exact Or.inr ⟨c, h2, rfl⟩
    · exact Or.inl (Or.inr (nI_le (by omega) hc))
theorem bk_yes {n c : Nat} (hn : n ≤ 20) (hc : c < n) : ¬ (nI c < 0 ∨ nI n ≤ nI c) := by
  rintro (h | h)
  · exact nI_pos (by omega) h
  · exact nI_ge hc (by omega) h
set_option maxRecDepth 100000 in
theorem bk_ho1 {n c S W j : Nat} (h : bk_iv M n) (hc : c < n) (hS : bk_c M c W S) (hj : j < S) : am_M (d + 2) false nm_X0_hasOp [aR 9, aI (nI c), aI (nI j)] M (am_q1 (aI 1) M) := by
  refine ⟨rfl, rfl, rfl, fun X hX => am_run hX 50 _ _ _ _ ?_⟩
  conv => whnf
  refine am_c1 (bk_has (nI c)) ?_
  rw [h.2.1, if_neg (bk_yes h.1 hc)]
  conv => whnf
  refine ⟨fun c => absurd c (by decide), fun _ => ?_⟩
  conv => whnf
  refine ⟨fun c => absurd c (nI_pos (by have := hS.2.2.1; omega)), fun _ => ?_⟩
  conv => whnf
  refine ⟨vp_in_nI (by have := h.1; show c < 20; omega) (by decide), ?_⟩
  conv => whnf
  rw [nI_clamp (by have := h.1; omega), hS.2.2.2.2.2.1]
  refine ⟨fun c => absurd c (nI_ge hj (by have := hS.2.2.1; omega)), fun _ => ?_⟩
  conv => whnf
  exact ⟨rfl, rfl, rfl⟩
set_option maxRecDepth 100000 in
theorem bk_ho0 {n : Nat} {p q : Int32} (h : bk_iv M n) (hp : (p < 0 ∨ nI n ≤ p) ∨ ∃ c W S, c < n ∧ p = nI c ∧ bk_c M c W S ∧ (q < 0 ∨ nI S ≤ q)) : am_M (d + 2) false nm_X0_hasOp [aR 9, aI p, aI q] M (am_q1 (aI 0) M) := by
  refine ⟨rfl, rfl, rfl, fun X hX => am_run hX 50 _ _ _ _ ?_⟩
  conv => whnf
  refine am_c1 (bk_has p) ?_
  rw [h.2.1]
  rcases hp with hp | ⟨c, W, S, hc, rfl, hS, hq⟩
  · rw [if_pos hp]
    conv => whnf
    refine ⟨fun _ => ?_, fun c => absurd rfl c⟩
    conv => whnf
    exact ⟨rfl, rfl, rfl⟩
  · rw [if_neg (bk_yes h.1 hc)]
    conv => whnf
    refine ⟨fun c => absurd c (by decide), fun _ => ?_⟩
    conv => whnf
    refine ⟨fun _ => ?_, fun hq0 => ?_⟩
    · conv => whnf
      exact ⟨rfl, rfl, rfl⟩
    · conv => whnf
      refine ⟨vp_in_nI (by have := h.1; show c < 20; omega) (by decide), ?_⟩
      conv => whnf
      rw [nI_clamp (by have := h.1; omega), hS.2.2.2.2.2.1]
      refine ⟨fun _ => ?_, fun c => absurd (hq.resolve_left hq0) c⟩
      conv => whnf
      exact ⟨rfl, rfl, rfl⟩
theorem bk_ix {n c j : Nat} (hn : n ≤ 20) (hc : c < n) (hj : j < 300) : nI c * 300 + nI j = nI (300 * c + j) := by
  rw [show (300 : Int32) = nI 300 from rfl, nI_mul, nI_add, Nat.mul_comm]
theorem bk_ix2 {n c j : Nat} (hn : n ≤ 20) (hc : c < n) (hj : j < 300) : 300 * nI c + nI j = nI (300 * c + j) := by
  rw [show (300 : Int32) = nI 300 from rfl, nI_mul, nI_add]
set_option maxRecDepth 100000 in
theorem bk_at {n c S W j : Nat} (h : bk_iv M n) (hc : c < n) (hS : bk_c M c W S) (hj : j < S) : am_M (d + 3) false nm_X0_opAt [aR 9, aI (nI c), aI (nI j)] M (am_q1 (aI (M.1 10 (300 * c + j))) M) := by
  have hn := h.1
  have hs := hS.2.2.1
  refine ⟨rfl, rfl, rfl, fun X hX => am_run hX 50 _ _ _ _ ?_⟩
  conv => whnf
  refine am_c1 (bk_ho1 h hc hS hj) ?_
  conv => whnf
  refine ⟨fun c => absurd c (by decide), fun _ => ?_⟩
  conv => whnf
  rw [bk_ix hn hc (by omega)]
  refine ⟨vp_in_nI (by show _ < 6000; omega) (by decide), ?_⟩
  conv => whnf
  refine ⟨trivial, ?_, rfl⟩
  rw [nI_clamp (by omega)]
end BK
