/-! LEAST: inverseOf, and the first program's least -/
def mtN (x : Nat) : Nat → Nat
  | 0 => 0
  | i + 1 => mtN x i ||| 2 ^ dgN x i
def ivN (x : Nat) : Nat → Nat
  | 0 => 0
  | i + 1 => ivN x i ||| i * 2 ^ (3 * dgN x i)
theorem mt_b (x v : Nat) : ∀ i, (mtN x i).testBit v = true ↔ ∃ j, j < i ∧ dgN x j = v
  | 0 => ⟨fun h => by simp [mtN] at h, fun ⟨j, h, _⟩ => absurd h (by omega)⟩
  | i + 1 => by
    show (mtN x i ||| 2 ^ dgN x i).testBit v = true ↔ _
    rw [Nat.testBit_or, Bool.or_eq_true, mt_b x v i, Nat.testBit_two_pow]
    constructor
    · rintro (⟨j, h, e⟩ | h)
      · exact ⟨j, by omega, e⟩
      · exact ⟨i, by omega, by simpa using h⟩
    · rintro ⟨j, h, e⟩
      by_cases c : j = i
      · subst c
        exact .inr (by simpa using e)
      · exact .inl ⟨j, by omega, e⟩
theorem mt_lt (x : Nat) : ∀ i, mtN x i < 256
  | 0 => by show 0 < 256; omega
  | i + 1 => by
    have h : 2 ^ dgN x i < 2 ^ 8 := Nat.pow_lt_pow_right (by decide) (dg_lt x i)
    exact Nat.or_lt_two_pow (n := 8) (mt_lt x i) h
theorem iv_lt (x : Nat) : ∀ i, i ≤ 8 → ivN x i < 16777216
  | 0, _ => by show 0 < 16777216; omega
  | i + 1, hi => by
    have h := dg_lt x i
    refine Nat.or_lt_two_pow (n := 24) (iv_lt x i (by omega)) ?_
    calc i * 2 ^ (3 * dgN x i) ≤ 7 * 2 ^ 21 := Nat.mul_le_mul (by omega) (Nat.pow_le_pow_right (by decide) (by omega))
      _ < 2 ^ 24 := by decide
theorem dg_or (a b v : Nat) : dgN (a ||| b) v = dgN a v ||| dgN b v := by
  show ((a ||| b) >>> (3 * v)) &&& 7 = (a >>> (3 * v) &&& 7) ||| (b >>> (3 * v) &&& 7)
  rw [Nat.shiftRight_or_distrib, Nat.and_or_distrib_right]
theorem dg_m {i t v : Nat} (hi : i < 8) : dgN (i * 2 ^ (3 * t)) v = if v = t then i else 0 := by
  rw [dg_e, Nat.pow_mul, show 2 ^ 3 = 8 from rfl]
  by_cases c : v = t
  · rw [if_pos c, c, Nat.mul_div_cancel _ (Nat.pow_pos (by decide)), Nat.mod_eq_of_lt hi]
  · rw [if_neg c]
    by_cases l : v < t
    · rw [show t = (t - v - 1) + 1 + v by omega, Nat.pow_add, Nat.pow_succ, ← Nat.mul_assoc, ← Nat.mul_assoc, Nat.mul_div_cancel _ (Nat.pow_pos (by decide))]
      omega
    · have h : i * 8 ^ t < 8 ^ v := by
        calc i * 8 ^ t < 8 * 8 ^ t := Nat.mul_lt_mul_of_pos_right hi (Nat.pow_pos (by decide))
          _ = 8 ^ (t + 1) := by rw [Nat.pow_succ, Nat.mul_comm]
          _ ≤ 8 ^ v := Nat.pow_le_pow_right (by decide) (by omega)
      rw [Nat.div_eq_of_lt h]
theorem iv_d {x : Nat} (hj : ∀ i j, i < 8 → j < 8 → dgN x i = dgN x j → i = j) {j : Nat} (h8 : j < 8) : ∀ i, i ≤ 8 → dgN (ivN x i) (dgN x j) = if j < i then j else 0
  | 0, _ => by
    rw [if_neg (by omega)]
    show dgN 0 _ = 0
    rw [dg_e, Nat.zero_div]
  | i + 1, hi => by
    show dgN (ivN x i ||| i * 2 ^ (3 * dgN x i)) (dgN x j) = _
    rw [dg_or, iv_d hj h8 i (by omega), dg_m (by omega)]
    by_cases c : j = i
    · rw [if_neg (by omega), if_pos (by rw [c]), if_pos (by omega), c, Nat.zero_or]
    · rw [if_neg (fun e => c (hj j i h8 (by omega) e)), Nat.or_zero]
      by_cases l : j < i
      · rw [if_pos l, if_pos (by omega)]
      · rw [if_neg l, if_neg (by omega)]
theorem iv_R {x : Nat} (hx : x < 16777216) (h : mtN x 8 = 255) : Rv x (ivN x 8) := by
  have su : ∀ v, v < 8 → ∃ j, j < 8 ∧ dgN x j = v := fun v hv => (mt_b x v 8).mp (by
    rw [h]; revert v; decide)
  have ij := pig8 su
  refine ⟨hx, iv_lt x 8 (by omega), fun j hj => ?_, fun v hv => ?_⟩
  · rw [iv_d ij hj 8 (by omega), if_pos hj]
  · have ⟨j, hj, e⟩ := su v hv
    rw [← e, iv_d ij hj 8 (by omega), if_pos hj]
theorem i24_u {p : Int32} : (p.toUInt32 >>> ((24 : Int32).toUInt32 &&& Int32.toUInt32 31)).toInt32 = 0 ↔ ∃ x, x < 16777216 ∧ p = nI x := by
  constructor
  · intro h
    rw [nI_bv p] at h
    have l : p.toBitVec.toNat < 2 ^ 32 := p.toBitVec.isLt
    have e := nI_us l 24 (by decide)
    have h2 : nI (p.toBitVec.toNat / 2 ^ 24) = nI 0 := e.symm.trans h
    have h3 := (nI_eq (by omega) (by decide)).mp h2
    exact ⟨_, by omega, nI_bv p⟩
  · rintro ⟨x, hx, rfl⟩
    have e := nI_us (n := x) (by omega) 24 (by decide)
    rw [Nat.div_eq_of_lt (by omega)] at e
    exact e
theorem i24_s {p : Int32} : p >>> ((24 : Int32) &&& 31) = 0 ↔ ∃ x, x < 16777216 ∧ p = nI x := by
  constructor
  · intro h
    rw [nI_bv p] at h ⊢
    have l : p.toBitVec.toNat < 2 ^ 32 := p.toBitVec.isLt
    generalize p.toBitVec.toNat = n at *
    by_cases c : n < 2 ^ 31
    · have e : nI n >>> ((24 : Int32) &&& 31) = nI (n / 2 ^ 24) := nI_sh c 24 (by decide)
      have h2 : nI (n / 2 ^ 24) = nI 0 := e.symm.trans h
      have h3 := (nI_eq (by omega) (by decide)).mp h2
      exact ⟨n, by omega, rfl⟩
    · exfalso
      have h4 := congrArg (fun v : Int32 => v.toBitVec.msb) h
      have h5 : (nI n >>> ((24 : Int32) &&& 31)).toBitVec = (BitVec.ofNat 32 n).sshiftRight 24 := rfl
      have h6 : ((BitVec.ofNat 32 n).sshiftRight 24).msb = false := by rw [← h5]; exact h4
      rw [BitVec.msb_sshiftRight, BitVec.msb_eq_decide] at h6
      simp at h6
      omega
  · rintro ⟨x, hx, rfl⟩
    have e : nI x >>> ((24 : Int32) &&& 31) = nI (x / 2 ^ 24) := nI_sh (by omega) 24 (by decide)
    rw [e, Nat.div_eq_of_lt (by omega)]
    rfl
section LEF
variable {d : Nat} {M : mm_M}
theorem dg_i {x i : Nat} (hx : x < 16777216) (hi : i < 8) : nI x >>> (3 * nI i &&& 31) &&& 7 = nI (dgN x i) := by
  rw [show (3 : Int32) * nI i = nI (3 * i) from by rw [show (3 : Int32) = nI 3 from rfl, nI_mul], nI_sh (by omega) _ (by omega), nI_m7, dg_e, Nat.pow_mul]
set_option maxRecDepth 100000 in
theorem inv_l {P : am_Q} {X : am_X} {x : Nat} (hX : am_K d false nm_X7_inverseOf P X) (hx : x < 16777216) (hK : ∀ l3 l4, X 44 [some (aI (nI x)), some (aI (nI (ivN x 8))), some (aI (nI (mtN x 8))), l3, l4] [] M) : ∀ (m i : Nat) (l4 : Option am_V), i + m = 8 → X 6 [some (aI (nI x)), some (aI (nI (ivN x i))), some (aI (nI (mtN x i))), some (aI (nI i)), l4] [] M := by
  intro m
  induction m with
  | zero =>
    intro i l4 hi
    have hi : i = 8 := by omega
    subst hi
    refine am_run hX 3 _ _ _ _ ?_
    conv => whnf
    exact ⟨fun _ => hK _ _, fun c => absurd (by decide) c⟩
  | succ m ih =>
    intro i l4 hi
    have t8 := dg_lt x i
    have ih := ih (i + 1) (some (aI (nI (dgN x i)))) (by omega)
    refine am_run hX 3 _ _ _ _ ?_
    conv => whnf
    refine ⟨fun c => absurd c (nI_ge (b := 8) (by omega) (by decide)), fun _ => ?_⟩
    refine am_run hX 24 _ _ _ _ ?_
    conv => whnf
    have b : i * 2 ^ (3 * dgN x i) < 2 ^ 32 := by
      calc i * 2 ^ (3 * dgN x i) ≤ 7 * 2 ^ 21 := Nat.mul_le_mul (by omega) (Nat.pow_le_pow_right (by decide) (by omega))
        _ < 2 ^ 32 := by decide
    rw [dg_i hx (by omega), sh2 _ (by omega), nI_or, show (3 : Int32) * nI (dgN x i) = nI (3 * dgN x i) from by rw [show (3 : Int32) = nI 3 from rfl, nI_mul], nI_shl (by omega) b, nI_or, nI_1]
    exact ih
set_option maxRecDepth 100000 in
theorem ct_inv1 {x : Nat} (hx : x < 16777216) : am_M (d + 1) false nm_X7_inverseOf [aI (nI x)] M (am_q1 (aI (if mtN x 8 = 255 then nI (ivN x 8) else -1)) M) := by
  have m8 := mt_lt x 8
  refine ⟨rfl, rfl, rfl, fun X hX => am_run hX 6 _ _ _ _ ?_⟩
  conv => whnf
  refine inv_l hX hx (fun l3 l4 => ?_) 8 0 none (by omega)
  refine am_run hX 20 _ _ _ _ ?_
  conv => whnf
  refine ⟨fun c => ?_, fun c => ?_⟩
  · conv => whnf
    rw [if_neg (fun e => c (by rw [e]; rfl))]
    exact ⟨trivial, rfl, rfl⟩
  · have e : mtN x 8 = 255 := (nI_eq (b := 255) (by omega) (by decide)).mp (Decidable.byContradiction c)
    conv => whnf
    rw [i24_u.mpr ⟨x, hx, rfl⟩]
    refine ⟨fun c => absurd rfl c, fun _ => ?_⟩
    conv => whnf
    rw [if_pos e]
    exact ⟨trivial, rfl, rfl⟩
set_option maxRecDepth 100000 in
theorem inv_k {P : am_Q} {X : am_X} {p : Int32} (hX : am_K d false nm_X7_inverseOf P X) (hK : ∀ v1 v2 l3 l4, X 44 [some (aI p), some (aI v1), some (aI v2), l3, l4] [] M) : ∀ (m i : Nat) (v1 v2 : Int32) (l4 : Option am_V), i + m = 8 → X 6 [some (aI p), some (aI v1), some (aI v2), some (aI (nI i)), l4] [] M := by
  intro m
  induction m with
  | zero =>
    intro i v1 v2 l4 hi
    have hi : i = 8 := by omega
    subst hi
    refine am_run hX 3 _ _ _ _ ?_
    conv => whnf
    exact ⟨fun _ => hK _ _ _ _, fun c => absurd (by decide) c⟩
  | succ m ih =>
    intro i v1 v2 l4 hi
    refine am_run hX 3 _ _ _ _ ?_
    conv => whnf
    refine ⟨fun c => absurd c (nI_ge (b := 8) (by omega) (by decide)), fun _ => ?_⟩
    refine am_run hX 24 _ _ _ _ ?_
    conv => whnf
    rw [nI_1]
    exact ih (i + 1) _ _ _ (by omega)
set_option maxRecDepth 100000 in
theorem ct_inv0 {p : Int32} (hp : ¬ ∃ x, x < 16777216 ∧ p = nI x) : am_M (d + 1) false nm_X7_inverseOf [aI p] M (am_q1 (aI (-1)) M) := by
  refine ⟨rfl, rfl, rfl, fun X hX => am_run hX 6 _ _ _ _ ?_⟩
  conv => whnf
  refine inv_k hX (fun v1 v2 l3 l4 => ?_) 8 0 0 0 none (by omega)
  refine am_run hX 20 _ _ _ _ ?_
  conv => whnf
  refine ⟨fun c => ?_, fun c => ?_⟩
  · conv => whnf
    exact ⟨trivial, rfl, rfl⟩
  · conv => whnf
    refine ⟨fun _ => ?_, fun c => absurd (i24_u.mp (Decidable.byContradiction c)) hp⟩
    conv => whnf
    exact ⟨trivial, rfl, rfl⟩
/-- what is asked for is no permutation -/
def npm (p : Int32) : Prop := ¬ ∃ x, x < 16777216 ∧ p = nI x ∧ mtN x 8 = 255
theorem ct_inv {p : Int32} (hp : npm p) : am_M (d + 1) false nm_X7_inverseOf [aI p] M (am_q1 (aI (-1)) M) := by
  by_cases c : ∃ x, x < 16777216 ∧ p = nI x
  · have ⟨x, hx, e⟩ := c
    subst e
    have h := ct_inv1 (d := d) (M := M) hx
    rw [if_neg (fun e => hp ⟨x, hx, rfl, e⟩)] at h
    exact h
  · exact ct_inv0 c
set_option maxRecDepth 100000 in
theorem le_x0 {p : Int32} {n : Nat} (h7 : M.1 9 7 = nI n) (hn : n ≤ 20) (hp : npm p ∨ n = 20) : am_M (d + 2) false nm_X11_least [aR 0, aI p] M (am_q1 (aI (-1)) M) := by
  by_cases c : npm p
  · refine ⟨rfl, rfl, rfl, fun X hX => am_run hX 30 _ _ _ _ ?_⟩
    conv => whnf
    refine am_c1 (ct_inv c) ?_
    conv => whnf
    refine ⟨fun _ => ?_, fun c => absurd rfl c⟩
    conv => whnf
    exact ⟨trivial, rfl, rfl⟩
  · have n20 := hp.resolve_left c
    have ⟨x, hx, e, h255⟩ := Decidable.byContradiction c
    subst e
    have hi := ct_inv1 (d := d) (M := M) hx
    rw [if_pos h255] at hi
    refine ⟨rfl, rfl, rfl, fun X hX => am_run hX 30 _ _ _ _ ?_⟩
    conv => whnf
    refine am_c1 hi ?_
    conv => whnf
    have il := iv_lt x 8 (by omega)
    refine ⟨fun c => absurd c (nI_nm (by omega)), fun _ => ?_⟩
    conv => whnf
    rw [h7, n20]
    refine ⟨fun c => absurd c (by decide), fun _ => ?_⟩
    conv => whnf
    exact ⟨trivial, rfl, rfl⟩
set_option maxRecDepth 100000 in
theorem le_x1 {x n : Nat} {F : Nat → Int32} (hx : x < 16777216) (h255 : mtN x 8 = 255) (h7 : M.1 9 7 = nI n) (hn : n < 20) (hl : le_t M) (hF : ∀ j, j < dq (ivN x 8) → F j = nI (opN (gw j (ivN x 8)))) : am_M (d + 10) false nm_X11_least [aR 0, aI (nI x)] M (fun r M' => r = .inl (some (aI (nI n))) ∧ ∃ f p T, trr f T ∧ tl T ∧ M' = kpM (drM (mm_i (mm_i M 78 f) 73 p) F (dq (ivN x 8))) n (dq (ivN x 8)) 3) := by
  have hi := ct_inv1 (d := d + 8) (M := M) hx
  rw [if_pos h255] at hi
  have il := iv_lt x 8 (by omega)
  have hq : isP (ivN x 8) := ⟨_, Rv_s (iv_R hx h255)⟩
  have q8 := (dq_p hq).1
  generalize ivN x 8 = q at *
  refine ⟨rfl, rfl, rfl, fun X hX => am_run hX 60 _ _ _ _ ?_⟩
  conv => whnf
  refine am_c1 hi ?_
  conv => whnf
  refine ⟨fun c => absurd c (nI_nm (by omega)), fun _ => ?_⟩
  conv => whnf
  rw [h7]
  refine ⟨fun _ => ?_, fun c => absurd (nI_lt (b := 20) hn (by decide)) c⟩
  conv => whnf
  refine am_c0 (ct_stD (F := F)) ?_
  conv => whnf
  refine am_cq (ct_pl hq hl hF) (fun r M' z => ?_)
  obtain ⟨rfl, f, p, T, rfl, ht, hl2⟩ := z
  refine ⟨_, rfl, ?_⟩
  conv => whnf
  have hh := hc_le ((drM (mm_i (mm_i M 78 f) 73 p) F (dq q)).1 13) (dq q)
  refine am_c1 (ct_keep (n := n) (k := dq q) (W := 3) (by rw [dr_9, up_ne (by decide), mm_ne _ _ _ _ (by decide), mm_ne _ _ _ _ (by decide)]; exact h7) (by rw [dr_9]; exact up_at) hn (by omega) (by omega)) ?_
  conv => whnf
  exact ⟨trivial, rfl, f, p, T, ht, hl2, rfl⟩
end LEF
