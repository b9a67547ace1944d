/-! code: what is left of a PAULI behind the reducers is 0 just for products of the rows -/
/-- a reducer's lowest bit -/
def rdP (r : Nat) : Nat := lwF r 16 0
/-- what is left of v -/
def rdV (R : Nat → Nat) (v : Nat) : Nat → Nat
  | 0 => v
  | i + 1 => rdV R v i ^^^ (if (rdV R v i).testBit (rdP (R i)) = true then R i else 0)
theorem rdV_c {R R' : Nat → Nat} {v : Nat} : ∀ {i : Nat}, (∀ j, j < i → R j = R' j) → rdV R v i = rdV R' v i
  | 0, _ => rfl
  | i + 1, h => by
    have h1 := rdV_c (v := v) (i := i) (fun j hj => h j (by omega))
    unfold rdV
    rw [h1, h i (by omega)]
theorem rdV_x (R : Nat → Nat) (a b : Nat) : ∀ i, rdV R (a ^^^ b) i = rdV R a i ^^^ rdV R b i
  | 0 => rfl
  | i + 1 => by
    have h := rdV_x R a b i
    unfold rdV
    rw [h, Nat.testBit_xor]
    cases ha : (rdV R a i).testBit (rdP (R i)) <;> cases hb : (rdV R b i).testBit (rdP (R i)) <;> simp
    · rw [Nat.xor_assoc]
    · rw [Nat.xor_assoc, Nat.xor_assoc, Nat.xor_comm (R i) (rdV R b i)]
    · rw [Nat.xor_assoc (rdV R a i), ← Nat.xor_assoc (R i), Nat.xor_comm (R i) (rdV R b i), Nat.xor_assoc (rdV R b i), Nat.xor_self, Nat.xor_zero]
theorem rdV_0 (R : Nat → Nat) : ∀ i, rdV R 0 i = 0
  | 0 => rfl
  | i + 1 => by
    unfold rdV
    rw [rdV_0 R i, Nat.zero_testBit]
    simp
theorem rdP_t {r : Nat} (h : r < 65536) (h0 : r ≠ 0) : r.testBit (rdP r) = true ∧ rdP r < 16 ∧ ∀ i, i < rdP r → r.testBit i = false := by
  obtain ⟨a, b, c, e⟩ := lwF_p r 16 0
  have hlt : lwF r 16 0 < 16 := by
    rcases Nat.lt_or_ge (lwF r 16 0) 16 with q | q
    · exact q
    · refine absurd (Nat.eq_of_testBit_eq fun i => ?_) h0
      rw [Nat.zero_testBit]
      rcases Nat.lt_or_ge i 16 with y | y
      · exact c i (Nat.zero_le _) (by omega)
      · exact Nat.testBit_lt_two_pow (Nat.lt_of_lt_of_le h (Nat.pow_le_pow_right (n := 2) (by decide) (i := 16) y))
  exact ⟨e (by omega), hlt, fun i hi => c i (Nat.zero_le _) hi⟩
theorem rdV_l {R : Nat → Nat} {v : Nat} (hv : v < 65536) : ∀ {i : Nat}, (∀ j, j < i → R j < 65536) → rdV R v i < 65536
  | 0, _ => hv
  | i + 1, h => by
    have h1 := rdV_l hv (i := i) (fun j hj => h j (by omega))
    unfold rdV
    split
    · exact Nat.xor_lt_two_pow (n := 16) h1 (h i (by omega))
    · exact Nat.xor_lt_two_pow (n := 16) h1 (by decide)
/-- the products of so many rows -/
def Spn (V : Nat → Nat) (k u : Nat) : Prop := ∃ e, e < 2 ^ k ∧ u = pxr V e k
theorem bit_x (e f k : Nat) : (e ^^^ f) / 2 ^ k % 2 = (e / 2 ^ k % 2 + f / 2 ^ k % 2) % 2 := by
  rw [Nat.xor_div_two_pow]
  have h := Nat.xor_mod_two_pow (a := e / 2 ^ k) (b := f / 2 ^ k) (n := 1)
  rw [Nat.pow_one] at h
  rw [h]
  rcases Nat.mod_two_eq_zero_or_one (e / 2 ^ k) with a | a <;> rcases Nat.mod_two_eq_zero_or_one (f / 2 ^ k) with b | b <;> rw [a, b] <;> rfl
theorem pxr_x (V : Nat → Nat) (e f : Nat) : ∀ k, pxr V (e ^^^ f) k = pxr V e k ^^^ pxr V f k
  | 0 => by show 0 = (0 : Nat) ^^^ 0; rw [Nat.xor_self]
  | k + 1 => by
    have h := pxr_x V e f k
    unfold pxr
    rw [h, bit_x]
    rcases Nat.mod_two_eq_zero_or_one (e / 2 ^ k) with a | a <;> rcases Nat.mod_two_eq_zero_or_one (f / 2 ^ k) with b | b <;> rw [a, b] <;> simp
    · rw [Nat.xor_assoc]
    · rw [Nat.xor_assoc, Nat.xor_assoc, Nat.xor_comm (V k) (pxr V f k)]
    · rw [Nat.xor_assoc (pxr V e k), ← Nat.xor_assoc (V k), Nat.xor_comm (V k) (pxr V f k), Nat.xor_assoc (pxr V f k), Nat.xor_self, Nat.xor_zero]
theorem Spn_x {V : Nat → Nat} {k a b : Nat} (ha : Spn V k a) (hb : Spn V k b) : Spn V k (a ^^^ b) := by
  obtain ⟨e, he, rfl⟩ := ha
  obtain ⟨f, hf, rfl⟩ := hb
  exact ⟨e ^^^ f, Nat.xor_lt_two_pow he hf, (pxr_x V e f k).symm⟩
theorem pxr_0 (V : Nat → Nat) : ∀ k, pxr V 0 k = 0
  | 0 => rfl
  | k + 1 => by
    unfold pxr
    rw [pxr_0 V k, Nat.zero_div]
    simp
theorem Spn_0 (V : Nat → Nat) (k : Nat) : Spn V k 0 := ⟨0, Nat.two_pow_pos _, (pxr_0 V k).symm⟩
theorem Spn_s {V : Nat → Nat} {k u : Nat} (h : Spn V k u) : Spn V (k + 1) u := by
  obtain ⟨e, he, rfl⟩ := h
  refine ⟨e, by rw [Nat.pow_succ]; omega, ?_⟩
  have : pxr V e (k + 1) = pxr V e k ^^^ (if e / 2 ^ k % 2 = 1 then V k else 0) := rfl
  rw [this, Nat.div_eq_of_lt he]
  simp
theorem Spn_v (V : Nat → Nat) (k : Nat) : Spn V (k + 1) (V k) := by
  have hp := Nat.two_pow_pos k
  refine ⟨2 ^ k, by rw [Nat.pow_succ]; omega, ?_⟩
  have : pxr V (2 ^ k) (k + 1) = pxr V (2 ^ k) k ^^^ (if 2 ^ k / 2 ^ k % 2 = 1 then V k else 0) := rfl
  rw [this, Nat.div_self hp, if_pos rfl]
  have h0 : ∀ m, m ≤ k → pxr V (2 ^ k) m = 0 := by
    intro m
    induction m with
    | zero => intro _; rfl
    | succ m ih =>
      intro hm
      have : pxr V (2 ^ k) (m + 1) = pxr V (2 ^ k) m ^^^ (if 2 ^ k / 2 ^ m % 2 = 1 then V m else 0) := rfl
      rw [this, ih (by omega)]
      have e1 : 2 ^ k / 2 ^ m = 2 ^ (k - m) := Nat.pow_div (by omega) (by decide)
      have e2 : 2 ^ (k - m) = 2 * 2 ^ (k - m - 1) := by
        rw [← Nat.pow_succ']
        congr 1
        omega
      rw [e1, e2, if_neg (by omega), Nat.xor_self]
  rw [h0 k (Nat.le_refl _), Nat.zero_xor]
/-- what is taken away is a product of rows -/
theorem rdV_s {V R : Nat → Nat} {s : Nat} (hR : ∀ j, j < s → R j = rdV R (V j) j) (v : Nat) : ∀ i, i ≤ s → Spn V i (v ^^^ rdV R v i) := by
  intro i
  induction i using Nat.strongRecOn generalizing v with
  | _ i ih =>
    intro hi
    cases i with
    | zero =>
      unfold rdV
      rw [Nat.xor_self]
      exact Spn_0 V 0
    | succ i =>
      have h1 := Spn_s (ih i (by omega) v (by omega))
      have h2 : Spn V (i + 1) (R i) := by
        have := Spn_x (Spn_v V i) (Spn_s (ih i (by omega) (V i) (by omega)))
        rw [← Nat.xor_assoc, Nat.xor_self, Nat.zero_xor, ← hR i (by omega)] at this
        exact this
      unfold rdV
      split
      · rw [← Nat.xor_assoc]
        exact Spn_x h1 h2
      · rw [Nat.xor_zero]
        exact h1
theorem rdV_k {R : Nat → Nat} {v : Nat} {i : Nat} (h : rdV R v i = 0) : ∀ m, rdV R v (i + m) = 0
  | 0 => h
  | m + 1 => by
    show rdV R v (i + m) ^^^ (if (rdV R v (i + m)).testBit (rdP (R (i + m))) = true then R (i + m) else 0) = 0
    rw [rdV_k h m, Nat.zero_testBit]
    simp
theorem rdV_v {V R : Nat → Nat} {s j : Nat} (hR : ∀ j, j < s → R j = rdV R (V j) j) (hl : ∀ j, j < s → R j < 65536) (hj : j < s) : rdV R (V j) s = 0 := by
  have h1 : rdV R (V j) (j + 1) = 0 := by
    show rdV R (V j) j ^^^ (if (rdV R (V j) j).testBit (rdP (R j)) = true then R j else 0) = 0
    rw [← hR j hj]
    by_cases h0 : R j = 0
    · rw [h0, Nat.zero_testBit]
      simp
    · rw [if_pos (rdP_t (hl j hj) h0).1, Nat.xor_self]
  have := rdV_k h1 (s - (j + 1))
  rw [show j + 1 + (s - (j + 1)) = s by omega] at this
  exact this
/-- 0 just for products of the rows -/
theorem rdV_z {V R : Nat → Nat} {s : Nat} (hR : ∀ j, j < s → R j = rdV R (V j) j) (hl : ∀ j, j < s → R j < 65536) (v : Nat) : rdV R v s = 0 ↔ Spn V s v := by
  constructor
  · intro h
    have := rdV_s hR v s (Nat.le_refl _)
    rw [h, Nat.xor_zero] at this
    exact this
  · rintro ⟨e, -, rfl⟩
    have : ∀ k, k ≤ s → rdV R (pxr V e k) s = 0 := by
      intro k
      induction k with
      | zero => intro _; exact rdV_0 R s
      | succ k ih =>
        intro hk
        show rdV R (pxr V e k ^^^ (if e / 2 ^ k % 2 = 1 then V k else 0)) s = 0
        rw [rdV_x, ih (by omega)]
        split
        · rw [rdV_v hR hl (by omega), Nat.xor_self]
        · rw [rdV_0, Nat.xor_self]
    exact this s (Nat.le_refl _)
/-- the class's test -/
theorem rd_bit {r w : Nat} (hr : r < 65536) (hw : w < 65536) : (nI w &&& nI r &&& -(nI r) = 0) ↔ ¬ w.testBit (rdP r) = true := by
  by_cases h0 : r = 0
  · subst h0
    have e : w.testBit (rdP 0) = false := by
      have : rdP 0 = 16 := by decide
      rw [this]
      exact Nat.testBit_lt_two_pow hw
    rw [e, show nI 0 = 0 from rfl, Int32.and_zero, Int32.zero_and]
    exact ⟨fun _ => by decide, fun _ => rfl⟩
  obtain ⟨hp, h16, hl⟩ := rdP_t hr h0
  have hb : ∀ (n i : Nat), i < 32 → (nI n).toBitVec.getLsbD i = n.testBit i := by
    intro n i hi
    show (BitVec.ofNat 32 n).getLsbD i = _
    rw [BitVec.getLsbD_ofNat]
    simp [hi]
  have hbit : ∀ i, i < 32 → (nI w &&& nI r &&& -(nI r)).toBitVec.getLsbD i = (decide (i = rdP r) && w.testBit (rdP r)) := by
    intro i hi
    rw [Int32.toBitVec_and, Int32.toBitVec_and, Int32.toBitVec_neg, BitVec.getLsbD_and, BitVec.getLsbD_and, BitVec.getLsbD_neg, hb w i hi, hb r i hi]
    by_cases e : i = rdP r
    · subst e
      have hno : ¬ ∃ k, k < rdP r ∧ (nI r).toBitVec.getLsbD k = true := fun ⟨k, k1, k2⟩ => by
        rw [hb r k (by omega), hl k k1] at k2
        cases k2
      simp [hp, hi, hno]
    · by_cases e2 : i < rdP r
      · simp [hl i e2, e]
      · have hyes : ∃ k, k < i ∧ (nI r).toBitVec.getLsbD k = true := ⟨rdP r, by omega, by rw [hb r _ (by omega)]; exact hp⟩
        cases hv : r.testBit i with
        | false => simp [e]
        | true => simp [hi, hyes, e]
  constructor
  · intro h hc
    have := hbit (rdP r) (by omega)
    rw [h, hc] at this
    simp at this
  · intro h
    apply Int32.toBitVec_inj.mp
    apply BitVec.eq_of_getLsbD_eq
    intro i hi
    rw [hbit i hi, Bool.eq_false_iff.mpr h]
    simp
section LNC
variable {d : Nat} {M : mm_M}
set_option maxRecDepth 100000 in
theorem rv_l {P : am_Q} {X : am_X} {R : Nat → Nat} {v k : Nat} (hX : am_K d false nm_X3_reduced P X) (hk : k ≤ 8) (hv : v < 65536) (hR : ∀ j, j < k → M.1 48 j = nI (R j) ∧ R j < 65536) (hP : P (.inl (some (aI (nI (rdV R v k))))) M) : ∀ (m i : Nat), i + m = k → X 5 [some (aR 46), some (aI (nI v)), some (aI (nI k)), some (aI (nI (rdV R v i))), some (aI (nI i))] [] M := by
  intro m
  induction m with
  | zero =>
    intro i ei
    obtain rfl : i = k := by omega
    refine am_run hX 5 _ _ _ _ ?_
    conv => whnf
    refine ⟨fun _ => ?_, fun c => absurd (nI_le (Nat.le_refl _) (by omega)) c⟩
    conv => whnf
    exact ⟨trivial, hP⟩
  | succ m ih =>
    intro i ei
    have ih := ih (i + 1) (by omega)
    obtain ⟨r1, r2⟩ := hR i (by omega)
    have hw : rdV R v i < 65536 := rdV_l hv (fun j hj => (hR j (by omega)).2)
    have e48 : M.1 48 (nI i).toNatClampNeg = nI (R i) := by
      rw [nI_clamp (by omega)]
      exact r1
    refine am_run hX 17 _ _ _ _ ?_
    conv => whnf
    refine ⟨fun c => absurd c (nI_ge (by omega) (by omega)), fun _ => ?_⟩
    conv => whnf
    refine ⟨vp_in_nI (by show i < 8; omega) (by decide), ?_⟩
    conv => whnf
    refine ⟨vp_in_nI (by show i < 8; omega) (by decide), ?_⟩
    conv => whnf
    rw [e48]
    refine ⟨fun c => ?_, fun c => ?_⟩
    · have c0 := (rd_bit r2 hw).mp c
      have e : rdV R v (i + 1) = rdV R v i := by
        show rdV R v i ^^^ (if (rdV R v i).testBit (rdP (R i)) = true then R i else 0) = _
        rw [if_neg c0, Nat.xor_zero]
      rw [e] at ih
      refine am_run hX 5 _ _ _ _ ?_
      conv => whnf
      rw [show nI (rdV R v i) ^^^ 0 = nI (rdV R v i) from by rw [show (0 : Int32) = nI 0 from rfl, nI_xor, Nat.xor_zero], nI_1]
      exact ih
    · have c0 : (rdV R v i).testBit (rdP (R i)) = true := Classical.not_not.mp (fun y => c ((rd_bit r2 hw).mpr y))
      have e : rdV R v (i + 1) = rdV R v i ^^^ R i := by
        show rdV R v i ^^^ (if (rdV R v i).testBit (rdP (R i)) = true then R i else 0) = _
        rw [if_pos c0]
      rw [e] at ih
      refine am_run hX 9 _ _ _ _ ?_
      conv => whnf
      refine ⟨vp_in_nI (by show i < 8; omega) (by decide), ?_⟩
      conv => whnf
      rw [e48, nI_xor, nI_1]
      exact ih
set_option maxRecDepth 100000 in
theorem ct_rdu {R : Nat → Nat} {v k : Nat} (hk : k ≤ 8) (hv : v < 65536) (hR : ∀ j, j < k → M.1 48 j = nI (R j) ∧ R j < 65536) : am_M (d + 1) false nm_X3_reduced [aR 46, aI (nI v), aI (nI k)] M (am_q1 (aI (nI (rdV R v k))) M) := by
  refine ⟨rfl, rfl, rfl, fun X hX => am_run hX 4 _ _ _ _ ?_⟩
  conv => whnf
  exact rv_l (d := d) hX hk hv hR ⟨rfl, rfl⟩ k 0 (by omega)
/-- which rows a vector does not commute with -/
def fsY (x z : Nat → Nat) (a b : Nat) : Nat → Nat
  | 0 => 0
  | j + 1 => fsY x z a b j + (if qmB a b (x j) (z j) = true then 0 else 2 ^ j)
theorem fsY_l (x z : Nat → Nat) (a b : Nat) : ∀ j, fsY x z a b j < 2 ^ j
  | 0 => by show 0 < 1; decide
  | j + 1 => by
    have := fsY_l x z a b j
    rw [Nat.pow_succ]
    unfold fsY
    split <;> omega
set_option maxRecDepth 100000 in
theorem fs_l {P : am_Q} {X : am_X} {x z : Nat → Nat} {a b s : Nat} (hX : am_K (d + 2) false nm_X3_findSyndrome P X) (hs : s ≤ 8) (h11 : M.1 46 11 = nI s) (ha : a < 256) (hb : b < 256) (hV : ∀ j, j < s → M.1 47 j = nI (x j + 256 * z j) ∧ x j < 256 ∧ z j < 256) (hP : P (.inl (some (aI (nI (fsY x z a b s))))) M) : ∀ (m i : Nat), i + m = s → X 4 [some (aR 46), some (aI (nI (a + 256 * b))), some (aI (nI (fsY x z a b i))), some (aI (nI i))] [] M := by
  intro m
  induction m with
  | zero =>
    intro i ei
    obtain rfl : i = s := by omega
    refine am_run hX 6 _ _ _ _ ?_
    conv => whnf
    rw [h11]
    refine ⟨fun _ => ?_, fun c => absurd (nI_le (Nat.le_refl _) (by omega)) c⟩
    conv => whnf
    exact ⟨trivial, hP⟩
  | succ m ih =>
    intro i ei
    have ih := ih (i + 1) (by omega)
    obtain ⟨v1, v2, v3⟩ := hV i (by omega)
    have hl := fsY_l x z a b i
    have e47 : M.1 47 (nI i).toNatClampNeg = nI (x i + 256 * z i) := by
      rw [nI_clamp (by omega)]
      exact v1
    refine am_run hX 12 _ _ _ _ ?_
    conv => whnf
    rw [h11]
    refine ⟨fun c => absurd c (nI_ge (by omega) (by omega)), fun _ => ?_⟩
    conv => whnf
    refine ⟨vp_in_nI (by show i < 8; omega) (by decide), ?_⟩
    conv => whnf
    rw [e47]
    refine am_c1 (ct_cmC (d := d) ha hb v2 v3) ?_
    have e : fsY x z a b (i + 1) = fsY x z a b i + (if qmB a b (x i) (z i) = true then 0 else 2 ^ i) := rfl
    by_cases hq : qmB a b (x i) (z i) = true
    · rw [if_pos hq]
      rw [e, if_pos hq, Nat.add_zero] at ih
      conv => whnf
      refine ⟨fun c => absurd c (by decide), fun _ => ?_⟩
      refine am_run hX 6 _ _ _ _ ?_
      conv => whnf
      rw [show nI (fsY x z a b i) ||| 0 = nI (fsY x z a b i) from by rw [show (0 : Int32) = nI 0 from rfl, nI_or, Nat.or_zero], nI_1]
      exact ih
    · rw [if_neg hq]
      rw [e, if_neg hq] at ih
      conv => whnf
      refine ⟨fun _ => ?_, fun c => absurd rfl c⟩
      refine am_run hX 7 _ _ _ _ ?_
      conv => whnf
      have e2 := cp_add (a := 1) hl
      rw [Nat.one_mul] at e2
      rw [sh2 i (by omega), nI_or, e2, nI_1]
      exact ih
set_option maxRecDepth 100000 in
theorem ct_fsY {x z : Nat → Nat} {a b s : Nat} (hs : s ≤ 8) (h11 : M.1 46 11 = nI s) (ha : a < 256) (hb : b < 256) (hV : ∀ j, j < s → M.1 47 j = nI (x j + 256 * z j) ∧ x j < 256 ∧ z j < 256) : am_M (d + 3) false nm_X3_findSyndrome [aR 46, aI (nI (a + 256 * b))] M (am_q1 (aI (nI (fsY x z a b s))) M) := by
  refine ⟨rfl, rfl, rfl, fun X hX => am_run hX 4 _ _ _ _ ?_⟩
  conv => whnf
  exact fs_l (d := d) hX hs h11 ha hb hV ⟨rfl, rfl⟩ s 0 (by omega)
end LNC
