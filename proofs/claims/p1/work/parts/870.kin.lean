/-! KIN: the least one, how few pairs one has: the class -/
theorem low64 {v : Int64} (h : ¬ v = 0) : ∃ j, j < 64 ∧ v.toBitVec.getLsbD j = true ∧ (∀ i, i < j → v.toBitVec.getLsbD i = false) ∧ v &&& -v = bw j := by
  have hex : ∃ j, v.toBitVec.getLsbD j = true := by
    apply Classical.byContradiction
    intro hc
    apply h
    rw [l_0]
    intro i
    cases hi : v.toBitVec.getLsbD i with
    | false => rfl
    | true => exact absurd ⟨i, hi⟩ hc
  have hleast : ∀ k, v.toBitVec.getLsbD k = true → ∃ j, v.toBitVec.getLsbD j = true ∧ ∀ i, i < j → v.toBitVec.getLsbD i = false := by
    intro k
    induction k using Nat.strongRecOn with
    | _ k ih =>
      intro hk
      by_cases hc : ∃ i, i < k ∧ v.toBitVec.getLsbD i = true
      · obtain ⟨i, hi, q⟩ := hc
        exact ih i hi q
      · refine ⟨k, hk, fun i hi => ?_⟩
        cases hq : v.toBitVec.getLsbD i with
        | false => rfl
        | true => exact absurd ⟨i, hi, hq⟩ hc
  obtain ⟨k, hk⟩ := hex
  obtain ⟨j, hj, hl⟩ := hleast k hk
  have hj64 : j < 64 := BitVec.lt_of_getLsbD hj
  refine ⟨j, hj64, hj, hl, ?_⟩
  apply Int64.toBitVec_inj.mp
  apply BitVec.eq_of_getLsbD_eq
  intro i hi
  rw [bw_t j hj64, Int64.toBitVec_and, Int64.toBitVec_neg, BitVec.getLsbD_and, BitVec.getLsbD_neg, BitVec.getLsbD_twoPow]
  by_cases e : i = j
  · subst e
    have hno : ¬ ∃ k, k < i ∧ v.toBitVec.getLsbD k = true := fun ⟨k, k1, k2⟩ => by rw [hl k k1] at k2; cases k2
    simp [hj, hi, hno]
  · by_cases e2 : i < j
    · simp [hl i e2, Ne.symm e]
    · have hyes : ∃ k, k < i ∧ v.toBitVec.getLsbD k = true := ⟨j, by omega, hj⟩
      cases hv : v.toBitVec.getLsbD i with
      | false => simp [Ne.symm e]
      | true => simp [hi, hyes, Ne.symm e]
/-- Long.bitCount, as its code says -/
def lbc (x : Int64) : Int32 :=
  let a := x - ((x.toUInt64 >>> ((1 : Int32).toInt64.toUInt64 &&& Int64.toUInt64 63)).toInt64 &&& 6148914691236517205)
  let b := (a &&& 3689348814741910323) + ((a.toUInt64 >>> ((2 : Int32).toInt64.toUInt64 &&& Int64.toUInt64 63)).toInt64 &&& 3689348814741910323)
  let c := (b + (b.toUInt64 >>> ((4 : Int32).toInt64.toUInt64 &&& Int64.toUInt64 63)).toInt64) &&& 1085102592571150095
  let e := c + (c.toUInt64 >>> ((8 : Int32).toInt64.toUInt64 &&& Int64.toUInt64 63)).toInt64
  let f := e + (e.toUInt64 >>> ((16 : Int32).toInt64.toUInt64 &&& Int64.toUInt64 63)).toInt64
  let g := f + (f.toUInt64 >>> ((32 : Int32).toInt64.toUInt64 &&& Int64.toUInt64 63)).toInt64
  g.toInt32 &&& 127
set_option maxRecDepth 100000 in
theorem ct_lbc {d : Nat} {M : mm_M} (x : Int64) : am_M (d + 1) false nm_J13_bitCount_95d88 [aJ x] M (am_q1 (aI (lbc x)) M) := by
  refine ⟨rfl, rfl, rfl, fun X hX => am_run hX 100 _ _ _ _ ?_⟩
  conv => whnf
  exact ⟨trivial, rfl, rfl⟩
theorem lbc_low : ∀ j, j < 64 → lbc (bw j - 1) = nI j := by decide +kernel
section KNL
variable {d : Nat} {M : mm_M}
/-- the least of a set -/
def isLst (F : Nat → Prop) (x : Nat) : Prop := x < 32768 ∧ F x ∧ ∀ y, y < 32768 → F y → x ≤ y
theorem isLst_u {F : Nat → Prop} {x y : Nat} (hx : isLst F x) (hy : isLst F y) : x = y := by
  have h1 := hx.2.2 y hy.1 hy.2.1
  have h2 := hy.2.2 x hx.1 hx.2.1
  omega
set_option maxRecDepth 100000 in
theorem lk_l {P : am_Q} {X : am_X} (hX : am_K (d + 1) false nm_X7_leastKin P X) (hP : ∀ x, isLst (fun y => sb (M.2 79) y = true) x → P (.inl (some (aI (nI x)))) M) (hne : ∃ y, y < 32768 ∧ sb (M.2 79) y = true) : ∀ (m w : Nat), w + m = 511 → (∀ i, i < w → M.2 79 i = 0) → X 2 [some (aR 70), some (aI (nI w))] [] M := by
  have hend : ∀ w, w < 512 → (∀ i, i < w → M.2 79 i = 0) → ¬ M.2 79 w = 0 → X 26 [some (aR 70), some (aI (nI w))] [] M := fun w hw hz hv => by
    obtain ⟨j, j64, j1, j2, j3⟩ := low64 hv
    refine am_run hX 18 _ _ _ _ ?_
    conv => whnf
    refine ⟨vp_in_nI (by show _ < 512; omega) (by decide), ?_⟩
    conv => whnf
    refine ⟨vp_in_nI (by show _ < 512; omega) (by decide), ?_⟩
    conv => whnf
    rw [nI_clamp (n := w) (by omega), j3]
    refine am_c1 (ct_lbc (d := d) _) ?_
    rw [lbc_low j j64, show (64 : Int32) = nI 64 from rfl, nI_mul]
    conv => whnf
    rw [nI_add]
    refine ⟨trivial, hP (64 * w + j) ⟨by omega, ?_, fun y hy q => ?_⟩⟩
    · show (M.2 79 ((64 * w + j) / 64)).toBitVec.getLsbD ((64 * w + j) % 64) = true
      rw [show (64 * w + j) / 64 = w by omega, show (64 * w + j) % 64 = j by omega]
      exact j1
    · have q : (M.2 79 (y / 64)).toBitVec.getLsbD (y % 64) = true := q
      by_cases c1 : y / 64 < w
      · rw [hz _ c1] at q
        simp at q
      · by_cases c2 : y / 64 = w
        · rw [c2] at q
          by_cases c3 : y % 64 < j
          · rw [j2 _ c3] at q; cases q
          · omega
        · omega
  intro m
  induction m with
  | zero =>
    intro w hw hz
    have hw : w = 511 := by omega
    subst hw
    refine am_run hX 3 _ _ _ _ ?_
    conv => whnf
    refine ⟨fun _ => ?_, fun c => absurd (by decide) c⟩
    refine hend 511 (by decide) hz (fun e => ?_)
    obtain ⟨y, hy, q⟩ := hne
    unfold sb at q
    by_cases c1 : y / 64 < 511
    · rw [hz _ c1] at q
      simp at q
    · rw [show y / 64 = 511 by omega, e] at q
      simp at q
  | succ m ih =>
    intro w hw hz
    refine am_run hX 3 _ _ _ _ ?_
    conv => whnf
    refine ⟨fun c => absurd c (nI_ge (a := w) (b := 511) (by omega) (by decide)), fun _ => ?_⟩
    refine am_run hX 7 _ _ _ _ ?_
    conv => whnf
    refine ⟨vp_in_nI (by show _ < 512; omega) (by decide), ?_⟩
    conv => whnf
    rw [nI_clamp (n := w) (by omega), lg_0]
    refine ⟨fun hv => hend w (by omega) hz hv, fun hv => ?_⟩
    have hv : M.2 79 w = 0 := Decidable.byContradiction hv
    refine am_run hX 2 _ _ _ _ ?_
    conv => whnf
    rw [nI_1]
    refine ih (w + 1) (by omega) (fun i hi => ?_)
    by_cases e : i = w
    · rw [e]; exact hv
    · exact hz i (by omega)
set_option maxRecDepth 100000 in
theorem ct_lk (hne : ∃ y, y < 32768 ∧ sb (M.2 79) y = true) : am_M (d + 2) false nm_X7_leastKin [aR 70] M (fun r M' => M' = M ∧ ∃ x, r = .inl (some (aI (nI x))) ∧ isLst (fun y => sb (M.2 79) y = true) x) := by
  refine ⟨rfl, rfl, rfl, fun X hX => am_run hX 2 _ _ _ _ ?_⟩
  conv => whnf
  exact lk_l hX (fun x hx => ⟨rfl, x, rfl, hx⟩) hne 511 0 (by omega) (fun i hi => by omega)
/-- how few: the least number of pairs -/
def isFew (F : Nat → Prop) (v : Nat) : Prop := (∃ x, x < 32768 ∧ F x ∧ v = pc x) ∧ ∀ y, y < 32768 → F y → v ≤ pc y
theorem isFew_u {F : Nat → Prop} {x y : Nat} (hx : isFew F x) (hy : isFew F y) : x = y := by
  obtain ⟨⟨a, a1, a2, a3⟩, h1⟩ := hx
  obtain ⟨⟨b, b1, b2, b3⟩, h2⟩ := hy
  have q1 := h1 b b1 b2
  have q2 := h2 a a1 a2
  omega
theorem pc15 {x : Nat} (h : x < 32768) : pc x ≤ 15 := by
  unfold pc
  rw [show (32 : Nat) = 15 + 17 from rfl, pcn_le 15 x h 17]
  exact pcn_b _ _
/-- the least so far, of those below y -/
def fw (F : Nat → Bool) (y v : Nat) : Prop := v ≤ 15 ∧ (∀ x, x < y → F x = true → v ≤ pc x) ∧ (v = 15 ∨ ∃ x, x < y ∧ F x = true ∧ v = pc x)
theorem us_b {x : Int64} {b : Nat} (hb : b < 64) (i : Nat) : (x.toUInt64 >>> ((nI b).toInt64.toUInt64 &&& Int64.toUInt64 63)).toInt64.toBitVec.getLsbD i = x.toBitVec.getLsbD (b + i) := by
  have e : ∀ b, b < 64 → ((nI b).toInt64.toUInt64 &&& Int64.toUInt64 63).toBitVec.toNat % 64 = b := by decide +kernel
  have e2 : (x.toUInt64 >>> ((nI b).toInt64.toUInt64 &&& Int64.toUInt64 63)).toInt64.toBitVec = x.toBitVec >>> (((nI b).toInt64.toUInt64 &&& Int64.toUInt64 63).toBitVec % 64#64) := rfl
  rw [e2]
  show (x.toBitVec >>> (((nI b).toInt64.toUInt64 &&& Int64.toUInt64 63).toBitVec % 64#64).toNat).getLsbD i = _
  rw [BitVec.getLsbD_ushiftRight, BitVec.toNat_umod, show (64#64 : BitVec 64).toNat = 64 from rfl, e b hb]
set_option maxRecDepth 100000 in
theorem fw_l2 {P : am_Q} {X : am_X} {w : Nat} (hX : am_K (d + 1) false nm_X7_fewestPairs P X) (hw : w < 512) (hK : ∀ v, fw (sb (M.2 79)) (64 * (w + 1)) v → ∀ l3, X 72 [some (aR 70), some (aI (nI v)), some (aI (nI w)), l3] [] M) : ∀ (m b : Nat), b + m = 64 → ∀ v, fw (sb (M.2 79)) (64 * w + b) v → X 14 [some (aR 70), some (aI (nI v)), some (aI (nI w)), some (aI (nI b))] [] M := by
  intro m
  induction m with
  | zero =>
    intro b hb v hv
    have hb : b = 64 := by omega
    subst hb
    refine am_run hX 3 _ _ _ _ ?_
    conv => whnf
    exact ⟨fun _ => hK v hv _, fun c => absurd (by decide) c⟩
  | succ m ih =>
    intro b hb v hv
    have hv15 := hv.1
    have hxb : sb (M.2 79) (64 * w + b) = (M.2 79 w).toBitVec.getLsbD b := by
      unfold sb
      rw [show (64 * w + b) / 64 = w by omega, show (64 * w + b) % 64 = b by omega]
    refine am_run hX 3 _ _ _ _ ?_
    conv => whnf
    refine ⟨fun c => absurd c (nI_ge (a := b) (b := 64) (by omega) (by decide)), fun _ => ?_⟩
    refine am_run hX 9 _ _ _ _ ?_
    conv => whnf
    refine ⟨vp_in_nI (by show _ < 512; omega) (by decide), ?_⟩
    conv => whnf
    rw [nI_clamp (n := w) (by omega), lg_0]
    refine ⟨fun hz => ?_, fun hz => ?_⟩
    · refine hK v ⟨hv.1, fun x hx q => ?_, ?_⟩ _
      · by_cases c : x < 64 * w + b
        · exact hv.2.1 x c q
        · have h0 := (l_0.mp hz) (x % 64 - b)
          rw [us_b (by omega)] at h0
          unfold sb at q
          rw [show x / 64 = w by omega, show x % 64 = b + (x % 64 - b) by omega, h0] at q
          cases q
      · rcases hv.2.2 with e | ⟨x, x1, x2, x3⟩
        · exact Or.inl e
        · exact Or.inr ⟨x, by omega, x2, x3⟩
    · refine am_run hX 11 _ _ _ _ ?_
      conv => whnf
      refine ⟨vp_in_nI (by show _ < 512; omega) (by decide), ?_⟩
      conv => whnf
      rw [nI_clamp (n := w) (by omega), lg_0, l_1, us_b (by omega)]
      refine ⟨fun h1 => ?_, fun h1 => ?_⟩
      · refine am_run hX 4 _ _ _ _ ?_
        conv => whnf
        rw [nI_1]
        refine ih (b + 1) (by omega) v ⟨hv.1, fun x hx q => ?_, ?_⟩
        · by_cases c : x = 64 * w + b
          · rw [c, hxb] at q
            rw [Nat.add_zero, q] at h1
            cases h1
          · exact hv.2.1 x (by omega) q
        · rcases hv.2.2 with e | ⟨x, x1, x2, x3⟩
          · exact Or.inl e
          · exact Or.inr ⟨x, by omega, x2, x3⟩
      · have h1 : (M.2 79 w).toBitVec.getLsbD b = true := by
          rw [Nat.add_zero] at h1
          simpa using h1
        refine am_run hX 12 _ _ _ _ ?_
        conv => whnf
        have ex : 64 * nI w + nI b = nI (64 * w + b) := by
          rw [show (64 : Int32) = nI 64 from rfl, nI_mul, nI_add]
        rw [ex]
        have hp := pc15 (x := 64 * w + b) (by omega)
        refine am_c1 (ct_bit16 d _ (by omega) _) ?_
        conv => whnf
        rw [nI_1, nI_it (by omega) (by omega)]
        refine ih (b + 1) (by omega) _ ⟨by split <;> omega, fun x hx q => ?_, ?_⟩
        · by_cases c : x = 64 * w + b
          · rw [c]; split <;> omega
          · have := hv.2.1 x (by omega) q
            split <;> omega
        · by_cases c : pc (64 * w + b) < v
          · rw [if_pos c]
            exact Or.inr ⟨64 * w + b, by omega, by rw [hxb]; exact h1, rfl⟩
          · rw [if_neg c]
            rcases hv.2.2 with e | ⟨x, x1, x2, x3⟩
            · exact Or.inl e
            · exact Or.inr ⟨x, by omega, x2, x3⟩
set_option maxRecDepth 100000 in
theorem fw_l1 {P : am_Q} {X : am_X} (hX : am_K (d + 1) false nm_X7_fewestPairs P X) (hP : ∀ v, fw (sb (M.2 79)) 32768 v → P (.inl (some (aI (nI v)))) M) : ∀ (m w : Nat), w + m = 512 → ∀ v, fw (sb (M.2 79)) (64 * w) v → ∀ l3, X 5 [some (aR 70), some (aI (nI v)), some (aI (nI w)), l3] [] M := by
  intro m
  induction m with
  | zero =>
    intro w hw v hv l3
    have hw : w = 512 := by omega
    subst hw
    refine am_run hX 5 _ _ _ _ ?_
    conv => whnf
    refine ⟨fun _ => ?_, fun c => absurd (by decide) c⟩
    conv => whnf
    exact ⟨trivial, hP v hv⟩
  | succ m ih =>
    intro w hw v hv l3
    refine am_run hX 3 _ _ _ _ ?_
    conv => whnf
    refine ⟨fun c => absurd c (nI_ge (a := w) (b := 512) (by omega) (by decide)), fun _ => ?_⟩
    refine am_run hX 2 _ _ _ _ ?_
    conv => whnf
    refine fw_l2 hX (by omega) (fun v hv l3 => ?_) 64 0 (by omega) v hv
    refine am_run hX 2 _ _ _ _ ?_
    conv => whnf
    rw [nI_1]
    exact ih (w + 1) (by omega) v hv _
set_option maxRecDepth 100000 in
theorem ct_fw (hne : ∃ y, y < 32768 ∧ sb (M.2 79) y = true) : am_M (d + 2) false nm_X7_fewestPairs [aR 70] M (fun r M' => M' = M ∧ ∃ v, r = .inl (some (aI (nI v))) ∧ isFew (fun y => sb (M.2 79) y = true) v) := by
  refine ⟨rfl, rfl, rfl, fun X hX => am_run hX 4 _ _ _ _ ?_⟩
  conv => whnf
  refine fw_l1 hX (fun v hv => ⟨rfl, v, rfl, ?_, hv.2.1⟩) 512 0 (by omega) 15 ⟨Nat.le_refl _, fun x hx => by omega, Or.inl rfl⟩ _
  rcases hv.2.2 with e | ⟨x, x1, x2, x3⟩
  · obtain ⟨y, y1, y2⟩ := hne
    have h1 := hv.2.1 y y1 y2
    have h2 := pc15 y1
    exact ⟨y, y1, y2, by omega⟩
  · exact ⟨x, x1, x2, x3⟩
end KNL
