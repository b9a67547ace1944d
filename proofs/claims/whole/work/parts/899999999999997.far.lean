/-! WHAT IS TOO FAR for the reference cannot be kept by the class -/
theorem ev_I {a : Int} (h1 : -2 ^ 63 ≤ a) (h2 : a < 2 ^ 63) : evJ (lI a) = true ↔ a % 2 = 0 := by
  unfold evJ
  rw [decide_eq_true_iff]
  exact lI_e2 h1 h2
theorem e1_I {a b : Int} (a1 : -2 ^ 63 ≤ a) (a2 : a < 2 ^ 63) (b1 : -2 ^ 63 ≤ b) (b2 : b < 2 ^ 63) : e1J (lI a) (lI b) = true ↔ a % 2 = 0 ∧ b % 2 = 0 := by
  rw [← ev_e1, Bool.and_eq_true, ev_I a1 a2, ev_I b1 b2]
theorem sm_I {a : Int} (a1 : -2 ^ 63 ≤ a) (a2 : a < 2 ^ 63) : smJ (lI a) = true ↔ -1000000 ≤ a ∧ a ≤ 1000000 := by
  unfold smJ
  rw [decide_eq_true_iff, show (-1000000 : Int64) = lI (-1000000) from rfl, show (1000000 : Int64) = lI 1000000 from rfl, lI_lt a1 a2 (by decide) (by decide), lI_lt (by decide) (by decide) a1 a2]
  omega
theorem nz_I {a b : Int} (a1 : -2 ^ 63 ≤ a) (a2 : a < 2 ^ 63) (b1 : -2 ^ 63 ≤ b) (b2 : b < 2 ^ 63) : nzJ (lI a) (lI b) = true ↔ ¬ (a = 0 ∧ b = 0) := by
  unfold nzJ
  rw [decide_eq_true_iff, lI_0 a1 a2, lI_0 b1 b2]
theorem far_no {P Q : Nat → Int64} {p q : Nat → Int} {m c x0 x1 : Nat} {κ : Nat → Nat} (hP : ∀ x, P x = lI (p x)) (hQ : ∀ x, Q x = lI (q x)) (bp : ∀ x, -2 ^ 63 ≤ p x ∧ p x < 2 ^ 63) (bq : ∀ x, -2 ^ 63 ≤ q x ∧ q x < 2 ^ 63) (h0 : x0 < 65536) (odd : ¬ (p x0 % 2 = 0 ∧ q x0 % 2 = 0)) (h1 : x1 < 65536) (big : ¬ ((-1000000 ≤ p x1 ∧ p x1 ≤ 1000000) ∧ (-1000000 ≤ q x1 ∧ q x1 ≤ 1000000))) (hm : 0 < m) (he : enX P Q c κ) : okN P Q m c κ = false := by
  rcases he with he | he
  · obtain ⟨l0, hl0, e0⟩ := (he.2 x0).mpr ⟨h0, by
      rw [hP, hQ, nz_I (bp _).1 (bp _).2 (bq _).1 (bq _).2]
      intro z
      rw [z.1, z.2] at odd
      exact odd ⟨rfl, rfl⟩⟩
    obtain ⟨l1, hl1, e1⟩ := (he.2 x1).mpr ⟨h1, by
      rw [hP, hQ, nz_I (bp _).1 (bp _).2 (bq _).1 (bq _).2]
      intro z
      rw [z.1, z.2] at big
      exact big (by decide)⟩
    obtain ⟨k, rfl⟩ : ∃ k, m = k + 1 := ⟨m - 1, by omega⟩
    have c0 : ¬ c = 0 := by omega
    have ev : allN (fun l => e1J (P (κ l)) (Q (κ l))) c = false := all_f hl0 (by
      cases hz : e1J (P (κ l0)) (Q (κ l0)) with
      | false => rfl
      | true =>
        rw [e0, hP, hQ, e1_I (bp _).1 (bp _).2 (bq _).1 (bq _).2] at hz
        exact absurd hz odd)
    have es : stP P Q (k + 1) c κ = (k + 1, (fun l => P (κ l)), fun l => Q (κ l)) := by
      unfold stP
      rw [if_neg c0]
      simp only [stl]
      rw [ev, if_neg (by decide)]
    unfold okN stOK
    rw [es]
    have sm : allN (fun l => smJ (P (κ l)) && smJ (Q (κ l))) c = false := all_f hl1 (by
      cases hz : smJ (P (κ l1)) && smJ (Q (κ l1)) with
      | false => rfl
      | true =>
        rw [Bool.and_eq_true, e1, hP, hQ, sm_I (bp _).1 (bp _).2, sm_I (bq _).1 (bq _).2] at hz
        exact absurd hz big)
    show (decide (c ≤ 150) && (decide (k + 1 ≤ 60) && allN (fun l => smJ (P (κ l)) && smJ (Q (κ l))) c)) = false
    rw [sm, Bool.and_false, Bool.and_false]
  · unfold okN
    rw [decide_eq_false (by omega)]
    rfl
theorem sh_I {e : Nat} (h : e < 41) : shA e = lI (2 ^ e) := by
  have : ∀ e, e < 41 → shA e = lI (2 ^ e) := by decide +kernel
  exact this e h
theorem sm_t {v : Int64} (h : smJ v = true) : -1000000 ≤ v.toInt ∧ v.toInt ≤ 1000000 := by
  rw [show v = lI v.toInt from (Int64.ofInt_toInt v).symm, sm_I (Int64.le_toInt v) (Int64.toInt_lt v)] at h
  exact h
section FAR
variable {κ : Nat → Nat} {R : Nat → Int32} {s : Nat}
theorem lkp_b {x : Nat} : ∀ s, (∀ i, i < s → smJ (R i).toInt64 = true) → -1000000 ≤ (lkp κ R s x).toInt ∧ (lkp κ R s x).toInt ≤ 1000000
  | 0, _ => by
    show -1000000 ≤ (0 : Int64).toInt ∧ (0 : Int64).toInt ≤ 1000000
    decide
  | s + 1, h => by
    simp only [lkp]
    by_cases e : κ s = x
    · rw [if_pos e]
      exact sm_t (h s (by omega))
    · rw [if_neg e]
      exact lkp_b s fun i hi => h i (by omega)
end FAR
/-- a number of the two together, as it is -/
def adI (dA dX : Nat) (z : Int) (A X : Nat × (Nat → Nat) × (Nat → Int32)) (x : Nat) : Int := 2 ^ dA * (lkp A.2.1 A.2.2 A.1 x).toInt + 2 ^ dX * (z * (lkp X.2.1 X.2.2 X.1 x).toInt)
theorem ad_i {dA dX : Nat} {sg : Int32} {z : Int} {A X : Nat × (Nat → Nat) × (Nat → Int32)} (hA : dA < 41) (hX : dX < 41) (hs : sg = 1 ∧ z = 1 ∨ sg = -1 ∧ z = -1) (x : Nat) : adP (shA dA) (sg.toInt64 <<< ((nI dX).toInt64 &&& 63)) A X x = lI (adI dA dX z A X x) := by
  have es : sg.toInt64 = lI z := by
    rcases hs with ⟨rfl, rfl⟩ | ⟨rfl, rfl⟩
    · rfl
    · rfl
  have l1 : ∀ v : Int64, v = lI v.toInt := fun v => (Int64.ofInt_toInt v).symm
  show shA dA * lkp A.2.1 A.2.2 A.1 x + sg.toInt64 <<< ((nI dX).toInt64 &&& 63) * lkp X.2.1 X.2.2 X.1 x = _
  rw [sh_v, sh_I hA, sh_I hX, es, l1 (lkp A.2.1 A.2.2 A.1 x), l1 (lkp X.2.1 X.2.2 X.1 x), lI_mul, lI_mul, lI_mul, lI_add]
  unfold adI
  rw [Int.mul_assoc]
theorem pw_b {e : Nat} (h : e < 41) : (1 : Int) ≤ 2 ^ e ∧ (2 : Int) ^ e ≤ 2 ^ 40 := by
  have : ∀ e, e < 41 → (1 : Int) ≤ 2 ^ e ∧ (2 : Int) ^ e ≤ 2 ^ 40 := by decide +kernel
  exact this e h
theorem mul_b {u v : Int} (h1 : 1 ≤ u ∧ u ≤ 2 ^ 40) (h2 : -1000000 ≤ v ∧ v ≤ 1000000) : -1000000 * 2 ^ 40 ≤ u * v ∧ u * v ≤ 1000000 * 2 ^ 40 := by
  have a1 : u * v ≤ u * 1000000 := Int.mul_le_mul_of_nonneg_left h2.2 (by omega)
  have a2 : u * -1000000 ≤ u * v := Int.mul_le_mul_of_nonneg_left h2.1 (by omega)
  omega
theorem ad_b {dA dX : Nat} {z : Int} {A X : Nat × (Nat → Nat) × (Nat → Int32)} (hA : dA < 41) (hX : dX < 41) (hz : z = 1 ∨ z = -1) (sA : ∀ i, i < A.1 → smJ (A.2.2 i).toInt64 = true) (sX : ∀ i, i < X.1 → smJ (X.2.2 i).toInt64 = true) (x : Nat) : -2 ^ 63 ≤ adI dA dX z A X x ∧ adI dA dX z A X x < 2 ^ 63 := by
  have b1 := lkp_b (κ := A.2.1) (x := x) A.1 sA
  have b2 := lkp_b (κ := X.2.1) (x := x) X.1 sX
  have m1 := mul_b (pw_b hA) b1
  have m2 := mul_b (pw_b hX) (v := z * (lkp X.2.1 X.2.2 X.1 x).toInt) (by rcases hz with rfl | rfl <;> omega)
  unfold adI
  omega
theorem big_b {e : Nat} {v w : Int} (h : 21 < e) (h2 : e < 41) (hv : v ≠ 0) (hw : -1000000 ≤ w ∧ w ≤ 1000000) : ¬ (-1000000 ≤ w + 2 ^ e * v ∧ w + 2 ^ e * v ≤ 1000000) := by
  have p : (2 : Int) ^ 22 ≤ 2 ^ e := by
    have : ∀ e, e < 41 → 21 < e → (2 : Int) ^ 22 ≤ 2 ^ e := by decide +kernel
    exact this e h2 h
  rcases Int.lt_or_gt_of_ne hv with c | c
  · have a : 2 ^ e * v ≤ 2 ^ e * (-1 : Int) := Int.mul_le_mul_of_nonneg_left (by omega) (by omega)
    omega
  · have a : 2 ^ e * (1 : Int) ≤ 2 ^ e * v := Int.mul_le_mul_of_nonneg_left (by omega) (by omega)
    omega
theorem ev_w {e : Nat} {v : Int} (h : 0 < e) : (2 ^ e * v) % 2 = 0 := by
  obtain ⟨k, rfl⟩ : ∃ k, e = k + 1 := ⟨e - 1, by omega⟩
  rw [Int.pow_succ, Int.mul_assoc, Int.mul_comm (2 ^ k), Int.mul_assoc, Int.mul_emod_right]
theorem od_I {u v : Int64} (h : e1J u v = false) : ¬ (u.toInt % 2 = 0 ∧ v.toInt % 2 = 0) := by
  intro z
  have := (e1_I (Int64.le_toInt u) (Int64.toInt_lt u) (Int64.le_toInt v) (Int64.toInt_lt v)).mpr z
  rw [show lI u.toInt = u from Int64.ofInt_toInt u, show lI v.toInt = v from Int64.ofInt_toInt v, h] at this
  exact absurd this (by decide)
theorem nz_t {u v : Int64} (h : nzJ u v = true) : u.toInt ≠ 0 ∨ v.toInt ≠ 0 := by
  rw [show u = lI u.toInt from (Int64.ofInt_toInt u).symm, show v = lI v.toInt from (Int64.ofInt_toInt v).symm, nz_I (Int64.le_toInt u) (Int64.toInt_lt u) (Int64.le_toInt v) (Int64.toInt_lt v)] at h
  omega
/-- numbers that can be told, none of them nothing -/
def gdS (S : SU) : Prop := ∀ i, i < S.1 → smJ (S.2.2.2.1 i).toInt64 = true ∧ smJ (S.2.2.2.2 i).toInt64 = true ∧ nzJ (S.2.2.2.1 i).toInt64 (S.2.2.2.2 i).toInt64 = true
theorem okS_gd {S : SU} (h : okS S) : gdS S := fun i hi => (h.2.2.2.1 i hi).2
/-- some number is odd, if there are halves -/
def odS (S : SU) : Prop := S.2.1 = 0 ∨ ∃ i, i < S.1 ∧ e1J (S.2.2.2.1 i).toInt64 (S.2.2.2.2 i).toInt64 = false
theorem far_k {A X : SU} {sg : Int32} {z : Int} {c : Nat} {κ : Nat → Nat} (hs : sg = 1 ∧ z = 1 ∨ sg = -1 ∧ z = -1) (oA : orS A) (oX : orS X) (gA : gdS A) (gX : gdS X) (dA : odS A) (dX : odS X) (hR : farR A X) (hC : ¬ farC A X) (he : enX (suP (max A.2.1 X.2.1) sg A X) (suQ (max A.2.1 X.2.1) sg A X) c κ) : okN (suP (max A.2.1 X.2.1) sg A X) (suQ (max A.2.1 X.2.1) sg A X) (max A.2.1 X.2.1) c κ = false := by
  have hz : z = 1 ∨ z = -1 := by rcases hs with ⟨_, h⟩ | ⟨_, h⟩ <;> omega
  have hz0 : ∀ w : Int, w ≠ 0 → z * w ≠ 0 := fun w hw => by rcases hz with rfl | rfl <;> omega
  have hzm : ∀ w : Int, -1000000 ≤ w ∧ w ≤ 1000000 → -1000000 ≤ z * w ∧ z * w ≤ 1000000 := fun w hw => by rcases hz with rfl | rfl <;> omega
  unfold farR at hR
  unfold farC at hC
  rcases hR with ⟨h1, h2⟩ | ⟨h1, h2⟩
  · -- A is far: X has the more halves
    have em : max A.2.1 X.2.1 = X.2.1 := by omega
    rw [em] at h2 hC he ⊢
    have b1 : X.2.1 - A.2.1 < 41 := by omega
    have b2 : X.2.1 - X.2.1 < 41 := by omega
    have e0 : X.2.1 - X.2.1 = 0 := by omega
    obtain ⟨i, hi, ho⟩ := dX.resolve_left (by omega)
    have ho := od_I ho
    have kA := gA 0 h1
    have nA := nz_t kA.2.2
    have wA : ∀ R, lkp A.2.2.1 R A.1 (A.2.2.1 0) = (R 0).toInt64 := fun R => lkp_in A.1 (ris_i oA.2.2.1) h1
    have wX : ∀ R, lkp X.2.2.1 R X.1 (X.2.2.1 i) = (R i).toInt64 := fun R => lkp_in X.1 (ris_i oX.2.2.1) hi
    refine far_no (p := adI (X.2.1 - A.2.1) (X.2.1 - X.2.1) z (A.1, A.2.2.1, A.2.2.2.1) (X.1, X.2.2.1, X.2.2.2.1)) (q := adI (X.2.1 - A.2.1) (X.2.1 - X.2.1) z (A.1, A.2.2.1, A.2.2.2.2) (X.1, X.2.2.1, X.2.2.2.2)) (x0 := X.2.2.1 i) (x1 := A.2.2.1 0) (ad_i b1 b2 hs) (ad_i b1 b2 hs) (ad_b b1 b2 hz (fun j hj => (gA j hj).1) (fun j hj => (gX j hj).1)) (ad_b b1 b2 hz (fun j hj => (gA j hj).2.1) (fun j hj => (gX j hj).2.1)) (oX.2.2.2 i hi) ?_ (oA.2.2.2 0 h1) ?_ (by omega) he
    · unfold adI
      dsimp only
      rw [wX, wX, e0]
      have q1 := ev_w (e := X.2.1 - A.2.1) (v := (lkp A.2.2.1 A.2.2.2.1 A.1 (X.2.2.1 i)).toInt) (by omega)
      have q2 := ev_w (e := X.2.1 - A.2.1) (v := (lkp A.2.2.1 A.2.2.2.2 A.1 (X.2.2.1 i)).toInt) (by omega)
      generalize 2 ^ (X.2.1 - A.2.1) * (lkp A.2.2.1 A.2.2.2.1 A.1 (X.2.2.1 i)).toInt = y1 at *
      generalize 2 ^ (X.2.1 - A.2.1) * (lkp A.2.2.1 A.2.2.2.2 A.1 (X.2.2.1 i)).toInt = y2 at *
      rcases hz with rfl | rfl <;> omega
    · unfold adI
      dsimp only
      rw [wA, wA, e0]
      have l1 := hzm _ (lkp_b (κ := X.2.2.1) (x := A.2.2.1 0) X.1 fun j hj => (gX j hj).1)
      have l2 := hzm _ (lkp_b (κ := X.2.2.1) (x := A.2.2.1 0) X.1 fun j hj => (gX j hj).2.1)
      intro y
      rcases nA with nA | nA
      · have := big_b h2 b1 nA l1
        omega
      · have := big_b h2 b1 nA l2
        omega
  · have em : max A.2.1 X.2.1 = A.2.1 := by omega
    rw [em] at h2 hC he ⊢
    have b1 : A.2.1 - A.2.1 < 41 := by omega
    have b2 : A.2.1 - X.2.1 < 41 := by omega
    have e0 : A.2.1 - A.2.1 = 0 := by omega
    obtain ⟨i, hi, ho⟩ := dA.resolve_left (by omega)
    have ho := od_I ho
    have kX := gX 0 h1
    have nX := nz_t kX.2.2
    have wX : ∀ R, lkp X.2.2.1 R X.1 (X.2.2.1 0) = (R 0).toInt64 := fun R => lkp_in X.1 (ris_i oX.2.2.1) h1
    have wA : ∀ R, lkp A.2.2.1 R A.1 (A.2.2.1 i) = (R i).toInt64 := fun R => lkp_in A.1 (ris_i oA.2.2.1) hi
    refine far_no (p := adI (A.2.1 - A.2.1) (A.2.1 - X.2.1) z (A.1, A.2.2.1, A.2.2.2.1) (X.1, X.2.2.1, X.2.2.2.1)) (q := adI (A.2.1 - A.2.1) (A.2.1 - X.2.1) z (A.1, A.2.2.1, A.2.2.2.2) (X.1, X.2.2.1, X.2.2.2.2)) (x0 := A.2.2.1 i) (x1 := X.2.2.1 0) (ad_i b1 b2 hs) (ad_i b1 b2 hs) (ad_b b1 b2 hz (fun j hj => (gA j hj).1) (fun j hj => (gX j hj).1)) (ad_b b1 b2 hz (fun j hj => (gA j hj).2.1) (fun j hj => (gX j hj).2.1)) (oA.2.2.2 i hi) ?_ (oX.2.2.2 0 h1) ?_ (by omega) he
    · unfold adI
      dsimp only
      rw [wA, wA, e0]
      have q1 := ev_w (e := A.2.1 - X.2.1) (v := z * (lkp X.2.2.1 X.2.2.2.1 X.1 (A.2.2.1 i)).toInt) (by omega)
      have q2 := ev_w (e := A.2.1 - X.2.1) (v := z * (lkp X.2.2.1 X.2.2.2.2 X.1 (A.2.2.1 i)).toInt) (by omega)
      generalize 2 ^ (A.2.1 - X.2.1) * (z * (lkp X.2.2.1 X.2.2.2.1 X.1 (A.2.2.1 i)).toInt) = y1 at *
      generalize 2 ^ (A.2.1 - X.2.1) * (z * (lkp X.2.2.1 X.2.2.2.2 X.1 (A.2.2.1 i)).toInt) = y2 at *
      omega
    · unfold adI
      dsimp only
      rw [wX, wX, e0]
      have l1 := lkp_b (κ := A.2.2.1) (R := A.2.2.2.1) (x := X.2.2.1 0) A.1 fun j hj => (gA j hj).1
      have l2 := lkp_b (κ := A.2.2.1) (R := A.2.2.2.2) (x := X.2.2.1 0) A.1 fun j hj => (gA j hj).2.1
      intro y
      rcases nX with nX | nX
      · have := big_b h2 b2 (hz0 _ nX) l1
        omega
      · have := big_b h2 b2 (hz0 _ nX) l2
        omega
