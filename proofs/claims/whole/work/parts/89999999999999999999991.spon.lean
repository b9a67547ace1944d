/-! spoil: the sum of the squares -/
theorem q_id (p t a b : Int) : (p + t) * (p * (a * a) + t * (b * b)) = (p * a + t * b) * (p * a + t * b) + p * t * ((a - b) * (a - b)) := by
  grind
theorem q_le {p t : Int} (hp : 0 ≤ p) (ht : 0 ≤ t) (a b : Int) : (p * a + t * b) * (p * a + t * b) ≤ (p + t) * (p * (a * a) + t * (b * b)) := by
  rw [q_id]
  have := Int.mul_nonneg (Int.mul_nonneg hp ht) (sq_0 (a - b))
  omega
theorem q_le2 (S T a b : Int) : (S * a + T * b) * (S * a + T * b) ≤ (S.natAbs + T.natAbs : Int) * (S.natAbs * (a * a) + T.natAbs * (b * b)) := by
  have hs : S = S.natAbs ∨ S = -S.natAbs := by omega
  have ht : T = T.natAbs ∨ T = -T.natAbs := by omega
  have p0 : (0 : Int) ≤ S.natAbs := by omega
  have t0 : (0 : Int) ≤ T.natAbs := by omega
  generalize (S.natAbs : Int) = p at *
  generalize (T.natAbs : Int) = t at *
  rcases hs with rfl | rfl
  · rcases ht with rfl | rfl
    · exact q_le p0 t0 a b
    · have := q_le p0 t0 a (-b)
      rw [Int.neg_mul_neg] at this
      rw [show S * a + -t * b = S * a + t * -b by rw [Int.neg_mul, Int.mul_neg]]
      exact this
  · rcases ht with rfl | rfl
    · have := q_le p0 t0 (-a) b
      rw [Int.neg_mul_neg] at this
      rw [show -p * a + T * b = p * -a + T * b by rw [Int.neg_mul, Int.mul_neg]]
      exact this
    · have := q_le p0 t0 a b
      rw [show -p * a + -t * b = -(p * a + t * b) by rw [Int.neg_mul, Int.neg_mul]; omega, Int.neg_mul_neg]
      exact this
theorem nrm_lin (S T : Int) (x y : R4) : nrm (lin S x T y) ≤ (S.natAbs + T.natAbs : Int) * (S.natAbs * nrm x + T.natAbs * nrm y) := by
  have a := q_le2 S T x.1 y.1
  have b := q_le2 S T x.2.1 y.2.1
  have c := q_le2 S T x.2.2.1 y.2.2.1
  have e := q_le2 S T x.2.2.2 y.2.2.2
  unfold nrm lin
  dsimp only
  grind
