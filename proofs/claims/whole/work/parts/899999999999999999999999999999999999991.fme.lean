/-! FORM: the numbers stay small -/
theorem red_n0 : ∀ (k : Nat) (x : R4), (red k x).2 ≠ 0 → ¬ dv (red k x).1
  | 0, _, h => absurd rfl h
  | k + 1, x, h => by
    have e : red (k + 1) x = if x = (0, 0, 0, 0) then (x, 0) else if dvB x = true then red k (hv x) else (x, k + 1) := rfl
    by_cases z : x = (0, 0, 0, 0)
    · rw [e, if_pos z] at h
      exact absurd rfl h
    · rw [e, if_neg z] at h ⊢
      by_cases q : dvB x = true
      · rw [if_pos q] at h ⊢
        exact red_n0 k (hv x) h
      · rw [if_neg q]
        exact fun w => q ((dvB_iff x).mpr w)
theorem sq_m2 (a : Int) : a * a % 2 = a % 2 := by
  rw [Int.mul_emod]
  rcases Int.emod_two_eq a with h | h <;> rw [h] <;> rfl
/-- a number that root 2 does not divide: its square is not divided by 2 -/
theorem nq_2 {n z : R4} (h : ¬ dv n) (e : mu (cj n) n = rn 2 z) : False := by
  obtain ⟨a, b, c, d⟩ := n
  have e1 := congrArg Prod.fst e
  have e2 := congrArg (fun q : R4 => q.2.1) e
  rw [rn_2] at e1 e2
  simp only [mu, cj, ra] at e1 e2
  rw [Int.neg_mul, Int.neg_mul, Int.neg_mul] at e1 e2
  have s1 := sq_m2 a
  have s2 := sq_m2 b
  have s3 := sq_m2 c
  have s4 := sq_m2 d
  have ex : (a + c) * (b + d) = a * b + a * d + (c * b + c * d) := by
    rw [Int.add_mul, Int.mul_add, Int.mul_add]
  have c1 := Int.mul_comm d a
  have c2 := Int.mul_comm b c
  have hsum : (a + b + c + d) % 2 = 0 := by omega
  have hprod : (a + c) * (b + d) % 2 = 0 := by omega
  rw [Int.mul_emod] at hprod
  have : (a + c) % 2 = 0 ∨ (b + d) % 2 = 0 := by
    rcases Int.emod_two_eq (a + c) with q | q
    · exact Or.inl q
    · rcases Int.emod_two_eq (b + d) with q' | q'
      · exact Or.inr q'
      · rw [q, q'] at hprod
        exact absurd hprod (by decide)
  refine h ⟨?_, ?_⟩
  · show (a - c) % 2 = 0
    omega
  · show (b - d) % 2 = 0
    omega
theorem exq_1 {x Z A : R4} {K m : Nat} (h : ra (mu (cj x) x) (mu (cj x) x) = ra (rn (2 * K) (1, 0, 0, 0)) Z) (hz : rn m Z = rn (2 * K) A) : (red K x).2 ≤ (m + 3) / 2 := by
  by_cases c : (red K x).2 = 0
  · omega
  · apply Classical.byContradiction
    intro q
    obtain ⟨l1, l2⟩ := red_v K x
    have nd := red_n0 K x c
    generalize (red K x).1 = n at *
    generalize (red K x).2 = l at *
    have e1 : mu (cj x) x = rn (2 * (K - l)) (mu (cj n) n) := by rw [← l2, cj_rn, mu_rn2, Nat.two_mul]
    rw [← rn_2, e1, ← rn_a] at h
    have h' := congrArg (rn m) h
    rw [rn_ra, hz, rn_cm (1, 0, 0, 0) m, ← rn_ra, ← rn_a] at h'
    have e2 : 2 * K = m + (2 + 2 * (K - l)) + (2 + (2 * l - m - 4)) := by omega
    generalize hY : ra (rn m (1, 0, 0, 0)) A = Y at h'
    generalize hT : 2 * K = T at h' e2
    have e3 : rn T Y = rn (m + (2 + 2 * (K - l))) (rn (2 + (2 * l - m - 4)) Y) := by rw [e2, rn_a]
    rw [e3] at h'
    have h' := rn_i _ h'
    rw [rn_a] at h'
    exact nq_2 nd h'
theorem nq_s (x : R4) : ∀ y : R4, ra (ra (mu (cj x) x) (mu (cj y) y)) (ra (mu (cj x) x) (ng (mu (cj y) y))) = ra (mu (cj x) x) (mu (cj x) x) := by
  intro y
  generalize mu (cj x) x = a
  generalize mu (cj y) y = b
  apply r4_e <;> simp only [ra, ng] <;> omega
theorem nq_t (x y : R4) : ra (ra (mu (cj x) x) (mu (cj y) y)) (ng (ra (mu (cj x) x) (ng (mu (cj y) y)))) = ra (mu (cj y) y) (mu (cj y) y) := by
  generalize mu (cj x) x = a
  generalize mu (cj y) y = b
  apply r4_e <;> simp only [ra, ng] <;> omega
theorem ce_00 (x : R2) : ce 0 x x = ra (mu (cj x.1) x.1) (mu (cj x.2) x.2) := rfl
theorem ce_33 (x : R2) : ce 3 x x = ra (mu (cj x.1) x.1) (ng (mu (cj x.2) x.2)) := by
  show ra (mu (cj x.1) x.1) (mu (t8n 4 (cj x.2)) x.2) = _
  rw [mu_t8n, t8_4]
theorem ex_w {w : List Nat} {m : Nat} {A : Nat → Nat → R4} (h : lv w m A) : (red (wk w) (rw0 w).1).2 ≤ (m + 3) / 2 ∧ (red (wk w) (rw0 w).2).2 ≤ (m + 3) / 2 ∧ (red (wk w) (rw1 w).1).2 ≤ (m + 3) / 2 ∧ (red (wk w) (rw1 w).2).2 ≤ (m + 3) / 2 := by
  obtain ⟨⟨u0, u1, _, _⟩, tr⟩ := uI_w w
  have t3 := tr 3 (by decide) (by decide)
  have hz := (h 3 (by decide) (by decide)).2.2
  unfold bZ at hz
  have hz' : rn m (ng (ce 3 (rw0 w) (rw0 w))) = rn (2 * wk w) (ng (A 2 3)) := by rw [ng_rn, hz, ng_rn]
  rw [ce_00] at u0 u1
  refine ⟨exq_1 (Z := ce 3 (rw0 w) (rw0 w)) ?_ hz, exq_1 (Z := ng (ce 3 (rw0 w) (rw0 w))) ?_ hz', exq_1 (Z := ng (ce 3 (rw0 w) (rw0 w))) ?_ hz', exq_1 (Z := ce 3 (rw0 w) (rw0 w)) ?_ hz⟩
  · rw [← u0, ce_33, nq_s]
  · rw [← u0, ce_33, nq_t]
  · rw [← t3, ← u1, ce_33, nq_s]
  · have : ce 3 (rw0 w) (rw0 w) = ng (ce 3 (rw1 w) (rw1 w)) := by rw [t3, ng_ng]
    rw [this, ← u1, ce_33, nq_t]
/-- columns keep their length -/
theorem gv_nm (g : Nat) (p : R2) : nrm (gv g p).1 + nrm (gv g p).2 = 2 ^ hk g * (nrm p.1 + nrm p.2) := by
  unfold gv hk
  split
  · show nrm (ra p.1 p.2) + nrm (ra p.1 (ng p.2)) = 2 ^ 1 * _
    rw [nrm_par]
    rfl
  · show _ = 2 ^ 0 * _
    rw [show (2 : Int) ^ 0 = 1 from rfl, Int.one_mul]
    split
    · exact Int.add_comm _ _
    · split
      · show nrm (t8n 6 p.2) + nrm (t8n 2 p.1) = _
        rw [nrm_t8n, nrm_t8n]
        exact Int.add_comm _ _
      · show nrm p.1 + nrm (t8n (gph g) p.2) = _
        rw [nrm_t8n]
theorem wv_nm (p : R2) : ∀ w, nrm (wv w p).1 + nrm (wv w p).2 = 2 ^ wk w * (nrm p.1 + nrm p.2)
  | [] => by
    show nrm p.1 + nrm p.2 = 2 ^ 0 * _
    rw [show (2 : Int) ^ 0 = 1 from rfl, Int.one_mul]
  | g :: w => by
    show nrm (gv g (wv w p)).1 + nrm (gv g (wv w p)).2 = 2 ^ (wk w + hk g) * _
    rw [gv_nm, wv_nm p w, Int.pow_add, ← Int.mul_assoc, Int.mul_comm (2 ^ hk g)]
theorem nm_0 (x : R4) : 0 ≤ nrm x := by
  unfold nrm
  have a := sq_0 x.1
  have b := sq_0 x.2.1
  have c := sq_0 x.2.2.1
  have e := sq_0 x.2.2.2
  omega
theorem nm_w (w : List Nat) : nrm (rw0 w).1 ≤ 2 ^ wk w ∧ nrm (rw0 w).2 ≤ 2 ^ wk w ∧ nrm (rw1 w).1 ≤ 2 ^ wk w ∧ nrm (rw1 w).2 ≤ 2 ^ wk w := by
  have a := wv_nm e0 w
  have b := wv_nm e1 w
  rw [show nrm e0.1 + nrm e0.2 = 1 from rfl, Int.mul_one] at a
  rw [show nrm e1.1 + nrm e1.2 = 1 from rfl, Int.mul_one] at b
  have a1 := nm_0 (wv w e0).1
  have a2 := nm_0 (wv w e0).2
  have b1 := nm_0 (wv w e1).1
  have b2 := nm_0 (wv w e1).2
  refine ⟨?_, ?_, ?_, ?_⟩
  · show nrm (wv w e0).1 ≤ _
    omega
  · show nrm (wv w e1).1 ≤ _
    omega
  · show nrm (wv w e0).2 ≤ _
    omega
  · show nrm (wv w e1).2 ≤ _
    omega
theorem p2_0 (n : Nat) : (0 : Int) < 2 ^ n := Int.pow_pos (by decide)
/-- the same number over a small power -/
theorem sm_1 {x : R4} {K L : Nat} (h : (red K x).2 ≤ L) (hn : nrm x ≤ 2 ^ K) : ∃ x', rn K x' = rn L x ∧ nrm x' ≤ 2 ^ L ∧ red L x' = red K x := by
  obtain ⟨l1, l2⟩ := red_v K x
  have key : rn K (rn (L - (red K x).2) (red K x).1) = rn L x := by
    rw [← rn_a]
    conv => rhs; rw [← l2]
    rw [← rn_a]
    congr 1
    omega
  refine ⟨rn (L - (red K x).2) (red K x).1, key, ?_, red_u key⟩
  rw [← l2, nrm_rn] at hn
  rw [nrm_rn]
  generalize (red K x).2 = l at *
  generalize nrm (red K x).1 = v at *
  rw [show (2 : Int) ^ K = 2 ^ (K - l) * 2 ^ l from by rw [← Int.pow_add]; congr 1; omega] at hn
  have hv := Int.le_of_mul_le_mul_left hn (p2_0 _)
  rw [show (2 : Int) ^ L = 2 ^ (L - l) * 2 ^ l from by rw [← Int.pow_add]; congr 1; omega]
  exact Int.mul_le_mul_of_nonneg_left hv (Int.le_of_lt (p2_0 _))
/-- a matrix over a small power, as it is stored -/
def smR (w : List Nat) (L : Nat) (x y : R2) : Prop := prn (wk w) x = prn L (rw0 w) ∧ prn (wk w) y = prn L (rw1 w) ∧ (nrm x.1 ≤ 2 ^ L ∧ nrm x.2 ≤ 2 ^ L ∧ nrm y.1 ≤ 2 ^ L ∧ nrm y.2 ≤ 2 ^ L) ∧ red L x.1 = red (wk w) (rw0 w).1 ∧ red L x.2 = red (wk w) (rw0 w).2 ∧ red L y.1 = red (wk w) (rw1 w).1 ∧ red L y.2 = red (wk w) (rw1 w).2
theorem sm_w {w : List Nat} {m : Nat} {A : Nat → Nat → R4} (h : lv w m A) : ∃ x y, smR w ((m + 3) / 2) x y := by
  obtain ⟨a, b, c, d⟩ := ex_w h
  obtain ⟨n1, n2, n3, n4⟩ := nm_w w
  obtain ⟨x1, p1, p2, p3⟩ := sm_1 a n1
  obtain ⟨x2, q1, q2, q3⟩ := sm_1 b n2
  obtain ⟨y1, r1, r2, r3⟩ := sm_1 c n3
  obtain ⟨y2, s1, s2, s3⟩ := sm_1 d n4
  exact ⟨(x1, x2), (y1, y2), Prod.ext p1 q1, Prod.ext r1 s1, ⟨p2, q2, r2, s2⟩, p3, q3, r3, s3⟩
theorem nd_sm {K L : Nat} {x y x' y' : R2} (h0 : prn K x' = prn L x) (h1 : prn K y' = prn L y) : ndM L x' y' = ndM K x y := by
  have c : ∀ {a b a' b' : R2}, prn K a' = prn L a → prn K b' = prn L b → ∀ p, rn (2 * K) (ce p a' b') = rn (2 * L) (ce p a b) := fun {a b a' b'} u v p => ceq_e (e := 0) u v p
  have z : ∀ p, red (2 * L) (bZ p x') = red (2 * K) (bZ p x) := fun p => red_u (c h0 h0 p)
  have up : ∀ {u v : R4}, rn (2 * K) u = rn (2 * L) v → rn (2 * K + 2) u = rn (2 * L + 2) v := fun {u v} q => by
    rw [Nat.add_comm (2 * K), rn_a, Nat.add_comm (2 * L), rn_a, q]
  have hx : ∀ p, red (2 * L + 2) (bX p x' y') = red (2 * K + 2) (bX p x y) := fun p => red_u (up (by
    unfold bX
    rw [rn_ra, c h0 h1 p, c h1 h0 p, ← rn_ra]))
  have hy : ∀ p, red (2 * L + 2) (bY p x' y') = red (2 * K + 2) (bY p x y) := fun p => red_u (up (by
    unfold bY
    rw [rn_t8, rn_ra, ng_rn, c h0 h1 p, c h1 h0 p, ← ng_rn, ← rn_ra, ← rn_t8]))
  unfold ndM ndP1
  rw [z, z, z, hx, hx, hx, hy, hy, hy]
