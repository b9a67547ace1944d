/-! DENSITIES: sums of STATES; their squares are within the trace's -/
/-- a sum of STATES with weights -/
def dnL : List (Nat × (Nat → R4)) → Nat → Nat → R4
  | [], _, _ => (0, 0, 0, 0)
  | a :: l, i, j => ra (scl (a.1 : Int) (mu (a.2 i) (cj (a.2 j)))) (dnL l i j)
/-- a DENSITY: a sum of STATES, its trace one -/
def lgD (w k : Nat) (xs : Nat → R4) : Prop := (∃ e l, ∀ i j, i < 2 ^ w → j < 2 ^ w → rn e (xs (i + 2 ^ w * j)) = dnL l i j) ∧ sR (fun i => xs (i + 2 ^ w * i)) (2 ^ w) = rn k (1, 0, 0, 0)
section DNA
variable {N : Nat}
/-- two parts, multiplied one by one -/
def dt (x y : R4) : Int := x.1 * y.1 + x.2.1 * y.2.1 + x.2.2.1 * y.2.2.1 + x.2.2.2 * y.2.2.2
theorem dt_mu (x y : R4) : (mu x (cj y)).1 = dt x y := by
  obtain ⟨a, b, c, d⟩ := x
  obtain ⟨e, f, g, h⟩ := y
  simp only [mu, cj, dt]
  grind
theorem dt_n (x : R4) : dt x x = nrm x := rfl
theorem dt_c (x y : R4) : dt x y = dt y x := by
  simp only [dt]
  grind
theorem dt_ra (x y z : R4) : dt (ra x y) z = dt x z + dt y z := by
  simp only [dt, ra]
  grind
theorem dt_ra2 (x y z : R4) : dt z (ra x y) = dt z x + dt z y := by rw [dt_c, dt_ra, dt_c x, dt_c y]
theorem dt_sc (c : Int) (x y : R4) : dt (scl c x) y = c * dt x y := by
  simp only [dt, scl]
  grind
theorem dt_0 (y : R4) : dt (0, 0, 0, 0) y = 0 := by
  simp only [dt]
  grind
theorem nrm_ra (x y : R4) : nrm (ra x y) = nrm x + 2 * dt x y + nrm y := by
  simp only [nrm, ra, dt]
  grind
theorem nrm_sc (c : Int) (x : R4) : nrm (scl c x) = c * c * nrm x := by
  simp only [nrm, scl]
  grind
theorem dt_le (x y : R4) : 2 * dt x y ≤ nrm x + nrm y := by
  have h := nrm0 (ra x (scl (-1) y))
  rw [nrm_ra, nrm_sc, dt_c, dt_sc, dt_c y] at h
  omega
theorem mu_4 (x y z w : R4) : mu (mu x y) (mu z w) = mu (mu x z) (mu y w) := by
  rw [mu_as, ← mu_as y z w, mu_c y z, mu_as z y w, ← mu_as]
theorem dt_p1 (a b c d : R4) : dt (mu a (cj b)) (mu c (cj d)) = dt (mu a d) (mu b c) := by
  rw [← dt_mu, ← dt_mu, mu_cj, mu_cj, cj_cj, mu_c (cj c) d, mu_4, mu_4 a d]
/-- sums over two places -/
def s2 (F : Nat → Nat → Int) (N : Nat) : Int := sI (fun i => sI (fun j => F i j) N) N
theorem s2_e {F G : Nat → Nat → Int} (h : ∀ i j, i < N → j < N → F i j = G i j) : s2 F N = s2 G N := sI_e N fun i hi => sI_e N fun j hj => h i j hi hj
theorem s2_le {F G : Nat → Nat → Int} (h : ∀ i j, i < N → j < N → F i j ≤ G i j) : s2 F N ≤ s2 G N := sI_le N fun i hi => sI_le N fun j hj => h i j hi hj
theorem s2_a (F G : Nat → Nat → Int) : s2 (fun i j => F i j + G i j) N = s2 F N + s2 G N := by
  unfold s2
  rw [← sI_add]
  exact sI_e N fun i _ => sI_add _ _ N
theorem s2_m (c : Int) (F : Nat → Nat → Int) : s2 (fun i j => c * F i j) N = c * s2 F N := by
  unfold s2
  rw [← sI_mul]
  exact sI_e N fun i _ => sI_mul c _ N
theorem sI_sw (F : Nat → Nat → Int) (m : Nat) : ∀ n, sI (fun i => sI (fun j => F i j) m) n = sI (fun j => sI (fun i => F i j) n) m
  | 0 => by
    have : ∀ m, sI (fun _ => sI (fun i => F i 0) 0) m = 0 := fun m => by
      induction m with
      | zero => rfl
      | succ m ih =>
        show sI (fun _ => sI (fun i => F i 0) 0) m + 0 = 0
        rw [ih]
        rfl
    exact (this m).symm
  | n + 1 => by
    show sI (fun i => sI (fun j => F i j) m) n + sI (fun j => F n j) m = sI (fun j => sI (fun i => F i j) n + F n j) m
    rw [sI_sw F m n, sI_add]
theorem s2_s (F : Nat → Nat → Int) : s2 (fun i j => F j i) N = s2 F N := sI_sw (fun i j => F j i) N N
theorem dt_s1 (F : Nat → R4) (y : R4) : ∀ n, dt (sR F n) y = sI (fun i => dt (F i) y) n
  | 0 => dt_0 y
  | n + 1 => by
    show dt (ra (sR F n) (F n)) y = sI (fun i => dt (F i) y) n + dt (F n) y
    rw [dt_ra, dt_s1 F y n]
theorem dt_s2 (F G : Nat → R4) : dt (sR F N) (sR G N) = s2 (fun i j => dt (F i) (G j)) N := by
  rw [dt_s1]
  refine sI_e N fun i _ => ?_
  rw [dt_c, dt_s1]
  exact sI_e N fun j _ => dt_c _ _
/-- two STATES: Cauchy and Schwarz -/
theorem cs_2 (u v : Nat → R4) : s2 (fun i j => dt (mu (u i) (cj (u j))) (mu (v i) (cj (v j)))) N ≤ dt (sR (fun i => mu (u i) (cj (u i))) N) (sR (fun j => mu (v j) (cj (v j))) N) := by
  rw [dt_s2, s2_e (F := fun i j => dt (mu (u i) (cj (u j))) (mu (v i) (cj (v j)))) (G := fun i j => dt (mu (u i) (v j)) (mu (u j) (v i))) (fun i j _ _ => dt_p1 _ _ _ _), s2_e (F := fun i j => dt (mu (u i) (cj (u i))) (mu (v j) (cj (v j)))) (G := fun i j => nrm (mu (u i) (v j))) (fun i j _ _ => dt_p1 _ _ _ _)]
  have h := s2_le (N := N) (F := fun i j => 2 * dt (mu (u i) (v j)) (mu (u j) (v i))) (G := fun i j => nrm (mu (u i) (v j)) + nrm (mu (u j) (v i))) (fun i j _ _ => dt_le _ _)
  rw [s2_m, s2_a, s2_s (fun i j => nrm (mu (u i) (v j)))] at h
  omega
/-- the trace of a sum of STATES -/
def dnT (l : List (Nat × (Nat → R4))) (N : Nat) : R4 := sR (fun i => dnL l i i) N
theorem sR_ra (F G : Nat → R4) : ∀ n, sR (fun i => ra (F i) (G i)) n = ra (sR F n) (sR G n)
  | 0 => rfl
  | n + 1 => by
    simp only [sR]
    rw [sR_ra F G n, ra_x4]
theorem ra_sc (c : Int) (x y : R4) : scl c (ra x y) = ra (scl c x) (scl c y) := by
  simp only [scl, ra, Int.add_mul]
theorem sR_sc (c : Int) (F : Nat → R4) : ∀ n, sR (fun i => scl c (F i)) n = scl c (sR F n)
  | 0 => by simp [sR, scl]
  | n + 1 => by
    simp only [sR]
    rw [sR_sc c F n, ra_sc]
theorem dnT_c (a : Nat × (Nat → R4)) (l : List (Nat × (Nat → R4))) : dnT (a :: l) N = ra (scl (a.1 : Int) (sR (fun i => mu (a.2 i) (cj (a.2 i))) N)) (dnT l N) := by
  unfold dnT
  show sR (fun i => ra (scl (a.1 : Int) (mu (a.2 i) (cj (a.2 i)))) (dnL l i i)) N = _
  rw [sR_ra, sR_sc]
theorem sR_00 : ∀ n, sR (fun _ => (0, 0, 0, 0)) n = (0, 0, 0, 0)
  | 0 => rfl
  | n + 1 => by
    simp only [sR]
    rw [sR_00 n]
    rfl
theorem cs_x (v : Nat → R4) : ∀ l : List (Nat × (Nat → R4)), s2 (fun i j => dt (dnL l i j) (mu (v i) (cj (v j)))) N ≤ dt (dnT l N) (sR (fun j => mu (v j) (cj (v j))) N)
  | [] => by
    have e : dnT [] N = (0, 0, 0, 0) := sR_00 N
    have z : s2 (fun i j => dt (dnL [] i j) (mu (v i) (cj (v j)))) N = 0 * s2 (fun _ _ => 0) N := (s2_e (G := fun _ _ => 0 * 0) (fun i j _ _ => dt_0 _)).trans (s2_m 0 (fun _ _ => 0))
    rw [e, dt_0, z]
    omega
  | a :: l => by
    have ih := cs_x v l
    rw [dnT_c, dt_ra, dt_sc, s2_e (G := fun i j => (a.1 : Int) * dt (mu (a.2 i) (cj (a.2 j))) (mu (v i) (cj (v j))) + dt (dnL l i j) (mu (v i) (cj (v j)))) (fun i j _ _ => by
      show dt (ra (scl (a.1 : Int) (mu (a.2 i) (cj (a.2 j)))) (dnL l i j)) _ = _
      rw [dt_ra, dt_sc]), s2_a, s2_m]
    have h := Int.mul_le_mul_of_nonneg_left (cs_2 (N := N) a.2 v) (Int.natCast_nonneg a.1)
    omega
/-- squares are within the trace's square -/
theorem dn_sq : ∀ l : List (Nat × (Nat → R4)), s2 (fun i j => nrm (dnL l i j)) N ≤ nrm (dnT l N)
  | [] => by
    have e : dnT [] N = (0, 0, 0, 0) := sR_00 N
    have z : s2 (fun i j => nrm (dnL [] i j)) N = 0 * s2 (fun _ _ => 0) N := (s2_e (G := fun _ _ => 0 * 0) (fun i j _ _ => rfl)).trans (s2_m 0 (fun _ _ => 0))
    rw [e, z, Int.zero_mul]
    decide
  | a :: l => by
    have ih := dn_sq l
    have x := cs_x (N := N) a.2 l
    rw [dnT_c, nrm_ra, nrm_sc, dt_sc]
    rw [s2_e (F := fun i j => nrm (dnL (a :: l) i j)) (G := fun i j => (a.1 : Int) * a.1 * nrm (mu (a.2 i) (cj (a.2 j))) + (2 * a.1) * dt (dnL l i j) (mu (a.2 i) (cj (a.2 j))) + nrm (dnL l i j)) (fun i j _ _ => by
      show nrm (ra (scl (a.1 : Int) (mu (a.2 i) (cj (a.2 j)))) (dnL l i j)) = _
      rw [nrm_ra, nrm_sc, dt_sc, dt_c (dnL l i j)]
      grind), s2_a, s2_a, s2_m, s2_m]
    have q : s2 (fun i j => nrm (mu (a.2 i) (cj (a.2 j)))) N = nrm (sR (fun i => mu (a.2 i) (cj (a.2 i))) N) := by
      rw [← dt_n, dt_s2]
      refine s2_e fun i j _ _ => ?_
      rw [← dt_n, dt_p1, dt_p1, dt_c, mu_c (a.2 j) (a.2 i)]
    rw [q, dt_c (sR (fun i => mu (a.2 i) (cj (a.2 i))) N) (dnT l N)]
    have h := Int.mul_le_mul_of_nonneg_left x (show (0 : Int) ≤ 2 * (a.1 : Int) by omega)
    have e : 2 * ((a.1 : Int) * dt (dnT l N) (sR (fun i => mu (a.2 i) (cj (a.2 i))) N)) = 2 * (a.1 : Int) * dt (dnT l N) (sR (fun i => mu (a.2 i) (cj (a.2 i))) N) := by grind
    omega
theorem sI_rows (F : Nat → Int) (N : Nat) : ∀ m, sI F (N * m) = sI (fun j => sI (fun i => F (i + N * j)) N) m
  | 0 => rfl
  | m + 1 => by
    show sI F (N * m + N) = sI (fun j => sI (fun i => F (i + N * j)) N) m + sI (fun i => F (i + N * m)) N
    rw [sI_app, sI_rows F N m, sI_e N fun i _ => by rw [Nat.add_comm (N * m) i]]
theorem sR_rn (F : Nat → R4) (e : Nat) : ∀ n, sR (fun i => rn e (F i)) n = rn e (sR F n)
  | 0 => (rn_0 e).symm
  | n + 1 => by
    simp only [sR]
    rw [sR_rn F e n, ra_rn]
/-- what a DENSITY gives -/
theorem lgD_s {w k : Nat} {xs : Nat → R4} (h : lgD w k xs) : sI (fun c => nrm (xs c)) (2 ^ (2 * w)) ≤ 2 ^ k := by
  obtain ⟨⟨e, l, h1⟩, h2⟩ := h
  have s := dn_sq (N := 2 ^ w) l
  have t : dnT l (2 ^ w) = rn (e + k) (1, 0, 0, 0) := by
    unfold dnT
    rw [sR_ext (2 ^ w) (fun i hi => (h1 i i hi hi).symm), sR_rn, h2, ← rn_a]
  rw [t, nrm_rn, s2_e (G := fun i j => 2 ^ e * nrm (xs (i + 2 ^ w * j))) (fun i j hi hj => by rw [← h1 i j hi hj, nrm_rn]), s2_m] at s
  have n1 : nrm (1, 0, 0, 0) = 1 := by decide
  have r : sI (fun c => nrm (xs c)) (2 ^ (2 * w)) = s2 (fun i j => nrm (xs (i + 2 ^ w * j))) (2 ^ w) := by
    rw [show 2 * w = w + w by omega, Nat.pow_add, sI_rows]
    exact sI_sw (fun j i => nrm (xs (i + 2 ^ w * j))) (2 ^ w) (2 ^ w)
  rw [r]
  rw [n1, Int.mul_one, Int.pow_add] at s
  have p : (0 : Int) < 2 ^ e := by
    have := Nat.two_pow_pos e
    exact_mod_cast this
  exact Int.le_of_mul_le_mul_left s p
end DNA
