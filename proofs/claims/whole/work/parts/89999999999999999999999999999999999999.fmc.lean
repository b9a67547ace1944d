/-! FORM: what a word makes of the PAULIS -/
def pk0 (p : Nat) (y : R2) : R4 := if p = 1 ∨ p = 2 then y.2 else y.1
def pk1 (p : Nat) (y : R2) : R4 := if p = 1 ∨ p = 2 then y.1 else y.2
def ph0 (p : Nat) : Nat := if p = 2 then 6 else 0
def ph1 (p : Nat) : Nat := if p = 2 then 2 else if p = 3 then 4 else 0
def ce (p : Nat) (x y : R2) : R4 := ra (mu (t8n (ph0 p) (cj (pk0 p y))) x.1) (mu (t8n (ph1 p) (cj (pk1 p y))) x.2)
theorem pk_ra (p : Nat) (x y : R2) : pk0 p (pra x y) = ra (pk0 p x) (pk0 p y) ∧ pk1 p (pra x y) = ra (pk1 p x) (pk1 p y) := by
  unfold pk0 pk1
  split <;> exact ⟨rfl, rfl⟩
theorem pk_t8 (p e : Nat) (x : R2) : pk0 p (pt8 e x) = t8n e (pk0 p x) ∧ pk1 p (pt8 e x) = t8n e (pk1 p x) := by
  unfold pk0 pk1
  split <;> exact ⟨rfl, rfl⟩
theorem pk_rn (p n : Nat) (x : R2) : pk0 p (prn n x) = rn n (pk0 p x) ∧ pk1 p (prn n x) = rn n (pk1 p x) := by
  unfold pk0 pk1
  split <;> exact ⟨rfl, rfl⟩
theorem mu_ra2 (u a b : R4) : mu u (ra a b) = ra (mu u a) (mu u b) := by
  rw [mu_c, mu_ra1, mu_c a, mu_c b]
theorem mu_t2 (u a : R4) (e : Nat) : mu u (t8n e a) = t8n e (mu u a) := by
  rw [mu_c, mu_t8n, mu_c]
theorem mu_n2 (u a : R4) (n : Nat) : mu u (rn n a) = rn n (mu u a) := by
  rw [mu_c, mu_rn, mu_c]
theorem ce_ra1 (p : Nat) (x x' y : R2) : ce p (pra x x') y = ra (ce p x y) (ce p x' y) := by
  unfold ce
  rw [show (pra x x').1 = ra x.1 x'.1 from rfl, show (pra x x').2 = ra x.2 x'.2 from rfl, mu_ra2, mu_ra2, ra_x4]
theorem ce_ra2 (p : Nat) (x y y' : R2) : ce p x (pra y y') = ra (ce p x y) (ce p x y') := by
  unfold ce
  rw [(pk_ra p y y').1, (pk_ra p y y').2, cj_ra, cj_ra, t8n_ra, t8n_ra, mu_ra1, mu_ra1, ra_x4]
theorem ce_t1 (p e : Nat) (x y : R2) : ce p (pt8 e x) y = t8n e (ce p x y) := by
  unfold ce
  rw [show (pt8 e x).1 = t8n e x.1 from rfl, show (pt8 e x).2 = t8n e x.2 from rfl, mu_t2, mu_t2, t8n_ra]
theorem ce_t2 (p e : Nat) (x y : R2) : ce p x (pt8 e y) = t8n (7 * e) (ce p x y) := by
  unfold ce
  rw [(pk_t8 p e y).1, (pk_t8 p e y).2, cj_t8n, cj_t8n, t8_cm (cj (pk0 p y)), t8_cm (cj (pk1 p y)), t8n_ra]
  simp only [mu_t8n]
theorem ce_n1 (p n : Nat) (x y : R2) : ce p (prn n x) y = rn n (ce p x y) := by
  unfold ce
  rw [show (prn n x).1 = rn n x.1 from rfl, show (prn n x).2 = rn n x.2 from rfl, mu_n2, mu_n2, ra_rn]
theorem ce_n2 (p n : Nat) (x y : R2) : ce p x (prn n y) = rn n (ce p x y) := by
  unfold ce
  rw [(pk_rn p n y).1, (pk_rn p n y).2, cj_rn, cj_rn, t8n_rn, t8n_rn, mu_rn, mu_rn, ra_rn]
theorem ce_tt (p e : Nat) (x y : R2) : ce p (pt8 e x) (pt8 e y) = ce p x y := by
  rw [ce_t1, ce_t2, ← t8n_a, show e + 7 * e = 8 * e by omega, t8n_8]
theorem ce_nn (p m n : Nat) (x y : R2) : ce p (prn m x) (prn n y) = rn (m + n) (ce p x y) := by
  rw [ce_n1, ce_n2, rn_a]
/-- the rows of a word's matrix -/
def rw0 (w : List Nat) : R2 := ((wv w e0).1, (wv w e1).1)
def rw1 (w : List Nat) : R2 := ((wv w e0).2, (wv w e1).2)
def bX (p : Nat) (x y : R2) : R4 := ra (ce p x y) (ce p y x)
def bY (p : Nat) (x y : R2) : R4 := t8n 6 (ra (ce p y x) (ng (ce p x y)))
def bZ (p : Nat) (x : R2) : R4 := ce p x x
/-- a word's matrix is right: its rows are of length 1 and apart; no PAULI becomes a number -/
def uI (w : List Nat) : Prop := (ce 0 (rw0 w) (rw0 w) = rn (2 * wk w) (1, 0, 0, 0) ∧ ce 0 (rw1 w) (rw1 w) = rn (2 * wk w) (1, 0, 0, 0) ∧ ce 0 (rw0 w) (rw1 w) = (0, 0, 0, 0) ∧ ce 0 (rw1 w) (rw0 w) = (0, 0, 0, 0)) ∧ ∀ p, 1 ≤ p → p ≤ 3 → ce p (rw1 w) (rw1 w) = ng (ce p (rw0 w) (rw0 w))
theorem rw_3 (w : List Nat) : rw0 (3 :: w) = pra (rw0 w) (rw1 w) ∧ rw1 (3 :: w) = pra (rw0 w) (pt8 4 (rw1 w)) := ⟨rfl, rfl⟩
theorem rw_0 (w : List Nat) : rw0 (0 :: w) = rw1 w ∧ rw1 (0 :: w) = rw0 w := ⟨rfl, rfl⟩
theorem rw_1 (w : List Nat) : rw0 (1 :: w) = pt8 6 (rw1 w) ∧ rw1 (1 :: w) = pt8 2 (rw0 w) := ⟨rfl, rfl⟩
theorem rw_g {g : Nat} (h3 : g ≠ 3) (h0 : g ≠ 0) (h1 : g ≠ 1) (w : List Nat) : rw0 (g :: w) = rw0 w ∧ rw1 (g :: w) = pt8 (gph g) (rw1 w) := by
  have e : ∀ p, gv g p = (p.1, t8n (gph g) p.2) := fun p => by
    unfold gv
    rw [if_neg h3, if_neg h0, if_neg h1]
  unfold rw0 rw1
  rw [show wv (g :: w) e0 = gv g (wv w e0) from rfl, show wv (g :: w) e1 = gv g (wv w e1) from rfl, e, e]
  exact ⟨rfl, rfl⟩
theorem ra_nz (x : R4) : ra x (ng x) = (0, 0, 0, 0) := by
  apply r4_e <;> simp only [ra, ng] <;> omega
theorem ra_z0 (x : R4) : ra (0, 0, 0, 0) x = x := by rw [ra_c, ra_0]
theorem rn_2 (x : R4) : rn 2 x = ra x x := by
  show rr (rr x) = ra x x
  apply r4_e <;> simp only [rr, ra] <;> omega
theorem ng_ng (x : R4) : ng (ng x) = x := by
  apply r4_e <;> simp only [ng] <;> omega
theorem ng_z : ng (0, 0, 0, 0) = (0, 0, 0, 0) := rfl
theorem uI_0 : uI [] := by
  refine ⟨⟨rfl, rfl, rfl, rfl⟩, fun p h1 h3 => ?_⟩
  have : p = 1 ∨ p = 2 ∨ p = 3 := by omega
  rcases this with rfl | rfl | rfl <;> rfl
theorem uI_s (g : Nat) {w : List Nat} (h : uI w) : uI (g :: w) := by
  obtain ⟨⟨h1, h2, h3, h4⟩, h5⟩ := h
  have ek : wk (g :: w) = wk w + hk g := rfl
  by_cases g3 : g = 3
  · subst g3
    have e2 : ∀ x, ra (rn (2 * wk w) x) (rn (2 * wk w) x) = rn (2 * wk (3 :: w)) x := fun x => by
      rw [← rn_2, ← rn_a, ek, show hk 3 = 1 from rfl]
      congr 1
      omega
    unfold uI
    rw [(rw_3 w).1, (rw_3 w).2]
    refine ⟨⟨?_, ?_, ?_, ?_⟩, fun p p1 p3 => ?_⟩
    · rw [ce_ra1, ce_ra2, ce_ra2, h1, h2, h3, h4, ra_0, ra_z0, e2]
    · rw [ce_ra1, ce_ra2, ce_ra2, ce_tt, ce_t1, ce_t2, h1, h2, h3, h4, t8_zz, t8_zz, ra_0, ra_z0, e2]
    · rw [ce_ra1, ce_ra2, ce_ra2, ce_t2, ce_t2, h1, h2, h3, h4, t8_zz, ra_0, ra_z0, t8_mod _ (show 7 * 4 % 8 = 4 % 8 from rfl), t8_4, ra_nz]
    · rw [ce_ra1, ce_ra2, ce_ra2, ce_t1, ce_t1, h1, h2, h3, h4, t8_zz, ra_0, ra_z0, t8_4, ra_nz]
    · have a : ce p (pra (rw0 w) (rw1 w)) (pra (rw0 w) (rw1 w)) = ra (ra (ce p (rw0 w) (rw0 w)) (ce p (rw0 w) (rw1 w))) (ra (ce p (rw1 w) (rw0 w)) (ce p (rw1 w) (rw1 w))) := by rw [ce_ra1, ce_ra2, ce_ra2]
      have b : ce p (pra (rw0 w) (pt8 4 (rw1 w))) (pra (rw0 w) (pt8 4 (rw1 w))) = ra (ra (ce p (rw0 w) (rw0 w)) (ng (ce p (rw0 w) (rw1 w)))) (ra (ng (ce p (rw1 w) (rw0 w))) (ce p (rw1 w) (rw1 w))) := by
        rw [ce_ra1, ce_ra2, ce_ra2, ce_tt, ce_t1, ce_t2, t8_mod _ (show 7 * 4 % 8 = 4 % 8 from rfl), t8_4, t8_4]
      rw [a, b, h5 p p1 p3]
      generalize ce p (rw0 w) (rw0 w) = a
      generalize ce p (rw0 w) (rw1 w) = b
      generalize ce p (rw1 w) (rw0 w) = c
      apply r4_e <;> simp only [ra, ng] <;> omega
  · have hg : hk g = 0 := if_neg g3
    have ek : wk (g :: w) = wk w := by rw [ek, hg]; rfl
    unfold uI
    rw [ek]
    by_cases g0 : g = 0
    · subst g0
      rw [(rw_0 w).1, (rw_0 w).2]
      refine ⟨⟨h2, h1, h4, h3⟩, fun p p1 p3 => ?_⟩
      rw [h5 p p1 p3, ng_ng]
    · by_cases g1 : g = 1
      · subst g1
        rw [(rw_1 w).1, (rw_1 w).2]
        refine ⟨⟨?_, ?_, ?_, ?_⟩, fun p p1 p3 => ?_⟩
        · rw [ce_tt, h2]
        · rw [ce_tt, h1]
        · rw [ce_t1, ce_t2, h4, t8_zz, t8_zz]
        · rw [ce_t1, ce_t2, h3, t8_zz, t8_zz]
        · rw [ce_tt, ce_tt, h5 p p1 p3, ng_ng]
      · rw [(rw_g g3 g0 g1 w).1, (rw_g g3 g0 g1 w).2]
        refine ⟨⟨h1, ?_, ?_, ?_⟩, fun p p1 p3 => ?_⟩
        · rw [ce_tt, h2]
        · rw [ce_t2, h3, t8_zz]
        · rw [ce_t1, h4, t8_zz]
        · rw [ce_tt, h5 p p1 p3]
theorem uI_w : ∀ w, uI w
  | [] => uI_0
  | g :: w => uI_s g (uI_w w)
/-- the numbers of what becomes of the PAULIS, at a power of root 2 -/
def lv (w : List Nat) (m : Nat) (A : Nat → Nat → R4) : Prop := ∀ p, 1 ≤ p → p ≤ 3 → rn m (bX p (rw0 w) (rw1 w)) = rn (2 * wk w + 2) (A 0 p) ∧ rn m (bY p (rw0 w) (rw1 w)) = rn (2 * wk w + 2) (A 1 p) ∧ rn m (bZ p (rw0 w)) = rn (2 * wk w) (A 2 p)
theorem rn_ra (x y : R4) (m : Nat) : rn m (ra x y) = ra (rn m x) (rn m y) := (ra_rn x y m).symm
theorem rn_cm (x : R4) (m n : Nat) : rn m (rn n x) = rn n (rn m x) := by
  rw [← rn_a, Nat.add_comm, rn_a]
theorem rn_t8 (x : R4) (m e : Nat) : rn m (t8n e x) = t8n e (rn m x) := (t8n_rn x m e).symm
theorem rn_s (x : R4) (m : Nat) : rn (m + 1) x = rn m (rr x) := rn_a x m 1
def lH (A : Nat → Nat → R4) (r p : Nat) : R4 := if r = 0 then A 2 p else if r = 1 then ng (A 1 p) else A 0 p
def lS (A : Nat → Nat → R4) (r p : Nat) : R4 := if r = 0 then ng (A 1 p) else if r = 1 then A 0 p else A 2 p
def lSb (A : Nat → Nat → R4) (r p : Nat) : R4 := if r = 0 then A 1 p else if r = 1 then ng (A 0 p) else A 2 p
def lT (A : Nat → Nat → R4) (r p : Nat) : R4 := if r = 0 then ra (A 0 p) (ng (A 1 p)) else if r = 1 then ra (A 0 p) (A 1 p) else rr (A 2 p)
def lTb (A : Nat → Nat → R4) (r p : Nat) : R4 := if r = 0 then ra (A 0 p) (A 1 p) else if r = 1 then ra (A 1 p) (ng (A 0 p)) else rr (A 2 p)
theorem lv_3 {w : List Nat} {m : Nat} {A : Nat → Nat → R4} (h : lv w m A) : lv (3 :: w) m (lH A) := by
  intro p p1 p3
  obtain ⟨a, b, c⟩ := h p p1 p3
  have tr := (uI_w w).2 p p1 p3
  have ek : wk (3 :: w) = wk w + 1 := rfl
  rw [(rw_3 w).1, (rw_3 w).2, ek]
  unfold bX bY bZ at *
  have c01 : ce p (pra (rw0 w) (rw1 w)) (pra (rw0 w) (pt8 4 (rw1 w))) = ra (ra (ce p (rw0 w) (rw0 w)) (ng (ce p (rw0 w) (rw1 w)))) (ra (ce p (rw1 w) (rw0 w)) (ce p (rw0 w) (rw0 w))) := by
    rw [ce_ra1, ce_ra2, ce_ra2, ce_t2, ce_t2, tr, t8_mod _ (show 7 * 4 % 8 = 4 % 8 from rfl), t8_mod (ng (ce p (rw0 w) (rw0 w))) (show 7 * 4 % 8 = 4 % 8 from rfl), t8_4, t8_4, ng_ng]
  have c10 : ce p (pra (rw0 w) (pt8 4 (rw1 w))) (pra (rw0 w) (rw1 w)) = ra (ra (ce p (rw0 w) (rw0 w)) (ce p (rw0 w) (rw1 w))) (ra (ng (ce p (rw1 w) (rw0 w))) (ce p (rw0 w) (rw0 w))) := by
    rw [ce_ra1, ce_ra2, ce_ra2, ce_t1, ce_t1, tr, t8_4, t8_4, ng_ng]
  have c00 : ce p (pra (rw0 w) (rw1 w)) (pra (rw0 w) (rw1 w)) = ra (ce p (rw0 w) (rw1 w)) (ce p (rw1 w) (rw0 w)) := by
    rw [ce_ra1, ce_ra2, ce_ra2, tr]
    generalize ce p (rw0 w) (rw0 w) = x
    generalize ce p (rw0 w) (rw1 w) = y
    generalize ce p (rw1 w) (rw0 w) = z
    apply r4_e <;> simp only [ra, ng] <;> omega
  refine ⟨?_, ?_, ?_⟩
  · rw [c01, c10, show lH A 0 p = A 2 p from rfl, show 2 * (wk w + 1) + 2 = 2 * wk w + 4 by omega, Nat.add_comm (2 * wk w), rn_a, ← c, rn_cm]
    congr 1
    show _ = rn 2 (rn 2 (ce p (rw0 w) (rw0 w)))
    rw [rn_2, rn_2]
    generalize ce p (rw0 w) (rw0 w) = x
    generalize ce p (rw0 w) (rw1 w) = y
    generalize ce p (rw1 w) (rw0 w) = z
    apply r4_e <;> simp only [ra, ng] <;> omega
  · rw [c01, c10, show lH A 1 p = ng (A 1 p) from rfl, show 2 * (wk w + 1) + 2 = 2 + (2 * wk w + 2) by omega, rn_a, ng_rn, ← b, ← ng_rn, rn_cm]
    congr 1
    rw [rn_2]
    generalize ce p (rw0 w) (rw0 w) = x
    generalize ce p (rw0 w) (rw1 w) = y
    generalize ce p (rw1 w) (rw0 w) = z
    apply r4_e <;> simp only [ra, ng, t8n, t8] <;> omega
  · rw [c00, show lH A 2 p = A 0 p from rfl, show 2 * (wk w + 1) = 2 * wk w + 2 by omega, ← a]
theorem lv_4 {w : List Nat} {m : Nat} {A : Nat → Nat → R4} (h : lv w m A) : lv (4 :: w) m (lS A) := by
  intro p p1 p3
  obtain ⟨a, b, c⟩ := h p p1 p3
  have ek : wk (4 :: w) = wk w := rfl
  obtain ⟨g0, g1⟩ := rw_g (g := 4) (by decide) (by decide) (by decide) w
  rw [g0, g1, ek, show gph 4 = 2 from rfl]
  unfold bX bY bZ at *
  rw [ce_t1, ce_t2, t8_mod (ce p (rw0 w) (rw1 w)) (show 7 * 2 % 8 = 6 % 8 from rfl)]
  refine ⟨?_, ?_, c⟩
  · rw [show lS A 0 p = ng (A 1 p) from rfl, ng_rn, ← b, ← ng_rn]
    congr 1
    generalize ce p (rw0 w) (rw1 w) = y
    generalize ce p (rw1 w) (rw0 w) = z
    apply r4_e <;> simp only [ra, ng, t8n, t8] <;> omega
  · rw [show lS A 1 p = A 0 p from rfl, ← a]
    congr 1
    generalize ce p (rw0 w) (rw1 w) = y
    generalize ce p (rw1 w) (rw0 w) = z
    apply r4_e <;> simp only [ra, ng, t8n, t8] <;> omega
theorem lv_6 {w : List Nat} {m : Nat} {A : Nat → Nat → R4} (h : lv w m A) : lv (6 :: w) m (lSb A) := by
  intro p p1 p3
  obtain ⟨a, b, c⟩ := h p p1 p3
  have ek : wk (6 :: w) = wk w := rfl
  obtain ⟨g0, g1⟩ := rw_g (g := 6) (by decide) (by decide) (by decide) w
  rw [g0, g1, ek, show gph 6 = 6 from rfl]
  unfold bX bY bZ at *
  rw [ce_t1, ce_t2, t8_mod (ce p (rw0 w) (rw1 w)) (show 7 * 6 % 8 = 2 % 8 from rfl)]
  refine ⟨?_, ?_, c⟩
  · rw [show lSb A 0 p = A 1 p from rfl, ← b]
    congr 1
    generalize ce p (rw0 w) (rw1 w) = y
    generalize ce p (rw1 w) (rw0 w) = z
    apply r4_e <;> simp only [ra, ng, t8n, t8] <;> omega
  · rw [show lSb A 1 p = ng (A 0 p) from rfl, ng_rn, ← a, ← ng_rn]
    congr 1
    generalize ce p (rw0 w) (rw1 w) = y
    generalize ce p (rw1 w) (rw0 w) = z
    apply r4_e <;> simp only [ra, ng, t8n, t8] <;> omega
theorem lv_5 {w : List Nat} {m : Nat} {A : Nat → Nat → R4} (h : lv w m A) : lv (5 :: w) (m + 1) (lT A) := by
  intro p p1 p3
  obtain ⟨a, b, c⟩ := h p p1 p3
  have ek : wk (5 :: w) = wk w := rfl
  obtain ⟨g0, g1⟩ := rw_g (g := 5) (by decide) (by decide) (by decide) w
  rw [g0, g1, ek, show gph 5 = 1 from rfl]
  unfold bX bY bZ at *
  rw [ce_t1, ce_t2, t8_mod (ce p (rw0 w) (rw1 w)) (show 7 * 1 % 8 = 7 % 8 from rfl)]
  refine ⟨?_, ?_, ?_⟩
  · rw [show lT A 0 p = ra (A 0 p) (ng (A 1 p)) from rfl, rn_ra (A 0 p), ng_rn, ← a, ← b, ← ng_rn, ← rn_ra, rn_s]
    congr 1
    generalize ce p (rw0 w) (rw1 w) = y
    generalize ce p (rw1 w) (rw0 w) = z
    apply r4_e <;> simp only [ra, ng, t8n, t8, rr] <;> omega
  · rw [show lT A 1 p = ra (A 0 p) (A 1 p) from rfl, rn_ra (A 0 p), ← a, ← b, ← rn_ra, rn_s]
    congr 1
    generalize ce p (rw0 w) (rw1 w) = y
    generalize ce p (rw1 w) (rw0 w) = z
    apply r4_e <;> simp only [ra, ng, t8n, t8, rr] <;> omega
  · rw [show lT A 2 p = rn 1 (A 2 p) from rfl, rn_cm, ← c, ← rn_a, Nat.add_comm]
theorem lv_7 {w : List Nat} {m : Nat} {A : Nat → Nat → R4} (h : lv w m A) : lv (7 :: w) (m + 1) (lTb A) := by
  intro p p1 p3
  obtain ⟨a, b, c⟩ := h p p1 p3
  have ek : wk (7 :: w) = wk w := rfl
  obtain ⟨g0, g1⟩ := rw_g (g := 7) (by decide) (by decide) (by decide) w
  rw [g0, g1, ek, show gph 7 = 7 from rfl]
  unfold bX bY bZ at *
  rw [ce_t1, ce_t2, t8_mod (ce p (rw0 w) (rw1 w)) (show 7 * 7 % 8 = 1 % 8 from rfl)]
  refine ⟨?_, ?_, ?_⟩
  · rw [show lTb A 0 p = ra (A 0 p) (A 1 p) from rfl, rn_ra (A 0 p), ← a, ← b, ← rn_ra, rn_s]
    congr 1
    generalize ce p (rw0 w) (rw1 w) = y
    generalize ce p (rw1 w) (rw0 w) = z
    apply r4_e <;> simp only [ra, ng, t8n, t8, rr] <;> omega
  · rw [show lTb A 1 p = ra (A 1 p) (ng (A 0 p)) from rfl, rn_ra (A 1 p), ng_rn, ← a, ← b, ← ng_rn, ← rn_ra, rn_s]
    congr 1
    generalize ce p (rw0 w) (rw1 w) = y
    generalize ce p (rw1 w) (rw0 w) = z
    apply r4_e <;> simp only [ra, ng, t8n, t8, rr] <;> omega
  · rw [show lTb A 2 p = rn 1 (A 2 p) from rfl, rn_cm, ← c, ← rn_a, Nat.add_comm]
theorem weq_rw {u v : List Nat} (h : weq u v) : ∃ e, e < 8 ∧ prn (wk v) (rw0 u) = pt8 e (prn (wk u) (rw0 v)) ∧ prn (wk v) (rw1 u) = pt8 e (prn (wk u) (rw1 v)) := by
  obtain ⟨e, he, h⟩ := h
  have a := h e0
  have b := h e1
  have a1 : rn (wk v) (wv u e0).1 = t8n e (rn (wk u) (wv v e0).1) := congrArg Prod.fst a
  have a2 : rn (wk v) (wv u e0).2 = t8n e (rn (wk u) (wv v e0).2) := congrArg Prod.snd a
  have b1 : rn (wk v) (wv u e1).1 = t8n e (rn (wk u) (wv v e1).1) := congrArg Prod.fst b
  have b2 : rn (wk v) (wv u e1).2 = t8n e (rn (wk u) (wv v e1).2) := congrArg Prod.snd b
  exact ⟨e, he, Prod.ext a1 b1, Prod.ext a2 b2⟩
theorem ceq_e {x y x' y' : R2} {m n e : Nat} (h1 : prn m x = pt8 e (prn n x')) (h2 : prn m y = pt8 e (prn n y')) (p : Nat) : rn (2 * m) (ce p x y) = rn (2 * n) (ce p x' y') := by
  calc rn (2 * m) (ce p x y) = ce p (prn m x) (prn m y) := by rw [ce_nn, Nat.two_mul]
    _ = ce p (pt8 e (prn n x')) (pt8 e (prn n y')) := by rw [h1, h2]
    _ = rn (2 * n) (ce p x' y') := by rw [ce_tt, ce_nn, Nat.two_mul]
theorem weq_ce {u v : List Nat} (h : weq u v) (p : Nat) : rn (2 * wk v) (ce p (rw0 u) (rw0 u)) = rn (2 * wk u) (ce p (rw0 v) (rw0 v)) ∧ rn (2 * wk v) (ce p (rw0 u) (rw1 u)) = rn (2 * wk u) (ce p (rw0 v) (rw1 v)) ∧ rn (2 * wk v) (ce p (rw1 u) (rw0 u)) = rn (2 * wk u) (ce p (rw1 v) (rw0 v)) := by
  obtain ⟨e, _, h0, h1⟩ := weq_rw h
  exact ⟨ceq_e h0 h0 p, ceq_e h0 h1 p, ceq_e h1 h0 p⟩
theorem lv_e {u v : List Nat} {m : Nat} {A : Nat → Nat → R4} (h : weq u v) (hl : lv v m A) : lv u m A := by
  intro p p1 p3
  obtain ⟨a, b, c⟩ := hl p p1 p3
  obtain ⟨x, y, z⟩ := weq_ce h p
  unfold bX bY bZ at *
  refine ⟨?_, ?_, ?_⟩
  · apply rn_i (2 * wk v)
    rw [rn_cm, rn_ra, y, z, ← rn_ra, rn_cm, a, ← rn_a, ← rn_a]
    congr 1
    omega
  · apply rn_i (2 * wk v)
    rw [rn_cm, rn_t8, rn_ra, ng_rn, y, z, ← ng_rn, ← rn_ra, ← rn_t8, rn_cm, b, ← rn_a, ← rn_a]
    congr 1
    omega
  · apply rn_i (2 * wk v)
    rw [rn_cm, x, rn_cm, c, rn_cm]
