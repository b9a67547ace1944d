/-! FORM: words of gates on one WIRE -/
abbrev R2 : Type := R4 × R4
def gph (g : Nat) : Nat := if g = 2 then 4 else if g = 4 then 2 else if g = 5 then 1 else if g = 6 then 6 else 7
/-- one gate, on a column -/
def gv (g : Nat) (p : R2) : R2 := if g = 3 then (ra p.1 p.2, ra p.1 (ng p.2)) else if g = 0 then (p.2, p.1) else if g = 1 then (t8n 6 p.2, t8n 2 p.1) else (p.1, t8n (gph g) p.2)
/-- a word of gates: its first one is done last -/
def wv : List Nat → R2 → R2
  | [], p => p
  | g :: w, p => gv g (wv w p)
def hk (g : Nat) : Nat := if g = 3 then 1 else 0
def wk : List Nat → Nat
  | [] => 0
  | g :: w => wk w + hk g
def prn (n : Nat) (p : R2) : R2 := (rn n p.1, rn n p.2)
def pt8 (e : Nat) (p : R2) : R2 := (t8n e p.1, t8n e p.2)
def pra (p q : R2) : R2 := (ra p.1 q.1, ra p.2 q.2)
def psc (p : R2) (u : R4) : R2 := (mu p.1 u, mu p.2 u)
theorem mu_ra1 (a b u : R4) : mu (ra a b) u = ra (mu a u) (mu b u) := by
  apply r4_e <;> simp only [mu, ra, Int.add_mul] <;> omega
theorem mu_ng1 (a u : R4) : mu (ng a) u = ng (mu a u) := mu_t8n a u 4
theorem t8_cm (x : R4) (a b : Nat) : t8n a (t8n b x) = t8n b (t8n a x) := by
  rw [← t8n_a, Nat.add_comm, t8n_a]
theorem t8_ng (x : R4) (e : Nat) : t8n e (ng x) = ng (t8n e x) := t8_cm x e 4
theorem ra_x4 (a b c d : R4) : ra (ra a b) (ra c d) = ra (ra a c) (ra b d) := by
  apply r4_e <;> simp only [ra] <;> omega
theorem ng_ra (a b : R4) : ng (ra a b) = ra (ng a) (ng b) := by
  apply r4_e <;> simp only [ra, ng] <;> omega
theorem gv_rn (g n : Nat) (p : R2) : gv g (prn n p) = prn n (gv g p) := by
  unfold gv prn
  split
  · show (ra (rn n p.1) (rn n p.2), ra (rn n p.1) (ng (rn n p.2))) = (rn n (ra p.1 p.2), rn n (ra p.1 (ng p.2)))
    rw [ra_rn, ← ng_rn, ra_rn]
  · split
    · rfl
    · split
      · show (t8n 6 (rn n p.2), t8n 2 (rn n p.1)) = (rn n (t8n 6 p.2), rn n (t8n 2 p.1))
        rw [t8n_rn, t8n_rn]
      · show (rn n p.1, t8n (gph g) (rn n p.2)) = (rn n p.1, rn n (t8n (gph g) p.2))
        rw [t8n_rn]
theorem gv_t8 (g e : Nat) (p : R2) : gv g (pt8 e p) = pt8 e (gv g p) := by
  unfold gv pt8
  split
  · show (ra (t8n e p.1) (t8n e p.2), ra (t8n e p.1) (ng (t8n e p.2))) = (t8n e (ra p.1 p.2), t8n e (ra p.1 (ng p.2)))
    rw [t8n_ra, t8n_ra, t8_ng]
  · split
    · rfl
    · split
      · show (t8n 6 (t8n e p.2), t8n 2 (t8n e p.1)) = (t8n e (t8n 6 p.2), t8n e (t8n 2 p.1))
        rw [t8_cm p.2, t8_cm p.1]
      · show (t8n e p.1, t8n (gph g) (t8n e p.2)) = (t8n e p.1, t8n e (t8n (gph g) p.2))
        rw [t8_cm]
theorem gv_ra (g : Nat) (p q : R2) : gv g (pra p q) = pra (gv g p) (gv g q) := by
  unfold gv pra
  split
  · show (ra (ra p.1 q.1) (ra p.2 q.2), ra (ra p.1 q.1) (ng (ra p.2 q.2))) = (ra (ra p.1 p.2) (ra q.1 q.2), ra (ra p.1 (ng p.2)) (ra q.1 (ng q.2)))
    rw [ra_x4, ng_ra, ra_x4 p.1 q.1]
  · split
    · rfl
    · split
      · show (t8n 6 (ra p.2 q.2), t8n 2 (ra p.1 q.1)) = (ra (t8n 6 p.2) (t8n 6 q.2), ra (t8n 2 p.1) (t8n 2 q.1))
        rw [t8n_ra, t8n_ra]
      · show (ra p.1 q.1, t8n (gph g) (ra p.2 q.2)) = (ra p.1 q.1, ra (t8n (gph g) p.2) (t8n (gph g) q.2))
        rw [t8n_ra]
theorem gv_sc (g : Nat) (p : R2) (u : R4) : gv g (psc p u) = psc (gv g p) u := by
  unfold gv psc
  split
  · show (ra (mu p.1 u) (mu p.2 u), ra (mu p.1 u) (ng (mu p.2 u))) = (mu (ra p.1 p.2) u, mu (ra p.1 (ng p.2)) u)
    rw [mu_ra1, mu_ra1, mu_ng1]
  · split
    · rfl
    · split
      · show (t8n 6 (mu p.2 u), t8n 2 (mu p.1 u)) = (mu (t8n 6 p.2) u, mu (t8n 2 p.1) u)
        rw [mu_t8n, mu_t8n]
      · show (mu p.1 u, t8n (gph g) (mu p.2 u)) = (mu p.1 u, mu (t8n (gph g) p.2) u)
        rw [mu_t8n]
theorem wv_rn (n : Nat) (p : R2) : ∀ w, wv w (prn n p) = prn n (wv w p)
  | [] => rfl
  | g :: w => by
    show gv g (wv w (prn n p)) = prn n (gv g (wv w p))
    rw [wv_rn n p w, gv_rn]
theorem wv_t8 (e : Nat) (p : R2) : ∀ w, wv w (pt8 e p) = pt8 e (wv w p)
  | [] => rfl
  | g :: w => by
    show gv g (wv w (pt8 e p)) = pt8 e (gv g (wv w p))
    rw [wv_t8 e p w, gv_t8]
theorem wv_ra (p q : R2) : ∀ w, wv w (pra p q) = pra (wv w p) (wv w q)
  | [] => rfl
  | g :: w => by
    show gv g (wv w (pra p q)) = pra (gv g (wv w p)) (gv g (wv w q))
    rw [wv_ra p q w, gv_ra]
theorem wv_sc (p : R2) (u : R4) : ∀ w, wv w (psc p u) = psc (wv w p) u
  | [] => rfl
  | g :: w => by
    show gv g (wv w (psc p u)) = psc (gv g (wv w p)) u
    rw [wv_sc p u w, gv_sc]
theorem wv_a (p : R2) : ∀ u v, wv (u ++ v) p = wv u (wv v p)
  | [], _ => rfl
  | g :: u, v => by
    show gv g (wv (u ++ v) p) = gv g (wv u (wv v p))
    rw [wv_a p u v]
theorem wk_a : ∀ u v, wk (u ++ v) = wk u + wk v
  | [], v => (Nat.zero_add _).symm
  | g :: u, v => by
    show wk (u ++ v) + hk g = wk u + hk g + wk v
    rw [wk_a u v]
    omega
def e0 : R2 := ((1, 0, 0, 0), (0, 0, 0, 0))
def e1 : R2 := ((0, 0, 0, 0), (1, 0, 0, 0))
theorem mu_1 (u : R4) : mu (1, 0, 0, 0) u = u := by
  apply r4_e <;> simp only [mu] <;> omega
theorem mu_zl (u : R4) : mu (0, 0, 0, 0) u = (0, 0, 0, 0) := by
  rw [mu_c, mu_0]
theorem wv_l (u v : R4) (w : List Nat) : wv w (u, v) = pra (psc (wv w e0) u) (psc (wv w e1) v) := by
  have e : ((u, v) : R2) = pra (psc e0 u) (psc e1 v) := by
    show (u, v) = (ra (mu (1, 0, 0, 0) u) (mu (0, 0, 0, 0) v), ra (mu (0, 0, 0, 0) u) (mu (1, 0, 0, 0) v))
    rw [mu_1, mu_1, mu_zl, mu_zl, ra_0, ra_c, ra_0]
  rw [e, wv_ra, wv_sc, wv_sc]
/-- two words that do the same, up to a phase -/
def weq (u v : List Nat) : Prop := ∃ e, e < 8 ∧ ∀ p, prn (wk v) (wv u p) = pt8 e (prn (wk u) (wv v p))
theorem prn_a (m n : Nat) (p : R2) : prn m (prn n p) = prn (m + n) p := by
  unfold prn
  rw [rn_a, rn_a]
theorem prn_c (m n : Nat) (p : R2) : prn m (prn n p) = prn n (prn m p) := by
  rw [prn_a, prn_a, Nat.add_comm]
theorem prn_t (m e : Nat) (p : R2) : prn m (pt8 e p) = pt8 e (prn m p) := by
  unfold prn pt8
  show (rn m (t8n e p.1), rn m (t8n e p.2)) = (t8n e (rn m p.1), t8n e (rn m p.2))
  rw [t8n_rn, t8n_rn]
theorem pt8_a (m n : Nat) (p : R2) : pt8 m (pt8 n p) = pt8 (m + n) p := by
  unfold pt8
  rw [t8n_a, t8n_a]
theorem pt8_m (n : Nat) (p : R2) : pt8 n p = pt8 (n % 8) p := by
  unfold pt8
  rw [t8n_m p.1, t8n_m p.2]
theorem pt8_0 (p : R2) : pt8 0 p = p := rfl
theorem prn_i {p q : R2} (n : Nat) (h : prn n p = prn n q) : p = q := by
  have h1 := rn_i n (congrArg Prod.fst h)
  have h2 := rn_i n (congrArg Prod.snd h)
  exact Prod.ext h1 h2
theorem weq_r (u : List Nat) : weq u u := ⟨0, by decide, fun _ => rfl⟩
theorem weq_s {u v : List Nat} (h : weq u v) : weq v u := by
  obtain ⟨e, he, h⟩ := h
  refine ⟨(8 - e) % 8, Nat.mod_lt _ (by decide), fun p => ?_⟩
  rw [h p, pt8_a, pt8_m, show ((8 - e) % 8 + e) % 8 = 0 by omega, pt8_0]
theorem weq_t {u v w : List Nat} (h : weq u v) (g : weq v w) : weq u w := by
  obtain ⟨e, he, h⟩ := h
  obtain ⟨f, hf, g⟩ := g
  refine ⟨(e + f) % 8, Nat.mod_lt _ (by decide), fun p => ?_⟩
  apply prn_i (wk v)
  rw [prn_c, h p, prn_t, prn_c, g p, prn_t, pt8_a, prn_t, ← pt8_m, prn_c]
theorem weq_l {u v : List Nat} (x : List Nat) (h : weq u v) : weq (x ++ u) (x ++ v) := by
  obtain ⟨e, he, h⟩ := h
  refine ⟨e, he, fun p => ?_⟩
  rw [wv_a, wv_a, wk_a, wk_a, ← prn_a, ← prn_a, ← wv_rn, h p, wv_t8, wv_rn, prn_t]
theorem weq_e {u v : List Nat} (y : List Nat) (h : weq u v) : weq (u ++ y) (v ++ y) := by
  obtain ⟨e, he, h⟩ := h
  refine ⟨e, he, fun p => ?_⟩
  rw [wv_a, wv_a, wk_a, wk_a, Nat.add_comm, ← prn_a, h (wv y p), prn_t, prn_a, Nat.add_comm (wk y)]
def weqB (u v : List Nat) (e : Nat) : Bool := decide (prn (wk v) (wv u e0) = pt8 e (prn (wk u) (wv v e0))) && decide (prn (wk v) (wv u e1) = pt8 e (prn (wk u) (wv v e1)))
def weqS (u v : List Nat) : Bool := (List.range 8).any (weqB u v)
theorem prn_ra (n : Nat) (p q : R2) : prn n (pra p q) = pra (prn n p) (prn n q) := by
  unfold prn pra
  show (rn n (ra p.1 q.1), rn n (ra p.2 q.2)) = (ra (rn n p.1) (rn n q.1), ra (rn n p.2) (rn n q.2))
  rw [ra_rn, ra_rn]
theorem pt8_ra (n : Nat) (p q : R2) : pt8 n (pra p q) = pra (pt8 n p) (pt8 n q) := by
  unfold pt8 pra
  show (t8n n (ra p.1 q.1), t8n n (ra p.2 q.2)) = (ra (t8n n p.1) (t8n n q.1), ra (t8n n p.2) (t8n n q.2))
  rw [t8n_ra, t8n_ra]
theorem prn_sc (n : Nat) (p : R2) (u : R4) : prn n (psc p u) = psc (prn n p) u := by
  unfold prn psc
  show (rn n (mu p.1 u), rn n (mu p.2 u)) = (mu (rn n p.1) u, mu (rn n p.2) u)
  rw [mu_rn, mu_rn]
theorem pt8_sc (n : Nat) (p : R2) (u : R4) : pt8 n (psc p u) = psc (pt8 n p) u := by
  unfold pt8 psc
  show (t8n n (mu p.1 u), t8n n (mu p.2 u)) = (mu (t8n n p.1) u, mu (t8n n p.2) u)
  rw [mu_t8n, mu_t8n]
theorem weq_B {u v : List Nat} (h : weqS u v = true) : weq u v := by
  obtain ⟨e, he, hb⟩ := List.any_eq_true.mp h
  obtain ⟨h0, h1⟩ := (Bool.and_eq_true _ _).mp hb
  have h0 := of_decide_eq_true h0
  have h1 := of_decide_eq_true h1
  refine ⟨e, List.mem_range.mp he, fun p => ?_⟩
  obtain ⟨a, b⟩ := p
  rw [wv_l a b u, wv_l a b v, prn_ra, prn_sc, prn_sc, prn_ra, prn_sc, prn_sc, pt8_ra, pt8_sc, pt8_sc, h0, h1]
