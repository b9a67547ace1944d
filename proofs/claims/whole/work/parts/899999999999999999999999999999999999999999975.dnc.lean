/-! DENSITIES: measured, reset, spoilt, lowered -/
section DNE
variable {m N i j : Nat} {S T : Nat → Nat → Int} {X Y : Nat → Nat → R4}
/-- numbers out of a place and the place across -/
def opM (S T : Nat → Nat → Int) (m : Nat) (X : Nat → Nat → R4) (i j : Nat) : R4 := lin (S i j) (X i j) (T i j) (X (i ^^^ m) (j ^^^ m))
theorem lin_ra (s t : Int) (x x' y y' : R4) : lin s (ra x x') t (ra y y') = ra (lin s x t y) (lin s x' t y') := by
  simp only [lin, ra, Prod.mk.injEq]
  refine ⟨?_, ?_, ?_, ?_⟩ <;> grind
theorem lin_rr (s t : Int) (x y : R4) : rr (lin s x t y) = lin s (rr x) t (rr y) := by
  simp only [lin, rr, Prod.mk.injEq]
  refine ⟨?_, ?_, ?_, ?_⟩ <;> grind
theorem lin_rn (s t : Int) (x y : R4) : ∀ e, rn e (lin s x t y) = lin s (rn e x) t (rn e y)
  | 0 => rfl
  | e + 1 => by
    show rr (rn e (lin s x t y)) = lin s (rr (rn e x)) t (rr (rn e y))
    rw [lin_rn s t x y e, lin_rr]
theorem lin_sc (s t : Int) (x y : R4) : lin s x t y = ra (scl s x) (scl t y) := by
  simp only [lin, ra, scl, Prod.mk.injEq]
  refine ⟨?_, ?_, ?_, ?_⟩ <;> grind
theorem sc_sc (a b : Int) (x : R4) : scl a (scl b x) = scl (a * b) x := by
  simp only [scl, Prod.mk.injEq]
  refine ⟨?_, ?_, ?_, ?_⟩ <;> grind
theorem sc_ad (a b : Int) (x : R4) : scl (a + b) x = ra (scl a x) (scl b x) := by
  simp only [scl, ra, Int.mul_add]
theorem sc_0 (x : R4) : scl 0 x = (0, 0, 0, 0) := by
  simp only [scl, Int.mul_zero]
theorem sc_1 (x : R4) : scl 1 x = x := by
  simp only [scl, Int.mul_one]
theorem mu_s1 (x y : R4) (a : Int) : mu (scl a x) y = scl a (mu x y) := by rw [mu_c, mu_sc, mu_c]
/-- weights and factors: what they make of a place -/
def wSt : List (Nat × (Nat → Int)) → Nat → Nat → Int
  | [], _, _ => 0
  | p :: l, i, j => (p.1 : Int) * (p.2 i * p.2 j) + wSt l i j
def kP (P : List (Nat × (Nat → Int))) (f : Nat → Nat) (a : Nat × (Nat → R4)) : List (Nat × (Nat → R4)) := P.map fun p => (a.1 * p.1, fun i => scl (p.2 i) (a.2 (f i)))
theorem dn_app (l k : List (Nat × (Nat → R4))) (i j : Nat) : dnL (l ++ k) i j = ra (dnL l i j) (dnL k i j) := by
  induction l with
  | nil =>
    show dnL k i j = ra (0, 0, 0, 0) (dnL k i j)
    rw [ra_z0]
  | cons a l ih =>
    show ra (scl (a.1 : Int) (mu (a.2 i) (cj (a.2 j)))) (dnL (l ++ k) i j) = ra (ra (scl (a.1 : Int) (mu (a.2 i) (cj (a.2 j)))) (dnL l i j)) (dnL k i j)
    rw [ih, ra_as]
theorem kP_d (P : List (Nat × (Nat → Int))) (f : Nat → Nat) (a : Nat × (Nat → R4)) (i j : Nat) : dnL (kP P f a) i j = scl (wSt P i j) (scl (a.1 : Int) (mu (a.2 (f i)) (cj (a.2 (f j))))) := by
  induction P with
  | nil =>
    show (0, 0, 0, 0) = scl 0 _
    rw [sc_0]
  | cons p l ih =>
    show ra (scl ((a.1 * p.1 : Nat) : Int) (mu (scl (p.2 i) (a.2 (f i))) (cj (scl (p.2 j) (a.2 (f j)))))) (dnL (kP l f a) i j) = scl ((p.1 : Int) * (p.2 i * p.2 j) + wSt l i j) _
    have e : ∀ z : R4, scl ((a.1 * p.1 : Nat) : Int) (scl (p.2 j) (scl (p.2 i) z)) = scl ((p.1 : Int) * (p.2 i * p.2 j)) (scl (a.1 : Int) z) := fun z => by
      rw [sc_sc, sc_sc, sc_sc, Int.natCast_mul]
      congr 1
      grind
    rw [ih, sc_ad, cj_sc, mu_sc, mu_s1, e]
/-- what a step makes of a sum of STATES -/
def krL (P Q : List (Nat × (Nat → Int))) (m : Nat) : List (Nat × (Nat → R4)) → List (Nat × (Nat → R4))
  | [] => []
  | a :: l => kP P id a ++ (kP Q (fun i => i ^^^ m) a ++ krL P Q m l)
theorem op_dn (P Q : List (Nat × (Nat → Int))) (i j : Nat) : ∀ l, opM (wSt P) (wSt Q) m (dnL l) i j = dnL (krL P Q m l) i j
  | [] => by
    show lin _ (0, 0, 0, 0) _ (0, 0, 0, 0) = (0, 0, 0, 0)
    simp [lin]
  | a :: l => by
    have ih := op_dn P Q i j l
    show lin (wSt P i j) (ra (scl (a.1 : Int) (mu (a.2 i) (cj (a.2 j)))) (dnL l i j)) (wSt Q i j) (ra (scl (a.1 : Int) (mu (a.2 (i ^^^ m)) (cj (a.2 (j ^^^ m))))) (dnL l (i ^^^ m) (j ^^^ m))) = dnL (kP P id a ++ (kP Q (fun i => i ^^^ m) a ++ krL P Q m l)) i j
    rw [dn_app, dn_app, kP_d, kP_d, ← ih, lin_ra, lin_sc, ra_as]
    rfl
theorem op_T {w : Nat} {C : Int} (P Q : List (Nat × (Nat → Int))) (hm : m < 2 ^ w) (hC : ∀ i, i < 2 ^ w → wSt P i i + wSt Q (i ^^^ m) (i ^^^ m) = C) (l : List (Nat × (Nat → R4))) : dnT (krL P Q m l) (2 ^ w) = scl C (dnT l (2 ^ w)) := by
  unfold dnT
  rw [sR_ext (G := fun i => ra (scl (wSt P i i) (dnL l i i)) ((fun k => scl (wSt Q (k ^^^ m) (k ^^^ m)) (dnL l k k)) (i ^^^ m))) (2 ^ w) (fun i hi => by
    show dnL (krL P Q m l) i i = ra _ (scl (wSt Q ((i ^^^ m) ^^^ m) ((i ^^^ m) ^^^ m)) (dnL l (i ^^^ m) (i ^^^ m)))
    rw [← op_dn, Nat.xor_assoc, Nat.xor_self, Nat.xor_zero]
    exact lin_sc _ _ _ _), sR_ra, sR_x (fun k => scl (wSt Q (k ^^^ m) (k ^^^ m)) (dnL l k k)) hm, ← sR_ra, ← sR_sc]
  refine sR_ext (2 ^ w) fun i hi => ?_
  rw [← sc_ad, hC i hi]
theorem rn_2s (x : R4) : rn 2 x = scl 2 x := by
  rw [rn_2]
  simp only [ra, scl, Prod.mk.injEq]
  refine ⟨?_, ?_, ?_, ?_⟩ <;> omega
theorem rn_8s (x : R4) : rn 8 x = scl 16 x := by
  rw [show (8 : Nat) = 2 + (2 + (2 + 2)) from rfl, rn_a, rn_a, rn_a, rn_2s, rn_2s, rn_2s, rn_2s, sc_sc, sc_sc, sc_sc]
  rfl
theorem rn_12s (x : R4) : rn 12 x = scl 64 x := by
  rw [show (12 : Nat) = 2 + (2 + 8) from rfl, rn_a, rn_a, rn_8s, rn_2s, rn_2s, sc_sc, sc_sc]
  rfl
/-- a step keeps DENSITIES -/
theorem lg_op {w K q : Nat} {C : Int} {xs ys : Nat → R4} (P Q : List (Nat × (Nat → Int))) (hm : m < 2 ^ w) (hq : ∀ x, rn q x = scl C x) (hC : ∀ i, i < 2 ^ w → wSt P i i + wSt Q (i ^^^ m) (i ^^^ m) = C) (hy : ∀ i j, i < 2 ^ w → j < 2 ^ w → ys (i + 2 ^ w * j) = opM (wSt P) (wSt Q) m (fun a b => xs (a + 2 ^ w * b)) i j) (h : lgD w K xs) : lgD w (K + q) ys := by
  obtain ⟨⟨e, l, h1⟩, h2⟩ := h
  refine lgD_mk (l' := krL P Q m l) h1 h2 (fun i j hi hj => ?_) (by rw [op_T P Q hm hC, hq])
  rw [hy i j hi hj, ← op_dn]
  unfold opM
  rw [lin_rn]
  show lin _ (rn e (xs (i + 2 ^ w * j))) _ (rn e (xs ((i ^^^ m) + 2 ^ w * (j ^^^ m)))) = _
  rw [h1 i j hi hj, h1 _ _ (Nat.xor_lt_two_pow hi hm) (Nat.xor_lt_two_pow hj hm)]
/-- a bit that is not there, that is there, its sign -/
def fb0 (r i : Nat) : Int := if i &&& 2 ^ r = 0 then 1 else 0
def fb1 (r i : Nat) : Int := if i &&& 2 ^ r = 0 then 0 else 1
def fbs (r i : Nat) : Int := if i &&& 2 ^ r = 0 then 1 else -1
def smB (W r a b : Nat) : Bool := (smW W r (a + 2 ^ W * b) == (decide (a &&& 2 ^ r = 0) == decide (b &&& 2 ^ r = 0))) && (decide ((a + 2 ^ W * b) ^^^ boW W r = (a ^^^ 2 ^ r) + 2 ^ W * (b ^^^ 2 ^ r)) && ((decide ((a ^^^ 2 ^ r) &&& 2 ^ r = 0) == !decide (a &&& 2 ^ r = 0)) && ((decide ((a ^^^ b) &&& 2 ^ r = 0) == (decide (a &&& 2 ^ r = 0) == decide (b &&& 2 ^ r = 0))) && decide (a &&& 2 ^ r = 0 → a ||| 2 ^ r = a ^^^ 2 ^ r))))
theorem smB_a : ∀ W, W < 4 → ∀ r, r < W → ∀ a, a < 2 ^ W → ∀ b, b < 2 ^ W → smB W r a b = true := by decide +kernel
theorem smB_f {W r a b : Nat} (hW : W ≤ 3) (hr : r < W) (ha : a < 2 ^ W) (hb : b < 2 ^ W) : smW W r (a + 2 ^ W * b) = (decide (a &&& 2 ^ r = 0) == decide (b &&& 2 ^ r = 0)) ∧ (a + 2 ^ W * b) ^^^ boW W r = (a ^^^ 2 ^ r) + 2 ^ W * (b ^^^ 2 ^ r) ∧ decide ((a ^^^ 2 ^ r) &&& 2 ^ r = 0) = !decide (a &&& 2 ^ r = 0) ∧ decide ((a ^^^ b) &&& 2 ^ r = 0) = (decide (a &&& 2 ^ r = 0) == decide (b &&& 2 ^ r = 0)) ∧ (a &&& 2 ^ r = 0 → a ||| 2 ^ r = a ^^^ 2 ^ r) := by
  have h := smB_a W (by omega) r hr a ha b hb
  unfold smB at h
  rw [Bool.and_eq_true, Bool.and_eq_true, Bool.and_eq_true, Bool.and_eq_true, beq_iff_eq, beq_iff_eq, beq_iff_eq, decide_eq_true_eq, decide_eq_true_eq] at h
  exact h
end DNE
