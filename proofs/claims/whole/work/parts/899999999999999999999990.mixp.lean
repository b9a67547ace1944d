/-! mix, the class: pouring down -/
def pdB (W r c : Nat) : Bool := (!decide (c &&& boW W r = 0) || (decide (c ||| boW W r < 2 ^ (2 * W)) && (decide ((c ||| boW W r) &&& boW W r = boW W r) && (decide ((c ||| boW W r) ^^^ boW W r = c) && decide (¬ c ||| boW W r = c))))) && ((!decide (c &&& boW W r = boW W r) || (decide ((c ^^^ boW W r) &&& boW W r = 0) && decide ((c ^^^ boW W r) ||| boW W r = c))) && decide (¬ boW W r = 0))
theorem pd_all : ∀ W, W < 4 → ∀ r, r < W → ∀ c, c < 2 ^ (2 * W) → pdB W r c = true := by decide +kernel
theorem pd_f {W r c : Nat} (hW : W ≤ 3) (hr : r < W) (hc : c < 2 ^ (2 * W)) : (c &&& boW W r = 0 → c ||| boW W r < 2 ^ (2 * W) ∧ (c ||| boW W r) &&& boW W r = boW W r ∧ (c ||| boW W r) ^^^ boW W r = c ∧ ¬ c ||| boW W r = c) ∧ (c &&& boW W r = boW W r → (c ^^^ boW W r) &&& boW W r = 0 ∧ (c ^^^ boW W r) ||| boW W r = c) ∧ ¬ boW W r = 0 := by
  have h := pd_all W (by omega) r hr c hc
  simp only [pdB, Bool.and_eq_true, Bool.or_eq_true, Bool.not_eq_true', decide_eq_true_eq, decide_eq_false_iff_not] at h
  obtain ⟨h1, h2, h3⟩ := h
  exact ⟨fun z => h1.resolve_left fun q => q z, fun z => h2.resolve_left fun q => q z, h3⟩
/-- the numbers behind it -/
def pdN (W r : Nat) (xs : Nat → R4) (c : Nat) : R4 := if c &&& boW W r = 0 then ra (xs c) (xs (c ||| boW W r)) else if c &&& boW W r = boW W r then (0, 0, 0, 0) else xs c
def pdI (W r : Nat) (xs : Nat → R4) (i c : Nat) : R4 := if c &&& boW W r = 0 ∧ c < i then ra (xs c) (xs (c ||| boW W r)) else if c &&& boW W r = boW W r ∧ c ^^^ boW W r < i then (0, 0, 0, 0) else xs c
def za (xs : Nat → R4) (a b : Nat) : Nat → Nat → R4
  | 0 => xs
  | p + 1 => stpp (za xs a b p) a p (pp (xs a) p + pp (xs b) p)
theorem za_p {xs : Nat → R4} {a b : Nat} (j : Nat) {t : Nat} (ht : t < 4) : ∀ p, p ≤ 4 → pp (za xs a b p j) t = if t < p ∧ j = a then pp (xs a) t + pp (xs b) t else pp (xs j) t
  | 0, _ => by
    rw [if_neg (by omega)]
    rfl
  | p + 1, hp => by
    have ih := za_p (xs := xs) (a := a) (b := b) j ht p (by omega)
    show pp (stpp (za xs a b p) a p _ j) t = _
    unfold stpp
    by_cases ja : j = a
    · rw [if_pos ja, pp_sp _ _ (by omega) ht]
      by_cases e : t = p
      · rw [if_pos e, if_pos (by omega), e]
      · rw [if_neg e, ih]
        by_cases q : t < p
        · rw [if_pos ⟨q, ja⟩, if_pos (by omega)]
        · rw [if_neg (by omega), if_neg (by omega)]
    · rw [if_neg ja, ih, if_neg (by omega), if_neg (by omega)]
theorem za_4 {xs : Nat → R4} {a b : Nat} : za xs a b 4 = stx xs a (ra (xs a) (xs b)) := funext fun j => r4_p fun t ht => by
  rw [za_p j ht 4 (by decide)]
  unfold stx
  by_cases ja : j = a
  · rw [if_pos ⟨ht, ja⟩, if_pos ja]
    rcases (by omega : t = 0 ∨ t = 1 ∨ t = 2 ∨ t = 3) with rfl | rfl | rfl | rfl <;> rfl
  · rw [if_neg (by omega), if_neg ja]
section MXP
variable {d W r : Nat} {M : mm_M} {g : Nat → Int64} {xs : Nat → R4}
theorem pdI_1 {i j : Nat} (h : j &&& boW W r = 0 ∧ j < i) : pdI W r xs i j = ra (xs j) (xs (j ||| boW W r)) := if_pos h
theorem pdI_2 {i j : Nat} (n : ¬ (j &&& boW W r = 0 ∧ j < i)) (h : j &&& boW W r = boW W r ∧ j ^^^ boW W r < i) : pdI W r xs i j = (0, 0, 0, 0) := by
  unfold pdI
  rw [if_neg n, if_pos h]
theorem pdI_3 {i j : Nat} (n : ¬ (j &&& boW W r = 0 ∧ j < i)) (n2 : ¬ (j &&& boW W r = boW W r ∧ j ^^^ boW W r < i)) : pdI W r xs i j = xs j := by
  unfold pdI
  rw [if_neg n, if_neg n2]
theorem pd_eq {i j : Nat} (a3 : ¬ boW W r = 0) (n1 : j &&& boW W r = 0 → j ≠ i) (n2 : j &&& boW W r = boW W r → j ^^^ boW W r ≠ i) : pdI W r xs (i + 1) j = pdI W r xs i j := by
  by_cases A : j &&& boW W r = 0 ∧ j < i
  · rw [pdI_1 A, pdI_1 ⟨A.1, by omega⟩]
  · have A' : ¬ (j &&& boW W r = 0 ∧ j < i + 1) := fun z => A ⟨z.1, by have := n1 z.1; omega⟩
    by_cases B : j &&& boW W r = boW W r ∧ j ^^^ boW W r < i
    · rw [pdI_2 A B, pdI_2 A' ⟨B.1, by omega⟩]
    · rw [pdI_3 A B, pdI_3 A' fun z => B ⟨z.1, by have := n2 z.1; omega⟩]
theorem pd_st (hW : W ≤ 3) (hr : r < W) {i j : Nat} (hi : i < 2 ^ (2 * W)) (hj : j < 2 ^ (2 * W)) (h : i &&& boW W r = 0) : stx (stx (pdI W r xs i) i (ra (pdI W r xs i i) (pdI W r xs i (i ||| boW W r)))) (i ||| boW W r) (0, 0, 0, 0) j = pdI W r xs (i + 1) j := by
  obtain ⟨a1, _, a3⟩ := pd_f hW hr hi
  obtain ⟨b1, b2, b3, b4⟩ := a1 h
  obtain ⟨c1, c2, _⟩ := pd_f hW hr hj
  have nb : ¬ (i ||| boW W r) &&& boW W r = 0 := fun z => a3 (by rw [← b2]; exact z)
  have e1 : pdI W r xs i i = xs i := pdI_3 (by omega) (fun z => a3 (by rw [← z.1]; exact h))
  have e2 : pdI W r xs i (i ||| boW W r) = xs (i ||| boW W r) := pdI_3 (fun z => nb z.1) (by rw [b3]; omega)
  unfold stx
  by_cases jb : j = i ||| boW W r
  · rw [if_pos jb, jb]
    exact (pdI_2 (fun z => nb z.1) ⟨b2, by rw [b3]; omega⟩).symm
  · rw [if_neg jb]
    by_cases ja : j = i
    · rw [if_pos ja, e1, e2, ja]
      exact (pdI_1 ⟨h, by omega⟩).symm
    · rw [if_neg ja]
      exact (pd_eq a3 (fun _ => ja) (fun q2 z => jb (by rw [← z]; exact (c2 q2).2.symm))).symm
theorem pd_no (hW : W ≤ 3) (hr : r < W) {i j : Nat} (hj : j < 2 ^ (2 * W)) (h : ¬ i &&& boW W r = 0) : pdI W r xs (i + 1) j = pdI W r xs i j := by
  obtain ⟨_, c2, a3⟩ := pd_f hW hr hj
  exact pd_eq a3 (fun q z => h (by rw [← z]; exact q)) (fun q2 z => h (by rw [← z]; exact (c2 q2).1))
set_option maxRecDepth 100000 in
theorem pd_p {N i b : Nat} {bi : Int32} {Pp : am_Q} {X : am_X} (hX : am_K d false nm_X1_pourDown Pp X) (hN : N ≤ 64) (hi : i < N) (hb : b < N) (hib : i ≠ b) (hbi : nI i ||| bi = nI b) (hK : X 63 [some (aR 104), some (aI bi), some (aI (nI i)), some (aI (nI 4))] [] (mm_l M 107 (cq g N (stx xs i (ra (xs i) (xs b)))))) : ∀ m p, p + m = 4 → X 21 [some (aR 104), some (aI bi), some (aI (nI i)), some (aI (nI p))] [] (mm_l M 107 (cq g N (za xs i b p))) := by
  intro m
  induction m with
  | zero =>
    intro p hp
    have hp : p = 4 := by omega
    subst hp
    rw [za_4]
    refine am_run hX 3 _ _ _ _ ?_
    conv => whnf
    exact ⟨fun _ => hK, fun c => absurd (by decide) c⟩
  | succ m ih =>
    intro p hp
    have p4 : p < 4 := by omega
    have h1 : vp_in (nI (4 * i + p)) 256 := vp_in_nI (by omega) (by decide)
    have h2 : vp_in (nI (4 * b + p)) 256 := vp_in_nI (by omega) (by decide)
    have v1 : pp (za xs i b p i) p = pp (xs i) p := by rw [za_p i p4 p (by omega), if_neg (by omega)]
    have v2 : pp (za xs i b p b) p = pp (xs b) p := by rw [za_p b p4 p (by omega), if_neg (by omega)]
    have e4 : (4 : Int32) = nI 4 := rfl
    refine am_run hX 3 _ _ _ _ ?_
    conv => whnf
    refine ⟨fun c => absurd c (nI_ge (b := 4) p4 (by decide)), fun _ => ?_⟩
    refine am_run hX 10 _ _ _ _ ?_
    conv => whnf
    rw [e4, nI_mul, nI_add]
    refine ⟨h1, ?_⟩
    conv => whnf
    rw [nI_clamp (n := 4 * i + p) (by omega), mm_l2, cq_at hi p4, v1]
    refine am_run hX 11 _ _ _ _ ?_
    conv => whnf
    rw [hbi, e4, nI_mul, nI_add]
    refine ⟨h2, ?_⟩
    conv => whnf
    rw [nI_clamp (n := 4 * b + p) (by omega), mm_l2, cq_at hb p4, v2]
    refine am_run hX 2 _ _ _ _ ?_
    conv => whnf
    rw [lI_add]
    refine ⟨h1, ?_⟩
    conv => whnf
    rw [nI_clamp (n := 4 * i + p) (by omega), mm_l2, mm_ll, cq_u _ hi p4]
    refine am_run hX 2 _ _ _ _ ?_
    conv => whnf
    rw [nI_1]
    exact ih (p + 1) (by omega)
set_option maxRecDepth 100000 in
theorem pd_l {Pp : am_Q} {X : am_X} (hX : am_K (d + 1) false nm_X1_pourDown Pp X) (hW : W ≤ 3) (hr : r < W) (h2 : M.1 105 2 = nI (2 ^ (2 * W))) (hP : Pp (.inl none) (mm_l M 107 (cq g (2 ^ (2 * W)) (pdN W r xs)))) : ∀ m i l3, i + m = 2 ^ (2 * W) → X 2 [some (aR 104), some (aI (nI (boW W r))), some (aI (nI i)), l3] [] (mm_l M 107 (cq g (2 ^ (2 * W)) (pdI W r xs i))) := by
  have h64 := w64 hW
  intro m
  induction m with
  | zero =>
    intro i l3 hi
    have hi : i = 2 ^ (2 * W) := by omega
    subst hi
    have e : cq g (2 ^ (2 * W)) (pdI W r xs (2 ^ (2 * W))) = cq g (2 ^ (2 * W)) (pdN W r xs) := cq_e fun j hj => by
      unfold pdI pdN
      by_cases q : j &&& boW W r = 0
      · rw [if_pos ⟨q, hj⟩, if_pos q]
      · rw [if_neg (fun z => q z.1), if_neg q]
        by_cases q2 : j &&& boW W r = boW W r
        · rw [if_pos ⟨q2, (bo_f hW hr hj).1⟩, if_pos q2]
        · rw [if_neg (fun z => q2 z.1), if_neg q2]
    rw [e]
    refine am_run hX 5 _ _ _ _ ?_
    conv => whnf
    rw [show (mm_l M 107 (cq g (2 ^ (2 * W)) (pdN W r xs))).1 105 2 = nI (2 ^ (2 * W)) from h2]
    refine ⟨fun _ => ?_, fun c => absurd (nI_le (by omega) (by omega)) c⟩
    refine am_run hX 1 _ _ _ _ ?_
    conv => whnf
    exact ⟨trivial, hP⟩
  | succ m ih =>
    intro i l3 hi
    have hi' : i < 2 ^ (2 * W) := by omega
    have al : i &&& boW W r < 64 := Nat.lt_of_le_of_lt Nat.and_le_left (by omega)
    obtain ⟨a1, _, a3⟩ := pd_f hW hr hi'
    refine am_run hX 5 _ _ _ _ ?_
    conv => whnf
    rw [show (mm_l M 107 (cq g (2 ^ (2 * W)) (pdI W r xs i))).1 105 2 = nI (2 ^ (2 * W)) from h2]
    refine ⟨fun c => absurd c (nI_ge (by omega) (by omega)), fun _ => ?_⟩
    refine am_run hX 4 _ _ _ _ ?_
    conv => whnf
    rw [nI_and]
    by_cases c0 : i &&& boW W r = 0
    · obtain ⟨b1, b2, b3, b4⟩ := a1 c0
      refine ⟨fun c => absurd (by rw [c0]; rfl) c, fun _ => ?_⟩
      refine am_run hX 2 _ _ _ _ ?_
      conv => whnf
      refine pd_p (d := d + 1) (M := M) (g := g) (N := 2 ^ (2 * W)) (b := i ||| boW W r) (xs := pdI W r xs i) hX h64 hi' b1 (fun z => b4 z.symm) (nI_or _ _) ?_ 4 0 (by omega)
      refine am_run hX 6 _ _ _ _ ?_
      conv => whnf
      rw [nI_or]
      refine am_c0 (ct_wipe1_d (d := d) h64 b1) ?_
      conv => whnf
      refine am_run hX 2 _ _ _ _ ?_
      conv => whnf
      rw [nI_1]
      have e : cq g (2 ^ (2 * W)) (stx (stx (pdI W r xs i) i (ra (pdI W r xs i i) (pdI W r xs i (i ||| boW W r)))) (i ||| boW W r) (0, 0, 0, 0)) = cq g (2 ^ (2 * W)) (pdI W r xs (i + 1)) := cq_e fun j hj => pd_st hW hr hi' hj c0
      rw [e]
      exact ih (i + 1) _ (by omega)
    · refine ⟨fun _ => ?_, fun c => absurd (fun z => c0 ((nI_eq (b := 0) (by omega) (by decide)).mp z)) c⟩
      refine am_run hX 2 _ _ _ _ ?_
      conv => whnf
      rw [nI_1]
      have e : cq g (2 ^ (2 * W)) (pdI W r xs i) = cq g (2 ^ (2 * W)) (pdI W r xs (i + 1)) := cq_e fun j hj => (pd_no hW hr hj c0).symm
      rw [e]
      exact ih (i + 1) _ (by omega)
set_option maxRecDepth 100000 in
theorem ct_pour (hW : W ≤ 3) (hr : r < W) (h2 : M.1 105 2 = nI (2 ^ (2 * W))) : am_M (d + 2) false nm_X1_pourDown [aR 104, aI (nI (boW W r))] (mm_l M 107 (cq g (2 ^ (2 * W)) xs)) (am_q0 (mm_l M 107 (cq g (2 ^ (2 * W)) (pdN W r xs)))) := by
  have e0 : pdI W r xs 0 = xs := funext fun c => by
    unfold pdI
    rw [if_neg (by omega), if_neg (by omega)]
  refine ⟨rfl, rfl, rfl, fun X hX => am_run hX 2 _ _ _ _ ?_⟩
  conv => whnf
  have key := pd_l (d := d) (M := M) (g := g) (xs := xs) hX hW hr h2 ⟨rfl, rfl⟩ (2 ^ (2 * W)) 0 none (by omega)
  rw [e0] at key
  exact key
end MXP
