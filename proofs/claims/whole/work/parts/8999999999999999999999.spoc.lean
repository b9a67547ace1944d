/-! spoil, the class -/
def eI (v : Int) : Int32 := Int32.ofInt v
def spS (y k : Nat) (s : Bool) : Int := if y = 0 then 64 - 4 * k + (if s = true then 2 * k else 0) else 16 - k + (if y = 3 then (if s = true then (k : Int) else -k) else 0)
def spC (y k : Nat) (s : Bool) : Int := if y = 0 then (if s = true then 2 * k else 0) else if y = 3 then 0 else if y = 1 ∨ s = true then (k : Int) else -k
def bI (s : Bool) : Int32 := if s = true then 1 else 0
theorem sp_e : ∀ y, y < 4 → ∀ k, k < 17 → ∀ s : Bool, (eI (spS y k s)).toInt64 = lI (spS y k s) ∧ (eI (spC y k s)).toInt64 = lI (spC y k s) := by decide +kernel
theorem sp_a0 : ∀ k, k < 17 → (64 : Int32) - 4 * nI k + 2 * nI k = eI (spS 0 k true) ∧ (64 : Int32) - 4 * nI k + 0 = eI (spS 0 k false) ∧ (2 : Int32) * nI k = eI (spC 0 k true) ∧ (0 : Int32) = eI (spC 0 k false) := by decide +kernel
theorem sp_a1 : ∀ y, y < 3 → ¬ y = 0 → ∀ k, k < 17 → ∀ s, (16 : Int32) - nI k + 0 = eI (spS y k s) := by decide +kernel
theorem sp_a3 : ∀ k, k < 17 → (16 : Int32) - nI k + nI k = eI (spS 3 k true) ∧ (16 : Int32) - nI k + -nI k = eI (spS 3 k false) ∧ ∀ s, (0 : Int32) = eI (spC 3 k s) := by decide +kernel
theorem sp_c1 : ∀ k, k < 17 → (∀ s, nI k = eI (spC 1 k s)) ∧ nI k = eI (spC 2 k true) ∧ -nI k = eI (spC 2 k false) := by decide +kernel
section SPC
variable {d : Nat} {M : mm_M}
set_option maxRecDepth 100000 in
theorem ct_stays {y k : Nat} {s : Bool} (hy : y < 4) (hk : k < 17) : am_M (d + 1) false nm_X1_stays [aI (nI y), aI (nI k), aI (bI s)] M (am_q1 (aI (eI (spS y k s))) M) := by
  obtain ⟨a1, a2, a3, a4⟩ := sp_a0 k hk
  obtain ⟨b1, b2, b3⟩ := sp_a3 k hk
  refine ⟨rfl, rfl, rfl, fun X hX => am_run hX 2 _ _ _ _ ?_⟩
  conv => whnf
  by_cases y0 : y = 0
  · subst y0
    refine ⟨fun c => absurd rfl c, fun _ => ?_⟩
    refine am_run hX 7 _ _ _ _ ?_
    conv => whnf
    cases s with
    | false =>
      refine ⟨fun _ => ?_, fun c => absurd rfl c⟩
      refine am_run hX 3 _ _ _ _ ?_
      conv => whnf
      rw [a2]
      exact ⟨trivial, rfl, rfl⟩
    | true =>
      refine ⟨fun c => absurd c (by decide), fun _ => ?_⟩
      refine am_run hX 6 _ _ _ _ ?_
      conv => whnf
      rw [a1]
      exact ⟨trivial, rfl, rfl⟩
  refine ⟨fun _ => ?_, fun c => absurd (fun z => y0 ((nI_eq (b := 0) (by omega) (by decide)).mp z)) c⟩
  refine am_run hX 6 _ _ _ _ ?_
  conv => whnf
  by_cases y3 : y = 3
  · subst y3
    refine ⟨fun _ => ?_, fun c => absurd rfl c⟩
    refine am_run hX 2 _ _ _ _ ?_
    conv => whnf
    cases s with
    | false =>
      refine ⟨fun _ => ?_, fun c => absurd rfl c⟩
      refine am_run hX 4 _ _ _ _ ?_
      conv => whnf
      rw [b2]
      exact ⟨trivial, rfl, rfl⟩
    | true =>
      refine ⟨fun c => absurd c (by decide), fun _ => ?_⟩
      refine am_run hX 4 _ _ _ _ ?_
      conv => whnf
      rw [b1]
      exact ⟨trivial, rfl, rfl⟩
  · refine ⟨fun c => absurd ((nI_eq (b := 3) (by omega) (by decide)).mp c) y3, fun _ => ?_⟩
    refine am_run hX 4 _ _ _ _ ?_
    conv => whnf
    rw [sp_a1 y (by omega) y0 k hk s]
    exact ⟨trivial, rfl, rfl⟩
set_option maxRecDepth 100000 in
theorem ct_comes {y k : Nat} {s : Bool} (hy : y < 4) (hk : k < 17) : am_M (d + 1) false nm_X1_comes [aI (nI y), aI (nI k), aI (bI s)] M (am_q1 (aI (eI (spC y k s))) M) := by
  obtain ⟨a1, a2, a3, a4⟩ := sp_a0 k hk
  obtain ⟨b1, b2, b3⟩ := sp_a3 k hk
  obtain ⟨c1, c2, c3⟩ := sp_c1 k hk
  refine ⟨rfl, rfl, rfl, fun X hX => am_run hX 2 _ _ _ _ ?_⟩
  conv => whnf
  by_cases y0 : y = 0
  · subst y0
    refine ⟨fun c => absurd rfl c, fun _ => ?_⟩
    refine am_run hX 2 _ _ _ _ ?_
    conv => whnf
    cases s with
    | false =>
      refine ⟨fun _ => ?_, fun c => absurd rfl c⟩
      refine am_run hX 2 _ _ _ _ ?_
      conv => whnf
      exact ⟨trivial, by rw [← a4], rfl⟩
    | true =>
      refine ⟨fun c => absurd c (by decide), fun _ => ?_⟩
      refine am_run hX 5 _ _ _ _ ?_
      conv => whnf
      rw [a3]
      exact ⟨trivial, rfl, rfl⟩
  refine ⟨fun _ => ?_, fun c => absurd (fun z => y0 ((nI_eq (b := 0) (by omega) (by decide)).mp z)) c⟩
  refine am_run hX 3 _ _ _ _ ?_
  conv => whnf
  by_cases y3 : y = 3
  · subst y3
    refine ⟨fun c => absurd rfl c, fun _ => ?_⟩
    refine am_run hX 3 _ _ _ _ ?_
    conv => whnf
    exact ⟨trivial, by rw [← b3 s], rfl⟩
  refine ⟨fun _ => ?_, fun c => absurd (fun z => y3 ((nI_eq (b := 3) (by omega) (by decide)).mp z)) c⟩
  refine am_run hX 3 _ _ _ _ ?_
  conv => whnf
  have k34 : nI k = eI (spC y k s) → X 34 [some (aI (nI y)), some (aI (nI k)), some (aI (bI s))] [] M := fun e => by
    refine am_run hX 3 _ _ _ _ ?_
    conv => whnf
    exact ⟨trivial, by rw [e], rfl⟩
  by_cases y1 : y = 1
  · subst y1
    exact ⟨fun _ => k34 (c1 s), fun c => absurd rfl c⟩
  have y2 : y = 2 := by omega
  subst y2
  refine ⟨fun c => absurd c (by decide), fun _ => ?_⟩
  refine am_run hX 2 _ _ _ _ ?_
  conv => whnf
  cases s with
  | false =>
    refine ⟨fun _ => ?_, fun c => absurd rfl c⟩
    refine am_run hX 3 _ _ _ _ ?_
    conv => whnf
    exact ⟨trivial, by rw [c3], rfl⟩
  | true =>
    exact ⟨fun c => absurd c (by decide), fun _ => k34 c2⟩
/-- S x + T y -/
def lin (S : Int) (x : R4) (T : Int) (y : R4) : R4 := (S * x.1 + T * y.1, S * x.2.1 + T * y.2.1, S * x.2.2.1 + T * y.2.2.1, S * x.2.2.2 + T * y.2.2.2)
theorem pp_lin (S : Int) (x : R4) (T : Int) (y : R4) {p : Nat} (hp : p < 4) : pp (lin S x T y) p = S * pp x p + T * pp y p := by
  rcases (by omega : p = 0 ∨ p = 1 ∨ p = 2 ∨ p = 3) with rfl | rfl | rfl | rfl <;> rfl
def zz (xs : Nat → R4) (a b : Nat) (S T : Int) : Nat → Nat → R4
  | 0 => xs
  | p + 1 => stpp (stpp (zz xs a b S T p) a p (S * pp (xs a) p + T * pp (xs b) p)) b p (S * pp (xs b) p + T * pp (xs a) p)
theorem zz_p {xs : Nat → R4} {a b : Nat} {S T : Int} (hab : a ≠ b) (j : Nat) {r : Nat} (hr : r < 4) : ∀ p, p ≤ 4 → pp (zz xs a b S T p j) r = if r < p then (if j = a then S * pp (xs a) r + T * pp (xs b) r else if j = b then S * pp (xs b) r + T * pp (xs a) r else pp (xs j) r) else pp (xs j) r
  | 0, _ => by
    rw [if_neg (by omega)]
    rfl
  | p + 1, hp => by
    have ih := zz_p (xs := xs) (S := S) (T := T) hab j hr p (by omega)
    show pp (stpp (stpp (zz xs a b S T p) a p _) b p _ j) r = _
    unfold stpp
    by_cases jb : j = b
    · rw [if_pos jb, pp_sp _ _ (by omega) hr, if_neg (show ¬ j = a by omega), if_neg (show ¬ j = a by omega), if_pos jb]
      rw [if_neg (show ¬ j = a by omega), if_pos jb] at ih
      by_cases e : r = p
      · rw [if_pos e, if_pos (by omega), e]
      · rw [if_neg e, ih]
        by_cases q : r < p
        · rw [if_pos q, if_pos (by omega)]
        · rw [if_neg q, if_neg (by omega)]
    · rw [if_neg jb]
      by_cases ja : j = a
      · rw [if_pos ja, pp_sp _ _ (by omega) hr, if_pos ja]
        rw [if_pos ja] at ih
        by_cases e : r = p
        · rw [if_pos e, if_pos (by omega), e]
        · rw [if_neg e, ih]
          by_cases q : r < p
          · rw [if_pos q, if_pos (by omega)]
          · rw [if_neg q, if_neg (by omega)]
      · rw [if_neg ja, ih, if_neg ja, if_neg jb]
        by_cases q : r < p
        · rw [if_pos q, if_pos (by omega)]
        · rw [if_neg q, ite_self]
def spX (xs : Nat → R4) (a b : Nat) (S T : Int) : Nat → R4 := fun j => if j = a then lin S (xs a) T (xs b) else if j = b then lin S (xs b) T (xs a) else xs j
theorem r4_p {x y : R4} (h : ∀ r, r < 4 → pp x r = pp y r) : x = y := r4_e (h 0 (by decide)) (h 1 (by decide)) (h 2 (by decide)) (h 3 (by decide))
theorem zz_4 {xs : Nat → R4} {a b : Nat} {S T : Int} (hab : a ≠ b) : zz xs a b S T 4 = spX xs a b S T := funext fun j => r4_p fun r hr => by
  rw [zz_p hab j hr 4 (by decide), if_pos hr]
  unfold spX
  by_cases ja : j = a
  · rw [if_pos ja, if_pos ja, pp_lin _ _ _ _ hr]
  · rw [if_neg ja, if_neg ja]
    by_cases jb : j = b
    · rw [if_pos jb, if_pos jb, pp_lin _ _ _ _ hr]
    · rw [if_neg jb, if_neg jb]
set_option maxRecDepth 100000 in
theorem sq_l {a b N : Nat} {s t : Int32} {S T : Int} {xs : Nat → R4} {g : Nat → Int64} {Pp : am_Q} {X : am_X} (hX : am_K d false nm_X1_spoilPair Pp X) (hs : s.toInt64 = lI S) (ht : t.toInt64 = lI T) (ha : a < N) (hb : b < N) (hab : a ≠ b) (hN : N ≤ 64) (hP : Pp (.inl none) (mm_l M 107 (cq g N (spX xs a b S T)))) : ∀ m p l6 l7 l8 l9, p + m = 4 → X 3 [some (aR 104), some (aI (nI (4 * a))), some (aI (nI (4 * b))), some (aI s), some (aI t), some (aI (nI p)), l6, l7, l8, l9] [] (mm_l M 107 (cq g N (zz xs a b S T p))) := by
  intro m
  induction m with
  | zero =>
    intro p l6 l7 l8 l9 hp
    have hp : p = 4 := by omega
    subst hp
    refine am_run hX 3 _ _ _ _ ?_
    conv => whnf
    refine ⟨fun _ => ?_, fun c => absurd (by decide) c⟩
    refine am_run hX 1 _ _ _ _ ?_
    conv => whnf
    rw [zz_4 hab]
    exact ⟨trivial, hP⟩
  | succ m ih =>
    intro p l6 l7 l8 l9 hp
    have p4 : p < 4 := by omega
    have h1 : vp_in (nI (4 * a + p)) 256 := vp_in_nI (by omega) (by decide)
    have h2 : vp_in (nI (4 * b + p)) 256 := vp_in_nI (by omega) (by decide)
    have v1 : pp (zz xs a b S T p a) p = pp (xs a) p := by rw [zz_p hab a p4 p (by omega), if_neg (by omega)]
    have v2 : pp (zz xs a b S T p b) p = pp (xs b) p := by rw [zz_p hab b p4 p (by omega), if_neg (by omega)]
    refine am_run hX 3 _ _ _ _ ?_
    conv => whnf
    refine ⟨fun c => absurd c (nI_ge (b := 4) p4 (by decide)), fun _ => ?_⟩
    refine am_run hX 8 _ _ _ _ ?_
    conv => whnf
    rw [nI_add]
    refine ⟨h1, ?_⟩
    conv => whnf
    rw [nI_clamp (n := 4 * a + p) (by omega), mm_l2, cq_at ha p4, v1]
    refine am_run hX 8 _ _ _ _ ?_
    conv => whnf
    rw [nI_add]
    refine ⟨h2, ?_⟩
    conv => whnf
    rw [nI_clamp (n := 4 * b + p) (by omega), mm_l2, cq_at hb p4, v2]
    refine am_run hX 16 _ _ _ _ ?_
    conv => whnf
    rw [nI_add, hs, ht, lI_mul, lI_mul, lI_add]
    refine ⟨h1, ?_⟩
    conv => whnf
    rw [nI_clamp (n := 4 * a + p) (by omega), mm_l2, mm_ll, cq_u _ ha p4]
    refine am_run hX 16 _ _ _ _ ?_
    conv => whnf
    rw [nI_add, hs, ht, lI_mul, lI_mul, lI_add]
    refine ⟨h2, ?_⟩
    conv => whnf
    rw [nI_clamp (n := 4 * b + p) (by omega), mm_l2, mm_ll, cq_u _ hb p4]
    refine am_run hX 2 _ _ _ _ ?_
    conv => whnf
    rw [nI_1]
    exact ih (p + 1) _ _ _ _ (by omega)
set_option maxRecDepth 100000 in
theorem ct_spair {a b N : Nat} {s t : Int32} {S T : Int} {xs : Nat → R4} {g : Nat → Int64} (hs : s.toInt64 = lI S) (ht : t.toInt64 = lI T) (ha : a < N) (hb : b < N) (hab : a ≠ b) (hN : N ≤ 64) : am_M (d + 1) false nm_X1_spoilPair [aR 104, aI (nI (4 * a)), aI (nI (4 * b)), aI s, aI t] (mm_l M 107 (cq g N xs)) (am_q0 (mm_l M 107 (cq g N (spX xs a b S T)))) := by
  refine ⟨rfl, rfl, rfl, fun X hX => am_run hX 2 _ _ _ _ ?_⟩
  conv => whnf
  exact sq_l (xs := xs) hX hs ht ha hb hab hN ⟨rfl, rfl⟩ 4 0 _ _ _ _ (by omega)
end SPC
