/-! spoil, the reference: one cell -/
def ixB (W r i j : Nat) : Bool := decide ((i + 2 ^ W * j) ^^^ boW W r = (i ^^^ 2 ^ r) + 2 ^ W * (j ^^^ 2 ^ r)) && (decide (i ^^^ 2 ^ r < 2 ^ W) && (decide (j ^^^ 2 ^ r < 2 ^ W) && (smW W r (i + 2 ^ W * j) == decide ((i ^^^ j) &&& 2 ^ r = 0))))
theorem ix_all : ∀ W, W < 4 → ∀ r, r < W → ∀ i, i < 2 ^ W → ∀ j, j < 2 ^ W → ixB W r i j = true := by decide +kernel
theorem ix_f {W r i j : Nat} (hW : W ≤ 3) (hr : r < W) (hi : i < 2 ^ W) (hj : j < 2 ^ W) : (i + 2 ^ W * j) ^^^ boW W r = (i ^^^ 2 ^ r) + 2 ^ W * (j ^^^ 2 ^ r) ∧ i ^^^ 2 ^ r < 2 ^ W ∧ j ^^^ 2 ^ r < 2 ^ W ∧ smW W r (i + 2 ^ W * j) = decide ((i ^^^ j) &&& 2 ^ r = 0) := by
  have h := ix_all W (by omega) r hr i hi j hj
  simp only [ixB, Bool.and_eq_true, decide_eq_true_eq, beq_iff_eq] at h
  exact h
def spA (y k : Nat) : Int := if y = 0 then 64 - 3 * k else 16 - k
def spF (df : Bool) (k v : Nat) : Int := if 1 < v ∧ df = true then -(k : Int) else k
/-- what is gathered behind v of the three -/
def zV (y k : Nat) (df : Bool) (x x' : R4) : Nat → R4
  | 0 => ra (0, 0, 0, 0) (scl (spA y k) x)
  | v + 1 => if y = 0 ∨ y = v + 1 then ra (zV y k df x x' v) (scl (spF df k (v + 1)) (if v + 1 = 3 then x else x')) else zV y k df x x' v
theorem zV_3 {y k : Nat} (hy : y < 4) (df : Bool) (x x' : R4) : zV y k df x x' 3 = lin (spS y k (!df)) x (spC y k (!df)) x' := by
  obtain ⟨x1, x2, x3, x4⟩ := x
  obtain ⟨y1, y2, y3, y4⟩ := x'
  rcases (by omega : y = 0 ∨ y = 1 ∨ y = 2 ∨ y = 3) with rfl | rfl | rfl | rfl
  all_goals cases df
  all_goals simp [zV, spS, spC, spA, spF, lin, scl, ra]
  all_goals grind
/-- parts within n times 2^54 -/
def bbN (n : Nat) (x : R4) : Prop := x.1.natAbs ≤ n * 2 ^ 54 ∧ x.2.1.natAbs ≤ n * 2 ^ 54 ∧ x.2.2.1.natAbs ≤ n * 2 ^ 54 ∧ x.2.2.2.natAbs ≤ n * 2 ^ 54
theorem bbN_bd {n : Nat} {x : R4} (h : bbN n x) (hn : n ≤ 112) : bd x := by
  obtain ⟨a, b, c, e⟩ := h
  have p : n * 2 ^ 54 ≤ 112 * 2 ^ 54 := Nat.mul_le_mul_right _ hn
  refine ⟨?_, ?_, ?_, ?_⟩ <;> omega
theorem bbN_scl {x : R4} {F : Int} {n : Nat} (h : bbN 1 x) (hF : F.natAbs ≤ n) : bbN n (scl F x) := by
  obtain ⟨a, b, c, e⟩ := h
  have k : ∀ z : Int, z.natAbs ≤ 1 * 2 ^ 54 → (z * F).natAbs ≤ n * 2 ^ 54 := fun z hz => by
    rw [Int.natAbs_mul, Nat.mul_comm n]
    exact Nat.mul_le_mul (by omega) hF
  exact ⟨k _ a, k _ b, k _ c, k _ e⟩
theorem bbN_ra {m n : Nat} {x z : R4} (h : bbN m x) (h' : bbN n z) : bbN (m + n) (ra x z) := by
  obtain ⟨a, b, c, e⟩ := h
  obtain ⟨a', b', c', e'⟩ := h'
  have k : ∀ p q : Int, p.natAbs ≤ m * 2 ^ 54 → q.natAbs ≤ n * 2 ^ 54 → (p + q).natAbs ≤ (m + n) * 2 ^ 54 := fun p q hp hq => by
    have := Int.natAbs_add_le p q
    rw [Nat.add_mul]
    omega
  exact ⟨k _ _ a a', k _ _ b b', k _ _ c c', k _ _ e e'⟩
theorem bbN_le {m n : Nat} {x : R4} (h : bbN m x) (hn : m ≤ n) : bbN n x := by
  have p : m * 2 ^ 54 ≤ n * 2 ^ 54 := Nat.mul_le_mul_right _ hn
  obtain ⟨a, b, c, e⟩ := h
  exact ⟨Nat.le_trans a p, Nat.le_trans b p, Nat.le_trans c p, Nat.le_trans e p⟩
theorem bbN_0 : bbN 0 (0, 0, 0, 0) := by
  refine ⟨?_, ?_, ?_, ?_⟩ <;> decide
theorem sq_54 {a : Int} (h : a * a ≤ 2 ^ 108) : a.natAbs ≤ 1 * 2 ^ 54 := by
  apply Decidable.byContradiction
  intro c
  have c : 2 ^ 54 < a.natAbs := by omega
  have m : 2 ^ 54 * 2 ^ 54 < a.natAbs * a.natAbs := Nat.mul_lt_mul_of_lt_of_lt c c
  have e : ((a.natAbs * a.natAbs : Nat) : Int) = a * a := Int.natAbs_mul_self
  have z : (2 : Int) ^ 108 = ((2 ^ 54 * 2 ^ 54 : Nat) : Int) := by decide
  rw [z, ← e] at h
  omega
theorem nrm_54 {x : R4} (h : nrm x ≤ 2 ^ 108) : bbN 1 x := by
  unfold nrm at h
  have a := sq_0 x.1
  have b := sq_0 x.2.1
  have c := sq_0 x.2.2.1
  have e := sq_0 x.2.2.2
  exact ⟨sq_54 (by omega), sq_54 (by omega), sq_54 (by omega), sq_54 (by omega)⟩
theorem spA_b {y k : Nat} (hk : k < 17) : (spA y k).natAbs ≤ 64 := by
  unfold spA
  by_cases c : y = 0
  · rw [if_pos c]; omega
  · rw [if_neg c]; omega
theorem spF_b {df : Bool} {k v : Nat} (hk : k < 17) : (spF df k v).natAbs ≤ 16 := by
  unfold spF
  by_cases c : 1 < v ∧ df = true
  · rw [if_pos c]; omega
  · rw [if_neg c]; omega
theorem zV_b {y k : Nat} {df : Bool} {x x' : R4} (hk : k < 17) (h : bbN 1 x) (h' : bbN 1 x') : ∀ v, bbN (64 + 16 * v) (zV y k df x x' v)
  | 0 => by
    have := bbN_ra bbN_0 (bbN_scl h (spA_b (y := y) hk))
    exact bbN_le this (by omega)
  | v + 1 => by
    have ih := zV_b (y := y) (df := df) hk h h' v
    have a : bbN 1 (if v + 1 = 3 then x else x') := by
      by_cases c : v + 1 = 3
      · rw [if_pos c]; exact h
      · rw [if_neg c]; exact h'
    show bbN _ (if y = 0 ∨ y = v + 1 then ra (zV y k df x x' v) (scl (spF df k (v + 1)) (if v + 1 = 3 then x else x')) else zV y k df x x' v)
    by_cases c : y = 0 ∨ y = v + 1
    · rw [if_pos c]
      exact bbN_le (bbN_ra ih (bbN_scl a (spF_b (df := df) (v := v + 1) hk))) (by omega)
    · rw [if_neg c]
      exact bbN_le ih (by omega)
section SPB
variable {d : Nat} {M : mm_M}
theorem spA_i : ∀ y, y < 4 → ∀ k, k < 17 → (if y = 0 then (64 : Int32) - 3 * nI k else 16 - nI k).toInt64 = lI (spA y k) := by decide +kernel
/-- the numbers that a cell stands on -/
def twC (M : mm_M) (K i j m : Nat) (x x' : R4) : Prop := at5 (M.2 162) (5 * (8 * i + j)) (red K x).1 (red K x).2 ∧ at5 (M.2 162) (5 * (8 * (i ^^^ m) + (j ^^^ m))) (red K x').1 (red K x').2
set_option maxRecDepth 100000 in
theorem sm_v {K i j r y k : Nat} {x x' : R4} {v6 : Int32} {Pp : am_Q} {X : am_X} (hX : am_K (d + 4) false nm_X12_spoil Pp X) (hK : K ≤ 120) (hi : i < 8) (hj : j < 8) (hr : r < 3) (hy : y < 4) (hk : k < 17) (bx : bbN 1 x) (bx' : bbN 1 x') (hx : twC M K i j (2 ^ r) x x') (hE : ∀ N l7, soF M N → at5 (N.2 163) (5 * (8 * i + j)) (red K (zV y k (!decide ((i ^^^ j) &&& 2 ^ r = 0)) x x' 3)).1 (red K (zV y k (!decide ((i ^^^ j) &&& 2 ^ r = 0)) x x' 3)).2 → (∀ q, (q < 5 * (8 * i + j) ∨ 5 * (8 * i + j) + 5 ≤ q) → N.2 163 q = M.2 163 q) → X 192 [some (aR 108), some (aI (nI r)), some (aI (nI y)), some (aI (nI k)), some (aI (nI i)), some (aI (nI j)), some (aI v6), l7] [] N) : ∀ m v N, v + m = 3 → soF M N → at5 (N.2 163) (5 * (8 * i + j)) (red K (zV y k (!decide ((i ^^^ j) &&& 2 ^ r = 0)) x x' v)).1 (red K (zV y k (!decide ((i ^^^ j) &&& 2 ^ r = 0)) x x' v)).2 → (∀ q, (q < 5 * (8 * i + j) ∨ 5 * (8 * i + j) + 5 ≤ q) → N.2 163 q = M.2 163 q) → X 156 [some (aR 108), some (aI (nI r)), some (aI (nI y)), some (aI (nI k)), some (aI (nI i)), some (aI (nI j)), some (aI v6), some (aI (nI (v + 1)))] [] N := by
  have r4 : 2 ^ r = 1 ∨ 2 ^ r = 2 ∨ 2 ^ r = 4 := by
    rcases (by omega : r = 0 ∨ r = 1 ∨ r = 2) with rfl | rfl | rfl
    · exact Or.inl rfl
    · exact Or.inr (Or.inl rfl)
    · exact Or.inr (Or.inr rfl)
  intro m
  induction m with
  | zero =>
    intro v N hv hf hz ho
    have hv : v = 3 := by omega
    subst hv
    refine am_run hX 3 _ _ _ _ ?_
    conv => whnf
    exact ⟨fun _ => hE N _ hf hz ho, fun c => absurd (by decide) c⟩
  | succ m ih =>
    intro v N hv hf hz ho
    have v3 : v + 1 < 4 := by omega
    refine am_run hX 3 _ _ _ _ ?_
    conv => whnf
    refine ⟨fun c => absurd c (nI_ge (b := 4) v3 (by decide)), fun _ => ?_⟩
    have k186 : ∀ N', soF M N' → at5 (N'.2 163) (5 * (8 * i + j)) (red K (zV y k (!decide ((i ^^^ j) &&& 2 ^ r = 0)) x x' (v + 1))).1 (red K (zV y k (!decide ((i ^^^ j) &&& 2 ^ r = 0)) x x' (v + 1))).2 → (∀ q, (q < 5 * (8 * i + j) ∨ 5 * (8 * i + j) + 5 ≤ q) → N'.2 163 q = M.2 163 q) → X 186 [some (aR 108), some (aI (nI r)), some (aI (nI y)), some (aI (nI k)), some (aI (nI i)), some (aI (nI j)), some (aI v6), some (aI (nI (v + 1)))] [] N' := fun N' f' z' o' => by
      refine am_run hX 2 _ _ _ _ ?_
      conv => whnf
      rw [nI_1]
      exact ih (v + 1) N' (by omega) f' z' o'
    have k172 : (y = 0 ∨ y = v + 1) → X 172 [some (aR 108), some (aI (nI r)), some (aI (nI y)), some (aI (nI k)), some (aI (nI i)), some (aI (nI j)), some (aI v6), some (aI (nI (v + 1)))] [] N := fun hy' => by
      have ez : zV y k (!decide ((i ^^^ j) &&& 2 ^ r = 0)) x x' (v + 1) = ra (zV y k (!decide ((i ^^^ j) &&& 2 ^ r = 0)) x x' v) (scl (spF (!decide ((i ^^^ j) &&& 2 ^ r = 0)) k (v + 1)) (if v + 1 = 3 then x else x')) := if_pos hy'
      have bb := zV_b (y := y) (df := !decide ((i ^^^ j) &&& 2 ^ r = 0)) hk bx bx' (v + 1)
      have bs : bbN 1 (if v + 1 = 3 then x else x') := by
        by_cases c : v + 1 = 3
        · rw [if_pos c]; exact bx
        · rw [if_neg c]; exact bx'
      have b1 := bbN_bd (bbN_scl bs (spF_b (df := !decide ((i ^^^ j) &&& 2 ^ r = 0)) (v := v + 1) hk)) (by decide)
      have b2 := bbN_bd bb (by omega)
      rw [ez] at b2 k186
      have hx' : at5 (N.2 162) (if v + 1 = 3 then 5 * (8 * i + j) else 5 * (8 * (i ^^^ 2 ^ r) + (j ^^^ 2 ^ r))) (red K (if v + 1 = 3 then x else x')).1 (red K (if v + 1 = 3 then x else x')).2 := by
        rw [hf.2 162 (by decide) (by decide) (by decide)]
        by_cases c : v + 1 = 3
        · rw [if_pos c, if_pos c]; exact hx.1
        · rw [if_neg c, if_neg c]; exact hx.2
      have hF : spF (!decide ((i ^^^ j) &&& 2 ^ r = 0)) k (v + 1) = if 1 < v + 1 ∧ ¬ (i ^^^ j) &&& 2 ^ r = 0 then -(k : Int) else k := by
        unfold spF
        by_cases c : (i ^^^ j) &&& 2 ^ r = 0
        · rw [if_neg (by rw [decide_eq_true c]; intro z; exact absurd z.2 (by decide)), if_neg (fun z => z.2 c)]
        · rw [decide_eq_false c]
          by_cases c1 : 1 < v + 1
          · rw [if_pos ⟨c1, rfl⟩, if_pos ⟨c1, c⟩]
          · rw [if_neg (fun z => c1 z.1), if_neg (fun z => c1 z.1)]
      refine am_run hX 9 _ _ _ _ ?_
      conv => whnf
      rw [sh2 r (by omega)]
      refine am_cq (ct_sCe (d := d) (K := K) (v := v + 1) hK hi hj r4 (by omega) hk hF hx' hz b1 b2) ?_
      rintro r' N' ⟨rfl, f1, f2, f3⟩
      refine ⟨_, rfl, ?_⟩
      conv => whnf
      exact k186 N' (soF_t hf f1) f2 fun q hq => (f3 q hq).trans (ho q hq)
    refine am_run hX 2 _ _ _ _ ?_
    conv => whnf
    by_cases y0 : y = 0
    · exact ⟨fun _ => k172 (Or.inl y0), fun c => absurd (by rw [y0]; rfl) c⟩
    refine ⟨fun c => absurd ((nI_eq (b := 0) (by omega) (by decide)).mp c) y0, fun _ => ?_⟩
    refine am_run hX 3 _ _ _ _ ?_
    conv => whnf
    by_cases yv : y = v + 1
    · exact ⟨fun c => absurd (by rw [yv]) c, fun _ => k172 (Or.inr yv)⟩
    refine ⟨fun _ => ?_, fun c => absurd (fun z => yv ((nI_eq (by omega) (by omega)).mp z)) c⟩
    refine k186 N hf ?_ ho
    have ez : zV y k (!decide ((i ^^^ j) &&& 2 ^ r = 0)) x x' (v + 1) = zV y k (!decide ((i ^^^ j) &&& 2 ^ r = 0)) x x' v := if_neg (by omega)
    rw [ez]
    exact hz
end SPB
