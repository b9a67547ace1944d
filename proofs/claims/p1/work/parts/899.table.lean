/-! the pair table: a TABLE begins -/
theorem nI_max {a b : Nat} (ha : a < 2 ^ 31) (hb : b < 2 ^ 31) : (if nI a < nI b then nI b else nI a) = nI (max a b) := by
  by_cases h : a < b
  · rw [if_pos (nI_lt h hb), Nat.max_eq_right (by omega)]
  · rw [if_neg (nI_nlt (by omega) ha), Nat.max_eq_left (by omega)]
section TBL
variable {d : Nat} {M : mm_M}
def sr (M : mm_M) (r : Nat) (a b n : Int32) : mm_M := mm_i (mm_i (mm_i (mm_i M 26 (upd (M.1 26) r a)) 27 (upd (M.1 27) r b)) 28 (upd (M.1 28) r 0)) 25 (upd (upd (M.1 25) 3 n) 4 0)
set_option maxRecDepth 100000 in
theorem ct_setRow {r n : Nat} (a b : Int32) (hr : r < 20) (hn : M.1 25 3 = nI n) (hn2 : n ≤ 20) : am_M (d + 1) false nm_X8_setRow [aR 25, aI (nI r), aI a, aI b] M (am_q0 (sr M r a b (nI (max n (r + 1))))) := by
  refine ⟨rfl, rfl, rfl, fun X hX => am_run hX 40 _ _ _ _ ?_⟩
  conv => whnf
  refine ⟨vp_in_nI (by show r < 20; omega) (by decide), ?_⟩
  conv => whnf
  refine ⟨vp_in_nI (by show r < 20; omega) (by decide), ?_⟩
  conv => whnf
  refine ⟨vp_in_nI (by show r < 20; omega) (by decide), ?_⟩
  conv => whnf
  refine ⟨⟨rfl, rfl⟩, trivial, rfl, ?_⟩
  simp only [mm_i1, mm_ii, mm_ne _ 26 27 _ (show (27 : Nat) ≠ 26 by decide), mm_ne _ 26 28 _ (show (28 : Nat) ≠ 26 by decide), mm_ne _ 27 28 _ (show (28 : Nat) ≠ 27 by decide), mm_ne _ 26 25 _ (show (25 : Nat) ≠ 26 by decide), mm_ne _ 27 25 _ (show (25 : Nat) ≠ 27 by decide), mm_ne _ 28 25 _ (show (25 : Nat) ≠ 28 by decide)]
  rw [nI_clamp (n := r) (by omega), hn, nI_1, nI_max (by omega) (by omega)]
  rfl
/-- a TABLE's first i ROWS are those of 0 -/
def tz (M : mm_M) (i : Nat) (g : Int32) : mm_M := (fun k => if k = 25 then upd (upd (M.1 25) 3 (nI i)) 4 g else if k = 26 then (fun j => if j < i then 0 else M.1 26 j) else if k = 27 then (fun j => if j < i then nI (2 ^ j) else M.1 27 j) else if k = 28 then (fun j => if j < i then 0 else M.1 28 j) else M.1 k, M.2)
theorem up_s {f : Nat → Int32} {h : Nat → Int32} {i : Nat} {v : Int32} (hv : v = h i) : upd (fun j => if j < i then h j else f j) i v = fun j => if j < i + 1 then h j else f j := by
  funext j
  unfold upd
  by_cases e : j = i
  · rw [if_pos e, if_pos (by omega), hv, e]
  · rw [if_neg e]
    dsimp only
    by_cases e2 : j < i
    · rw [if_pos e2, if_pos (by omega)]
    · rw [if_neg e2, if_neg (by omega)]
theorem tz_s {i : Nat} {g : Int32} : sr (tz M i g) i 0 (nI (2 ^ i)) (nI (i + 1)) = tz M (i + 1) 0 := by
  refine Prod.ext (funext fun k => ?_) rfl
  by_cases k5 : k = 25
  · subst k5
    simp [sr, tz, mm_i]
    funext y
    unfold upd
    by_cases y4 : y = 4
    · simp [y4]
    · by_cases y3 : y = 3 <;> simp [y4, y3]
  · by_cases k6 : k = 26
    · subst k6
      simp only [sr, tz, mm_i]
      exact up_s (h := fun _ => 0) rfl
    · by_cases k7 : k = 27
      · subst k7
        simp only [sr, tz, mm_i]
        exact up_s (h := fun j => nI (2 ^ j)) rfl
      · by_cases k8 : k = 28
        · subst k8
          simp only [sr, tz, mm_i]
          exact up_s (h := fun _ => 0) rfl
        · simp [sr, tz, mm_i, k5, k6, k7, k8]
set_option maxRecDepth 100000 in
theorem tz_l {P : am_Q} {X : am_X} {n : Nat} (hX : am_K (d + 1) false nm_X8_setZero P X) (n1 : 1 ≤ n) (n2 : n ≤ 20) (hP : P (.inl none) (tz M n 0)) : ∀ (m i : Nat) (g : Int32), i + m = n → (i = 0 ∨ g = 0) → X 7 [some (aR 25), some (aI (nI n)), some (aI (nI i))] [] (tz M i g) := by
  intro m
  induction m with
  | zero =>
    intro i g hi hg
    have hi : i = n := by omega
    subst hi
    have hg : g = 0 := hg.resolve_left (by omega)
    subst hg
    refine am_run hX 4 _ _ _ _ ?_
    conv => whnf
    refine ⟨fun _ => ?_, fun c => absurd (nI_le (by omega) (by omega)) c⟩
    conv => whnf
    exact ⟨trivial, hP⟩
  | succ m ih =>
    intro i g hi hg
    refine am_run hX 3 _ _ _ _ ?_
    conv => whnf
    refine ⟨fun c => absurd c (nI_ge (by omega) (by omega)), fun _ => ?_⟩
    refine am_run hX 5 _ _ _ _ ?_
    conv => whnf
    refine ⟨fun c => absurd c (nI_ge (b := 20) (by omega) (by decide)), fun _ => ?_⟩
    refine am_run hX 9 _ _ _ _ ?_
    conv => whnf
    rw [sh2 i (by omega)]
    refine am_c0 (ct_setRow (d := d) (r := i) (n := i) 0 (nI (2 ^ i)) (by omega) rfl (by omega)) ?_
    conv => whnf
    rw [nI_1, Nat.max_eq_right (by omega), tz_s]
    exact ih (i + 1) 0 (by omega) (Or.inr rfl)
set_option maxRecDepth 100000 in
theorem ct_setZero {n : Nat} (n1 : 1 ≤ n) (n2 : n ≤ 20) : am_M (d + 2) false nm_X8_setZero [aR 25, aI (nI n)] M (am_q0 (tz M n 0)) := by
  refine ⟨rfl, rfl, rfl, fun X hX => am_run hX 5 _ _ _ _ ?_⟩
  conv => whnf
  have key := tz_l (M := M) hX n1 n2 ⟨rfl, rfl⟩ n 0 (M.1 25 4) (by omega) (Or.inl rfl)
  have e : tz M 0 (M.1 25 4) = mm_i M 25 (upd (M.1 25) 3 0) := by
    refine Prod.ext (funext fun k => ?_) rfl
    by_cases k5 : k = 25
    · subst k5
      simp only [tz, mm_i]
      funext y
      show upd (upd (M.1 25) 3 (nI 0)) 4 (M.1 25 4) y = upd (M.1 25) 3 0 y
      unfold upd
      by_cases y4 : y = 4
      · rw [if_pos y4, y4, if_neg (by decide)]
      · rw [if_neg y4]
        rfl
    · simp [tz, mm_i, k5]
      by_cases k6 : k = 26
      · subst k6; simp
      · by_cases k7 : k = 27
        · subst k7; simp
        · by_cases k8 : k = 28
          · subst k8; simp
          · simp [k6, k7, k8]
  rw [e] at key
  exact key
/-- the reference's first i ROWS are those of 0 -/
def ty (M : mm_M) (i : Nat) : mm_M := (fun k => if k = 157 then (fun j => if j < i then 0 else M.1 157 j) else if k = 158 then (fun j => if j < i then nI (2 ^ j) else M.1 158 j) else if k = 159 then (fun j => if j < i then 0 else M.1 159 j) else M.1 k, M.2)
theorem ty_0 : ty M 0 = M := by
  refine Prod.ext (funext fun k => ?_) rfl
  simp only [ty, Nat.not_lt_zero, if_false]
  by_cases k6 : k = 157
  · subst k6; simp
  · by_cases k7 : k = 158
    · subst k7; simp
    · by_cases k8 : k = 159
      · subst k8; simp
      · simp [k6, k7, k8]
theorem ty_s {i : Nat} : mm_i (mm_i (mm_i (ty M i) 157 (upd ((ty M i).1 157) i 0)) 158 (upd ((ty M i).1 158) i (nI (2 ^ i)))) 159 (upd ((ty M i).1 159) i 0) = ty M (i + 1) := by
  refine Prod.ext (funext fun k => ?_) rfl
  by_cases k6 : k = 157
  · subst k6
    simp only [ty, mm_i]
    exact up_s (h := fun _ => 0) rfl
  · by_cases k7 : k = 158
    · subst k7
      simp only [ty, mm_i]
      exact up_s (h := fun j => nI (2 ^ j)) rfl
    · by_cases k8 : k = 159
      · subst k8
        simp only [ty, mm_i]
        exact up_s (h := fun _ => 0) rfl
      · simp [ty, mm_i, k6, k7, k8]
set_option maxRecDepth 100000 in
theorem ty_l {P : am_Q} {X : am_X} {n : Nat} (hX : am_K d false nm_X12_newTable P X) (n2 : n ≤ 20) (hP : P (.inl none) (ty M n)) : ∀ (m i : Nat), i + m = n → X 7 [some (aR 108), some (aI (nI n)), some (aI (nI i))] [] (ty M i) := by
  intro m
  induction m with
  | zero =>
    intro i hi
    have hi : i = n := by omega
    subst hi
    refine am_run hX 4 _ _ _ _ ?_
    conv => whnf
    refine ⟨fun _ => ?_, fun c => absurd (nI_le (by omega) (by omega)) c⟩
    conv => whnf
    exact ⟨trivial, hP⟩
  | succ m ih =>
    intro i hi
    refine am_run hX 3 _ _ _ _ ?_
    conv => whnf
    refine ⟨fun c => absurd c (nI_ge (by omega) (by omega)), fun _ => ?_⟩
    refine am_run hX 19 _ _ _ _ ?_
    conv => whnf
    refine ⟨vp_in_nI (by show i < 20; omega) (by decide), ?_⟩
    conv => whnf
    refine ⟨vp_in_nI (by show i < 20; omega) (by decide), ?_⟩
    conv => whnf
    refine ⟨vp_in_nI (by show i < 20; omega) (by decide), ?_⟩
    conv => whnf
    rw [sh2 i (by omega), nI_clamp (n := i) (by omega), nI_1]
    rw [mm_ne _ 158 159 _ (by decide), mm_ne _ 157 159 _ (by decide), mm_ne _ 157 158 _ (by decide), ty_s]
    exact ih (i + 1) (by omega)
set_option maxRecDepth 100000 in
theorem ct_newT {n : Nat} (n2 : n ≤ 20) : am_M (d + 1) false nm_X12_newTable [aR 108, aI (nI n)] M (am_q0 (ty (mm_i M 108 (upd (M.1 108) 81 (nI n))) n)) := by
  refine ⟨rfl, rfl, rfl, fun X hX => am_run hX 5 _ _ _ _ ?_⟩
  conv => whnf
  have key := ty_l (M := mm_i M 108 (upd (M.1 108) 81 (nI n))) hX n2 ⟨rfl, rfl⟩ n 0 (by omega)
  rw [ty_0] at key
  exact key
def tb_2 (M : mm_M) (n : Nat) : mm_M := ty (mm_i M 108 (upd (upd (M.1 108) 0 0) 81 (nI n))) n
set_option maxRecDepth 100000 in
theorem tb_x1 {n : Nat} (n1 : 1 ≤ n) (n2 : n ≤ 20) : am_M (d + 3) false nm_X11_table [aR 0, aI (nI n)] M (am_q1 (aI 1) (tz M n 0)) := by
  refine ⟨rfl, rfl, rfl, fun X hX => am_run hX 40 _ _ _ _ ?_⟩
  conv => whnf
  refine ⟨fun c => absurd c (nI_nlt (b := 1) n1 (by omega)), fun _ => ?_⟩
  conv => whnf
  refine ⟨fun _ => ?_, fun c => absurd (nI_le (b := 20) n2 (by decide)) c⟩
  conv => whnf
  refine am_c0 (ct_setZero (d := d) n1 n2) ?_
  conv => whnf
  exact ⟨rfl, rfl, rfl⟩
set_option maxRecDepth 100000 in
theorem tb_m1 {n : Nat} (n1 : 1 ≤ n) (n2 : n ≤ 20) : am_M (d + 2) false nm_X12_table [aR 108, aI (nI n)] M (am_q1 (aI 1) (tb_2 M n)) := by
  refine ⟨rfl, rfl, rfl, fun X hX => am_run hX 40 _ _ _ _ ?_⟩
  conv => whnf
  refine ⟨fun c => absurd c (nI_nlt (b := 1) n1 (by omega)), fun _ => ?_⟩
  conv => whnf
  refine ⟨fun _ => ?_, fun c => absurd (nI_le (b := 20) n2 (by decide)) c⟩
  conv => whnf
  refine am_c0 (ct_newT (d := d) n2) ?_
  conv => whnf
  refine ⟨rfl, rfl, ?_⟩
  rw [mm_i1, mm_ii]
  rfl
set_option maxRecDepth 100000 in
theorem tb_x0 {p : Int32} (h : p < 1 ∨ ¬ p ≤ 20) : am_M (d + 1) false nm_X11_table [aR 0, aI p] M (am_q1 (aI 0) M) := by
  refine ⟨rfl, rfl, rfl, fun X hX => am_run hX 40 _ _ _ _ ?_⟩
  conv => whnf
  refine ⟨fun c => ?_, fun c => ?_⟩
  · conv => whnf
    exact ⟨rfl, rfl, rfl⟩
  · conv => whnf
    refine ⟨fun c2 => absurd c2 (h.resolve_left c), fun _ => ?_⟩
    conv => whnf
    exact ⟨rfl, rfl, rfl⟩
set_option maxRecDepth 100000 in
theorem tb_m0 {p : Int32} (h : p < 1 ∨ ¬ p ≤ 20) : am_M (d + 1) false nm_X12_table [aR 108, aI p] M (am_q1 (aI 0) (th0 M)) := by
  refine ⟨rfl, rfl, rfl, fun X hX => am_run hX 40 _ _ _ _ ?_⟩
  conv => whnf
  refine ⟨fun c => ?_, fun c => ?_⟩
  · conv => whnf
    exact ⟨rfl, rfl, rfl⟩
  · conv => whnf
    refine ⟨fun c2 => absurd c2 (h.resolve_left c), fun _ => ?_⟩
    conv => whnf
    exact ⟨rfl, rfl, rfl⟩
end TBL
section TBP
variable {ac : Nat → ClassId} {lo : Nat} {ad as : Nat → Nat} {b L : Nat} {xs : Nat → Int32} {hp : mm_M → Nat → xm_H} {I J : mm_M → Prop}
theorem pr_table (H : mm_L ac lo hp) (hJ0 : ∀ M, I M → J (th0 M)) (hJ : ∀ M n, I M → 1 ≤ n → n ≤ 20 → J (tb_2 (tz M n 0) n)) (p : Int32) : la_I ac lo ad as b L xs hp I J nm_X11_table nm_X12_table [.int p] := by
  refine am_la_I (us := [aI p]) H fun M hI => ?_
  by_cases h : p < 1 ∨ ¬ p ≤ 20
  · refine am_wk (tb_x0 (d := 999) h) fun r M1 e => ⟨0, e.1, ?_⟩
    rw [e.2]
    exact am_wk (tb_m0 (d := 999) h) fun r M1 e => ⟨e.1, by rw [e.2]; exact hJ0 M hI⟩
  · have b0 : ¬ p < 0 := fun c => h (Or.inl (Int32.lt_trans c (by decide)))
    obtain ⟨n, hn, rfl⟩ := nI_of b0
    have n1 : 1 ≤ n := by
      apply Decidable.byContradiction
      intro hc
      exact h (Or.inl (nI_lt (b := 1) (by omega) (by decide)))
    have n2 : n ≤ 20 := by
      apply Decidable.byContradiction
      intro hc
      exact h (Or.inr (nI_ge (a := 20) (b := n) (by omega) hn))
    refine am_wk (tb_x1 (d := 997) n1 n2) fun r M1 e => ⟨1, e.1, ?_⟩
    rw [e.2]
    exact am_wk (tb_m1 (d := 998) n1 n2) fun r M1 e => ⟨e.1, by rw [e.2]; exact hJ M n hI n1 n2⟩
end TBP
