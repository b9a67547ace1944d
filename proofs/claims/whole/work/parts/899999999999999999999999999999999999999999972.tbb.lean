/-! TABLES: gates and measurements keep one group -/
section TBB
variable {n k a b w v i : Nat} {A B : Nat → RW} {y z u : RW}
theorem grq_0 : gr k a b (0, 0, 0) = (0, 0, 0) := by
  unfold gr
  split
  · unfold sg
    simp [bt_z0]
  · unfold cpl
    simp [bt_z0]
theorem bt_ze {x : Nat} (h : ∀ t, bt x t = 0) : x = 0 := by
  apply Nat.eq_of_testBit_eq
  intro t
  rw [Nat.zero_testBit]
  have := h t
  rw [bt_t] at this
  cases q : x.testBit t with
  | false => rfl
  | true =>
    rw [q] at this
    exact absurd this (by decide)
theorem gr_z (hk : k < 5 ∨ ((k = 5 ∨ k = 6 ∨ k = 7) ∧ b < n ∧ a ≠ b)) (h1 : (gr k a b y).1 = 0) (h2 : (gr k a b y).2.1 = 0) : y.1 = 0 ∧ y.2.1 = 0 := by
  rcases hk with hk | ⟨hk, _, hab⟩
  · rcases (by omega : k = 0 ∨ k = 1 ∨ k = 2 ∨ k = 3 ∨ k = 4) with rfl | rfl | rfl | rfl | rfl
    · exact ⟨h1, h2⟩
    · exact ⟨h1, h2⟩
    · exact ⟨h1, h2⟩
    · have h1 : ((y.1 ^^^ (y.1 &&& 2 ^ a)) ||| bt y.2.1 a * 2 ^ a) = 0 := h1
      have h2 : ((y.2.1 ^^^ (y.2.1 &&& 2 ^ a)) ||| bt y.1 a * 2 ^ a) = 0 := h2
      have b1 : ∀ t, (if t = a then bt y.2.1 a else bt y.1 t) = 0 := fun t => (bt_h (x := y.1) (m := bt y.2.1 a) (a := a) (t := t) (bt_lt _ _)).symm.trans (by rw [h1]; exact bt_z0 t)
      have b2 : ∀ t, (if t = a then bt y.1 a else bt y.2.1 t) = 0 := fun t => (bt_h (x := y.2.1) (m := bt y.1 a) (a := a) (t := t) (bt_lt _ _)).symm.trans (by rw [h2]; exact bt_z0 t)
      have c1 := b1 a
      have c2 := b2 a
      rw [if_pos rfl] at c1 c2
      refine ⟨bt_ze fun t => ?_, bt_ze fun t => ?_⟩
      · by_cases e : t = a
        · rw [e]
          exact c2
        · have := b1 t
          rw [if_neg e] at this
          exact this
      · by_cases e : t = a
        · rw [e]
          exact c1
        · have := b2 t
          rw [if_neg e] at this
          exact this
    · have h1 : y.1 = 0 := h1
      have h2 : y.2.1 ^^^ bt y.1 a * 2 ^ a = 0 := h2
      rw [h1, bt_z0, Nat.zero_mul, Nat.xor_zero] at h2
      exact ⟨h1, h2⟩
  · rcases hk with rfl | rfl | rfl
    · have h1 : y.1 ^^^ bt y.1 a * 2 ^ b = 0 := h1
      have h2 : y.2.1 ^^^ bt y.2.1 b * 2 ^ a = 0 := h2
      have e1 : bt y.1 a = 0 := by
        have := congrArg (fun x => bt x a) h1
        have : bt (y.1 ^^^ bt y.1 a * 2 ^ b) a = bt 0 a := this
        rw [bt_xor, bt_2 (bt_lt _ _), if_neg hab, Nat.xor_zero, bt_z0] at this
        exact this
      have e2 : bt y.2.1 b = 0 := by
        have := congrArg (fun x => bt x b) h2
        have : bt (y.2.1 ^^^ bt y.2.1 b * 2 ^ a) b = bt 0 b := this
        rw [bt_xor, bt_2 (bt_lt _ _), if_neg (fun e => hab e.symm), Nat.xor_zero, bt_z0] at this
        exact this
      rw [e1, Nat.zero_mul, Nat.xor_zero] at h1
      rw [e2, Nat.zero_mul, Nat.xor_zero] at h2
      exact ⟨h1, h2⟩
    · have h1 : y.1 = 0 := h1
      have h2 : y.2.1 ^^^ (bt y.1 b * 2 ^ a ||| bt y.1 a * 2 ^ b) = 0 := h2
      rw [h1, bt_z0, bt_z0, Nat.zero_mul, Nat.zero_mul, Nat.or_zero, Nat.xor_zero] at h2
      exact ⟨h1, h2⟩
    · have key : ∀ x : Nat, ((x ^^^ (x &&& (2 ^ a ||| 2 ^ b))) ||| bt x b * 2 ^ a ||| bt x a * 2 ^ b) = 0 → x = 0 := fun x hx => by
        have c : ∀ t, (if t = a then bt x b else if t = b then bt x a else bt x t) = 0 := fun t => (bt_w7 (x := x) (t := t) hab).symm.trans (by rw [hx]; exact bt_z0 t)
        refine bt_ze fun t => ?_
        by_cases e1 : t = a
        · have := c b
          rw [if_neg (fun e => hab e.symm), if_pos rfl] at this
          rw [e1]
          exact this
        · by_cases e2 : t = b
          · have := c a
            rw [if_pos rfl] at this
            rw [e2]
            exact this
          · have := c t
            rw [if_neg e1, if_neg e2] at this
            exact this
      exact ⟨key _ h1, key _ h2⟩
theorem grq_ok (h : okY n A) (ha : a < n) (hk : k < 5 ∨ ((k = 5 ∨ k = 6 ∨ k = 7) ∧ b < n ∧ a ≠ b)) : okY n (fun j => gr k a b (A j)) := ⟨h.1, fun j hj => n_gr ha hk (h.2.1 j hj), fun i j hi hj => cmt_gr ha hk (h.2.2 i j hi hj)⟩
theorem gr_G (h : okY n A) (ha : a < n) (hk : k < 5 ∨ ((k = 5 ∨ k = 6 ∨ k = 7) ∧ b < n ∧ a ≠ b)) (hy : gG n A y) : gG n (fun j => gr k a b (A j)) (gr k a b y) := by
  refine gG_ind (P := fun y => gG n (fun j => gr k a b (A j)) (gr k a b y)) ?_ (fun y j hy hj ih => ?_) hy
  · show gG n (fun j => gr k a b (A j)) (gr k a b (0, 0, 0))
    rw [grq_0]
    exact gG_1
  · show gG n (fun j => gr k a b (A j)) (gr k a b (mulA y (A j)))
    have r := gG_n h hy
    have rj := h.2.1 j hj
    rw [grA h.1 ha hk r rj (n_gr ha hk r) (n_gr ha hk rj) (gG_c h hj hy)]
    exact gG_m (Y := fun j => gr k a b (A j)) ih hj
theorem gr_D (h : okY n A) (ha : a < n) (hk : k < 5 ∨ ((k = 5 ∨ k = 6 ∨ k = 7) ∧ b < n ∧ a ≠ b)) (hy : gG n (fun j => gr k a b (A j)) y) : ∃ u, gG n A u ∧ y = gr k a b u := by
  refine gG_ind (P := fun y => ∃ u, gG n A u ∧ y = gr k a b u) ⟨_, gG_1, grq_0.symm⟩ (fun y j _ hj ih => ?_) hy
  obtain ⟨u, hu, rfl⟩ := ih
  have r := gG_n h hu
  have rj := h.2.1 j hj
  exact ⟨_, gG_m hu hj, (grA h.1 ha hk r rj (n_gr ha hk r) (n_gr ha hk rj) (gG_c h hj hu)).symm⟩
theorem gr_E (hA : okY n A) (hB : okY n B) (ha : a < n) (hk : k < 5 ∨ ((k = 5 ∨ k = 6 ∨ k = 7) ∧ b < n ∧ a ≠ b)) (h : gEq n A B) : gEq n (fun j => gr k a b (A j)) (fun j => gr k a b (B j)) := ⟨fun j hj => gr_G hB ha hk (h.1 j hj), fun j hj => gr_G hA ha hk (h.2 j hj)⟩
theorem gr_N (hA : okY n A) (ha : a < n) (hk : k < 5 ∨ ((k = 5 ∨ k = 6 ∨ k = 7) ∧ b < n ∧ a ≠ b)) (h : nmG n A) : nmG n (fun j => gr k a b (A j)) := fun y hy h1 h2 => by
  obtain ⟨u, hu, rfl⟩ := gr_D hA ha hk hy
  obtain ⟨e1, e2⟩ := gr_z hk h1 h2
  have e3 := h u hu e1 e2
  have e : u = (0, 0, 0) := Prod.ext e1 (Prod.ext e2 e3)
  rw [e, grq_0]
theorem be_w {c : Nat} (hw : w < n) : be n (2 ^ w) c = bt c w := by
  unfold be
  rw [sm_e (g := fun t => if t = w then bt c w else 0) n (fun t _ => ?_), sm_at, if_pos hw]
  have e := bt_2 (m := 1) (a := w) (t := t) (by decide)
  rw [Nat.one_mul] at e
  rw [e]
  by_cases c1 : t = w
  · rw [if_pos c1, if_pos c1, Nat.one_mul, c1]
  · rw [if_neg c1, if_neg c1, Nat.zero_mul]
theorem cmt_w (hw : w < n) (hu : u.1.testBit w = false) : cmt n u (0, 2 ^ w, v) := by
  refine be_cm ?_
  show (be n u.1 (2 ^ w) + be n u.2.1 0) % 2 = 0
  rw [be_c, be_w hw, be_c u.2.1, be_0, bt_t, hu]
  rfl
theorem n_w (hw : w < n) (hv : v < 2) : rw_n n (0, 2 ^ w, v) := ⟨Nat.two_pow_pos n, Nat.pow_lt_pow_right (by decide) hw, hv⟩
theorem mul_x {c d : RW} : (mulA c d).1.testBit w = (c.1.testBit w ^^ d.1.testBit w) := Nat.testBit_xor _ _ _
theorem mz_i : mzR n w v i mulA A i = (0, 2 ^ w, v) := if_pos rfl
theorem mz_f {j : Nat} (hj : j ≠ i) (h : (A j).1.testBit w = false) : mzR n w v i mulA A j = A j := by
  unfold mzR
  rw [if_neg hj, if_neg (by rw [h]; decide)]
theorem mz_t {j : Nat} (hj : j ≠ i) (h : (A j).1.testBit w = true) : mzR n w v i mulA A j = mulA (A j) (A i) := by
  unfold mzR
  rw [if_neg hj, if_pos h]
theorem mz_in {j : Nat} (hA : okY n A) (hi : i < n) (hb : (A i).1.testBit w = true) (hj : j < n) (hji : j ≠ i) : gG n A (mzR n w v i mulA A j) ∧ (mzR n w v i mulA A j).1.testBit w = false := by
  cases q : (A j).1.testBit w with
  | false =>
    rw [mz_f hji q]
    exact ⟨gG_j hA hj, q⟩
  | true =>
    rw [mz_t hji q]
    refine ⟨gG_x hA (gG_j hA hj) (gG_j hA hi), ?_⟩
    rw [mul_x, q, hb]
    rfl
theorem mz_ok (hA : okY n A) (hw : w < n) (hv : v < 2) (hi : i < n) (hb : (A i).1.testBit w = true) : okY n (mzR n w v i mulA A) := by
  refine ⟨hA.1, fun j hj => ?_, fun j l hj hl => ?_⟩
  · by_cases e : j = i
    · rw [e, mz_i]
      exact n_w hw hv
    · exact gG_n hA (mz_in hA hi hb hj e).1
  · by_cases e : j = i
    · by_cases e2 : l = i
      · rw [e, e2]
        exact cmt_s _ _
      · rw [e, mz_i]
        exact cmt_c (cmt_w hw (mz_in hA hi hb hl e2).2)
    · by_cases e2 : l = i
      · rw [e2, mz_i]
        exact cmt_w hw (mz_in hA hi hb hj e).2
      · exact gG_cc hA (mz_in hA hi hb hj e).1 (mz_in hA hi hb hl e2).1
/-- what of the group is left -/
theorem mz_C (hA : okY n A) (hw : w < n) (hv : v < 2) (hi : i < n) (hb : (A i).1.testBit w = true) (hy : gG n A y) : (y.1.testBit w = false → gG n (mzR n w v i mulA A) y) ∧ (y.1.testBit w = true → gG n (mzR n w v i mulA A) (mulA y (A i))) := by
  have ok := mz_ok hA hw hv hi hb
  have ri := hA.2.1 i hi
  refine gG_ind (P := fun y => (y.1.testBit w = false → gG n (mzR n w v i mulA A) y) ∧ (y.1.testBit w = true → gG n (mzR n w v i mulA A) (mulA y (A i)))) ⟨fun _ => gG_1, fun h => ?_⟩ (fun y j hy hj ih => ?_) hy
  · have h : Nat.testBit 0 w = true := h
    rw [Nat.zero_testBit] at h
    exact absurd h (by decide)
  · have r := gG_n hA hy
    have rj := hA.2.1 j hj
    have cj := gG_c hA hj hy
    have ci := gG_c hA hi hy
    have cji := hA.2.2 j i hj hi
    obtain ⟨ih0, ih1⟩ := ih
    show ((mulA y (A j)).1.testBit w = false → gG n (mzR n w v i mulA A) (mulA y (A j))) ∧ ((mulA y (A j)).1.testBit w = true → gG n (mzR n w v i mulA A) (mulA (mulA y (A j)) (A i)))
    rw [mul_x]
    by_cases e : j = i
    · subst e
      rw [hb]
      refine ⟨fun h => ?_, fun h => ?_⟩
      · cases q : y.1.testBit w with
        | false =>
          rw [q] at h
          exact absurd h (by decide)
        | true => exact ih1 q
      · cases q : y.1.testBit w with
        | true =>
          rw [q] at h
          exact absurd h (by decide)
        | false =>
          rw [mul_k hA.1 r rj cj]
          exact ih0 q
    · cases qj : (A j).1.testBit w with
      | false =>
        have ej := mz_f (n := n) (v := v) e qj
        refine ⟨fun h => ?_, fun h => ?_⟩
        · cases q : y.1.testBit w with
          | true =>
            rw [q] at h
            exact absurd h (by decide)
          | false =>
            have := gG_m (ih0 q) hj
            rw [ej] at this
            exact this
        · cases q : y.1.testBit w with
          | false =>
            rw [q] at h
            exact absurd h (by decide)
          | true =>
            have := gG_m (ih1 q) hj
            rw [ej, mul_a hA.1 r ri rj ci cj (cmt_c cji), mul_c hA.1 ri rj (cmt_c cji), ← mul_a hA.1 r rj ri cj ci cji] at this
            exact this
      | true =>
        have ej := mz_t (n := n) (v := v) e qj
        refine ⟨fun h => ?_, fun h => ?_⟩
        · cases q : y.1.testBit w with
          | false =>
            rw [q] at h
            exact absurd h (by decide)
          | true =>
            have := gG_m (ih1 q) hj
            rw [ej, mul_c hA.1 rj ri cji, ← mul_a hA.1 (n_mul r ri) ri rj (cmt_m ci (cmt_s n _)) (cmt_m cj (cmt_c cji)) (cmt_c cji), mul_k hA.1 r ri ci] at this
            exact this
        · cases q : y.1.testBit w with
          | true =>
            rw [q] at h
            exact absurd h (by decide)
          | false =>
            have := gG_m (ih0 q) hj
            rw [ej, ← mul_a hA.1 r rj ri cj ci cji] at this
            exact this
/-- and no more -/
theorem mz_D (hA : okY n A) (hw : w < n) (hv : v < 2) (hi : i < n) (hb : (A i).1.testBit w = true) (hy : gG n (mzR n w v i mulA A) y) : ∃ u, gG n A u ∧ u.1.testBit w = false ∧ (y = u ∨ y = mulA u (0, 2 ^ w, v)) := by
  have rw' := n_w hw hv
  refine gG_ind (P := fun y => ∃ u, gG n A u ∧ u.1.testBit w = false ∧ (y = u ∨ y = mulA u (0, 2 ^ w, v))) ⟨_, gG_1, Nat.zero_testBit w, Or.inl rfl⟩ (fun y j _ hj ih => ?_) hy
  obtain ⟨u, hu, ub, h⟩ := ih
  have ru := gG_n hA hu
  have cu := cmt_w (v := v) hw ub
  by_cases e : j = i
  · rw [e, mz_i]
    rcases h with rfl | rfl
    · exact ⟨_, hu, ub, Or.inr rfl⟩
    · exact ⟨u, hu, ub, Or.inl (mul_k hA.1 ru rw' cu)⟩
  · obtain ⟨g, gb⟩ := mz_in (v := v) hA hi hb hj e
    generalize mzR n w v i mulA A j = r at g gb ⊢
    have rr := gG_n hA g
    have cr := cmt_w (v := v) hw gb
    have cur := gG_cc hA hu g
    have ub' : (mulA u r).1.testBit w = false := by rw [mul_x, ub, gb]; rfl
    rcases h with rfl | rfl
    · exact ⟨_, gG_x hA hu g, ub', Or.inl rfl⟩
    · refine ⟨_, gG_x hA hu g, ub', Or.inr ?_⟩
      rw [mul_a hA.1 ru rw' rr cu cur (cmt_c cr), mul_c hA.1 rw' rr (cmt_c cr), ← mul_a hA.1 ru rr rw' cur cu cr]
theorem mz_E {i' : Nat} (hA : okY n A) (hB : okY n B) (hw : w < n) (hv : v < 2) (hi : i < n) (hb : (A i).1.testBit w = true) (hi' : i' < n) (hb' : (B i').1.testBit w = true) (h : gEq n A B) : ∀ j, j < n → gG n (mzR n w v i' mulA B) (mzR n w v i mulA A j) := fun j hj => by
  by_cases e : j = i
  · have := gG_j (mz_ok hB hw hv hi' hb') hi'
    rw [mz_i] at this
    rw [e, mz_i]
    exact this
  · obtain ⟨g, gb⟩ := mz_in (v := v) hA hi hb hj e
    exact (mz_C hB hw hv hi' hb' (gEq_y hB h g)).1 gb
theorem mz_N (hA : okY n A) (hw : w < n) (hv : v < 2) (hi : i < n) (hb : (A i).1.testBit w = true) (h : nmG n A) : nmG n (mzR n w v i mulA A) := fun y hy h1 h2 => by
  obtain ⟨u, hu, ub, e⟩ := mz_D hA hw hv hi hb hy
  rcases e with rfl | rfl
  · exact h y hu h1 h2
  · exfalso
    have h1 : u.1 ^^^ 0 = 0 := h1
    have h2 : u.2.1 ^^^ 2 ^ w = 0 := h2
    rw [Nat.xor_zero] at h1
    have h2 : u.2.1 = 2 ^ w := by
      have := congrArg (fun x => x ^^^ 2 ^ w) h2
      have : u.2.1 ^^^ 2 ^ w ^^^ 2 ^ w = 0 ^^^ 2 ^ w := this
      rw [Nat.xor_assoc, Nat.xor_self, Nat.xor_zero, Nat.zero_xor] at this
      exact this
    have c := cmt_be (gG_c hA hi hu)
    rw [h1, h2, be_0, be_w hw, bt_t, hb] at c
    exact absurd c (by decide)
theorem pr_cg {l : List Nat} (h : ∀ j, j < n → A j = B j) (hl : ∀ j, j ∈ l → j < n) : prL A l = prL B l := by
  induction l with
  | nil => rfl
  | cons j l ih =>
    show mulA (prL A l) (A j) = mulA (prL B l) (B j)
    rw [h j (hl j (List.mem_cons.mpr (Or.inl rfl))), ih fun i hi => hl i (List.mem_cons_of_mem _ hi)]
theorem gG_cg (h : ∀ j, j < n → A j = B j) (hy : gG n A y) : gG n B y := by
  obtain ⟨l, hl, rfl⟩ := hy
  exact ⟨l, hl, pr_cg h hl⟩
/-- rows beyond n are nothing -/
def trR (n : Nat) (A : Nat → RW) : Nat → RW := fun j => if j < n then A j else (0, 0, 0)
theorem tr_j {j : Nat} (hj : j < n) : trR n A j = A j := if_pos hj
theorem tr_ok (h : okY n A) : okY n (trR n A) := ⟨h.1, fun j hj => by rw [tr_j hj]; exact h.2.1 j hj, fun i j hi hj => by rw [tr_j hi, tr_j hj]; exact h.2.2 i j hi hj⟩
theorem tr_G (hy : gG n A y) : gG n (trR n A) y := gG_cg (fun _ hj => (tr_j hj).symm) hy
theorem tr_N (h : nmG n A) : nmG n (trR n A) := fun y hy => h y (gG_cg (fun _ hj => tr_j hj) hy)
theorem tr_E (h1 : ∀ j, j < n → gG n B (A j)) (h2 : ∀ j, j < n → gG n A (B j)) : gEq n (trR n A) (trR n B) := ⟨fun j hj => by rw [tr_j hj]; exact tr_G (h1 j hj), fun j hj => by rw [tr_j hj]; exact tr_G (h2 j hj)⟩
/-- measured rows are straight alike -/
theorem mz_red {i' : Nat} (hA : okY n A) (hB : okY n B) (hw : w < n) (hv : v < 2) (hi : fiR n w A i) (hi' : fiR n w B i') (h : gEq n A B) (hn : nmG n A) : redR n (trR n (mzR n w v i mulA A)) = redR n (trR n (mzR n w v i' mulA B)) := by
  have a := mz_ok (v := v) hA hw hv hi.1 hi.2.1
  have b := mz_ok (v := v) hB hw hv hi'.1 hi'.2.1
  refine red_un (tr_ok a) (tr_ok b) (tr_E (mz_E hA hB hw hv hi.1 hi.2.1 hi'.1 hi'.2.1 h) (mz_E hB hA hw hv hi'.1 hi'.2.1 hi.1 hi.2.1 (gEq_s h))) (tr_N (mz_N hA hw hv hi.1 hi.2.1 hn)) (fun j hj => ?_)
  unfold trR
  rw [if_neg (by omega), if_neg (by omega)]
/-- what one straight form tells -/
theorem red_eq (hA : okY n A) (hB : okY n B) (h : redR n A = redR n B) : gEq n A B := by
  obtain ⟨oA, gA⟩ := red_G hA
  obtain ⟨oB, gB⟩ := red_G hB
  rw [← h] at gB
  exact gEq_t hA hB (gEq_s gA) gB
theorem red_oe {j : Nat} (h : redR n A = redR n B) (hj : n ≤ j) : A j = B j := by
  have := congrFun h j
  rw [red_o hj, red_o hj] at this
  exact this
end TBB
