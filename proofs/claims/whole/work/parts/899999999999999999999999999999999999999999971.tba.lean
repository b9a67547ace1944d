/-! TABLES: rows that commute, as a group -/
/-- products of rows -/
def prL (Y : Nat → RW) : List Nat → RW
  | [] => (0, 0, 0)
  | j :: l => mulA (prL Y l) (Y j)
/-- the group of rows -/
def gG (n : Nat) (Y : Nat → RW) (y : RW) : Prop := ∃ l : List Nat, (∀ j, j ∈ l → j < n) ∧ y = prL Y l
/-- there is no minus one -/
def nmG (n : Nat) (Y : Nat → RW) : Prop := ∀ y, gG n Y y → y.1 = 0 → y.2.1 = 0 → y.2.2 = 0
section TBA
variable {n : Nat} {Y Z : Nat → RW} {y z w : RW}
theorem gG_ind {P : RW → Prop} (h0 : P (0, 0, 0)) (hs : ∀ y j, gG n Y y → j < n → P y → P (mulA y (Y j))) (h : gG n Y y) : P y := by
  obtain ⟨l, hl, rfl⟩ := h
  induction l with
  | nil => exact h0
  | cons j l ih =>
    have h1 : ∀ i, i ∈ l → i < n := fun i hi => hl i (List.mem_cons_of_mem _ hi)
    exact hs _ j ⟨l, h1, rfl⟩ (hl j (List.mem_cons.mpr (Or.inl rfl))) (ih h1)
theorem gG_1 : gG n Y (0, 0, 0) := ⟨[], fun _ h => (nomatch h), rfl⟩
theorem gG_m {j : Nat} (h : gG n Y y) (hj : j < n) : gG n Y (mulA y (Y j)) := by
  obtain ⟨l, hl, rfl⟩ := h
  refine ⟨j :: l, fun i hi => ?_, rfl⟩
  rcases List.mem_cons.mp hi with e | e
  · rw [e]
    exact hj
  · exact hl i e
/-- bits that both have -/
def be (n a b : Nat) : Nat := sm (fun t => bt a t * bt b t) n
theorem be_c (a b : Nat) : be n a b = be n b a := sm_e n fun t _ => Nat.mul_comm _ _
theorem bt_z0 (t : Nat) : bt 0 t = 0 := by
  unfold bt
  rw [Nat.zero_div]
theorem be_0 (b : Nat) : be n 0 b = 0 := sm_z0 n fun t _ => by
  show bt 0 t * bt b t = 0
  rw [bt_z0, Nat.zero_mul]
theorem be_x (a b c : Nat) : be n (a ^^^ b) c % 2 = (be n a c + be n b c) % 2 := by
  unfold be
  rw [← sm_pl]
  refine sm_m2 (fun t => ?_) n
  rw [bt_xor]
  exact xm_b _ (bt_lt _ _) _ (bt_lt _ _) _ (bt_lt _ _)
theorem be_y (a b c : Nat) : be n c (a ^^^ b) % 2 = (be n c a + be n c b) % 2 := by
  rw [be_c, be_x, be_c a, be_c b]
theorem cmt_be (h : cmt n y z) : (be n y.1 z.2.1 + be n y.2.1 z.1) % 2 = 0 := by
  unfold cmt at h
  rw [sm_pl] at h
  exact h
theorem be_cm (h : (be n y.1 z.2.1 + be n y.2.1 z.1) % 2 = 0) : cmt n y z := by
  unfold cmt
  rw [sm_pl]
  exact h
theorem cmt_0 : cmt n (0, 0, 0) y := be_cm (by show (be n 0 y.2.1 + be n 0 y.1) % 2 = 0; rw [be_0, be_0])
/-- the quarter of a row -/
def phq (n : Nat) (y : RW) : Nat := 2 * y.2.2 + be n y.1 y.2.1
theorem anm_2 : ∀ p, p < 2 → ∀ q, q < 2 → p &&& q = p * q := by decide
theorem sm_gq : sm (fun t => gq (bt y.1 t) (bt y.2.1 t) (bt z.1 t) (bt z.2.1 t)) n = be n y.1 y.2.1 + be n z.1 z.2.1 + 2 * be n y.2.1 z.1 + 3 * be n (y.1 ^^^ z.1) (y.2.1 ^^^ z.2.1) := by
  unfold be
  rw [sm_4]
  refine sm_e n fun t _ => ?_
  unfold gq
  rw [bt_xor, bt_xor, anm_2 _ (bt_lt _ _) _ (bt_lt _ _), anm_2 _ (bt_lt _ _) _ (bt_lt _ _), anm_2 _ (bt_lt _ _) _ (bt_lt _ _), anm_2 _ (Nat.xor_lt_two_pow (n := 1) (bt_lt _ _) (bt_lt _ _)) _ (Nat.xor_lt_two_pow (n := 1) (bt_lt _ _) (bt_lt _ _))]
theorem xs_4 : ∀ s, s < 2 → ∀ r, r < 2 → ∀ g, g < 2 → 2 * (s ^^^ (r ^^^ g)) % 4 = (2 * s + 2 * r + 2 * g) % 4 := by decide
theorem phq_m (n20 : n ≤ 20) (hy : rw_n n y) (hz : rw_n n z) (h : cmt n y z) : phq n (mulA y z) % 4 = (phq n y + phq n z + 2 * be n y.2.1 z.1) % 4 := by
  obtain ⟨g1, g2⟩ := sm_z y z n
  unfold cmt at h
  rw [h] at g2
  have q := qp_sm (n := n) (by omega) hy.1 hy.2.1 hz.1
  rw [sm_gq] at q g1
  show (2 * (y.2.2 ^^^ (z.2.2 ^^^ qp y z / 2)) + be n (y.1 ^^^ z.1) (y.2.1 ^^^ z.2.1)) % 4 = (2 * y.2.2 + be n y.1 y.2.1 + (2 * z.2.2 + be n z.1 z.2.1) + 2 * be n y.2.1 z.1) % 4
  have q4 : qp y z < 4 := Nat.mod_lt _ (by decide)
  have x := xs_4 y.2.2 hy.2.2 z.2.2 hz.2.2 (qp y z / 2) (by omega)
  generalize y.2.2 ^^^ (z.2.2 ^^^ qp y z / 2) = s at *
  generalize sm (fun t => phN (bt z.1 t) (bt z.2.1 t) (bt y.1 t) (bt y.2.1 t)) n = Q at *
  generalize be n (y.1 ^^^ z.1) (y.2.1 ^^^ z.2.1) = b1 at *
  generalize be n y.1 y.2.1 = b2 at *
  generalize be n z.1 z.2.1 = b3 at *
  generalize be n y.2.1 z.1 = b4 at *
  omega
theorem phq_i (hy : rw_n n y) (hz : rw_n n z) (h1 : y.1 = z.1) (h2 : y.2.1 = z.2.1) (h : phq n y % 4 = phq n z % 4) : y = z := by
  unfold phq at h
  rw [h1, h2] at h
  have a := hy.2.2
  have b := hz.2.2
  exact Prod.ext h1 (Prod.ext h2 (by omega))
theorem n_1 : rw_n n (0, 0, 0) := ⟨Nat.two_pow_pos n, Nat.two_pow_pos n, by show 0 < 2; decide⟩
theorem mul_c (n20 : n ≤ 20) (hy : rw_n n y) (hz : rw_n n z) (h : cmt n y z) : mulA y z = mulA z y := by
  refine phq_i (n_mul hy hz) (n_mul hz hy) (Nat.xor_comm _ _) (Nat.xor_comm _ _) ?_
  rw [phq_m n20 hy hz h, phq_m n20 hz hy (cmt_c h), be_c z.2.1 y.1]
  have := cmt_be h
  omega
theorem mul_a (n20 : n ≤ 20) (hy : rw_n n y) (hz : rw_n n z) (hw : rw_n n w) (h1 : cmt n y z) (h2 : cmt n y w) (h3 : cmt n z w) : mulA (mulA y z) w = mulA y (mulA z w) := by
  refine phq_i (n_mul (n_mul hy hz) hw) (n_mul hy (n_mul hz hw)) (Nat.xor_assoc _ _ _) (Nat.xor_assoc _ _ _) ?_
  rw [phq_m n20 (n_mul hy hz) hw (cmt_m h2 h3), phq_m n20 hy (n_mul hz hw) (cmt_c (cmt_m (cmt_c h1) (cmt_c h2)))]
  have a := phq_m n20 hy hz h1
  have b := phq_m n20 hz hw h3
  have c := be_x (n := n) y.2.1 z.2.1 w.1
  have e := be_y (n := n) z.1 w.1 y.2.1
  have c : be n (mulA y z).2.1 w.1 % 2 = (be n y.2.1 w.1 + be n z.2.1 w.1) % 2 := c
  have e : be n y.2.1 (mulA z w).1 % 2 = (be n y.2.1 z.1 + be n y.2.1 w.1) % 2 := e
  omega
theorem mul_s (n20 : n ≤ 20) (hy : rw_n n y) : mulA y y = (0, 0, 0) := by
  refine phq_i (n_mul hy hy) n_1 (Nat.xor_self _) (Nat.xor_self _) ?_
  rw [phq_m n20 hy hy (cmt_s n y), be_c y.2.1 y.1]
  have e : phq n (0, 0, 0) = 0 := by
    show 2 * 0 + be n 0 0 = 0
    rw [be_0]
  rw [e]
  unfold phq
  omega
theorem mul_1 (n20 : n ≤ 20) (hy : rw_n n y) : mulA (0, 0, 0) y = y := by
  refine phq_i (n_mul n_1 hy) hy (Nat.zero_xor _) (Nat.zero_xor _) ?_
  rw [phq_m n20 n_1 hy cmt_0]
  have e : phq n (0, 0, 0) = 0 := by
    show 2 * 0 + be n 0 0 = 0
    rw [be_0]
  have f : be n ((0, 0, 0) : RW).2.1 y.1 = 0 := be_0 _
  rw [e, f]
  omega
theorem mul_1r (n20 : n ≤ 20) (hy : rw_n n y) : mulA y (0, 0, 0) = y := by rw [mul_c n20 hy n_1 (cmt_c cmt_0), mul_1 n20 hy]
theorem mul_k (n20 : n ≤ 20) (hy : rw_n n y) (hz : rw_n n z) (h : cmt n y z) : mulA (mulA y z) z = y := by
  rw [mul_a n20 hy hz hz h h (cmt_s n z), mul_s n20 hz, mul_1r n20 hy]
/-- rows below 2^n that commute -/
def okY (n : Nat) (Y : Nat → RW) : Prop := n ≤ 20 ∧ (∀ j, j < n → rw_n n (Y j)) ∧ allc n Y
theorem gG_n (h : okY n Y) (hy : gG n Y y) : rw_n n y := gG_ind (P := fun y => rw_n n y) n_1 (fun y j _ hj ih => n_mul ih (h.2.1 j hj)) hy
theorem gG_c {j : Nat} (h : okY n Y) (hj : j < n) (hy : gG n Y y) : cmt n y (Y j) := gG_ind (P := fun y => cmt n y (Y j)) cmt_0 (fun y i _ hi ih => cmt_m ih (h.2.2 i j hi hj)) hy
theorem gG_cc (h : okY n Y) (hy : gG n Y y) (hz : gG n Y z) : cmt n y z := gG_ind (P := fun z => cmt n y z) (cmt_c cmt_0) (fun z i _ hi ih => cmt_c (cmt_m (cmt_c ih) (cmt_c (gG_c h hi hy)))) hz
theorem gG_j {j : Nat} (h : okY n Y) (hj : j < n) : gG n Y (Y j) := by
  have := gG_m (gG_1 (n := n) (Y := Y)) hj
  rw [mul_1 h.1 (h.2.1 j hj)] at this
  exact this
theorem gG_x (h : okY n Y) (hy : gG n Y y) (hz : gG n Y z) : gG n Y (mulA y z) := by
  refine gG_ind (P := fun z => gG n Y (mulA y z)) ?_ (fun z j hz hj ih => ?_) hz
  · show gG n Y (mulA y (0, 0, 0))
    rw [mul_1r h.1 (gG_n h hy)]
    exact hy
  · show gG n Y (mulA y (mulA z (Y j)))
    rw [← mul_a h.1 (gG_n h hy) (gG_n h hz) (h.2.1 j hj) (gG_cc h hy hz) (gG_c h hj hy) (gG_c h hj hz)]
    exact gG_m ih hj
/-- rows of the group make no more -/
theorem gG_sub (h : okY n Z) (hs : ∀ j, j < n → gG n Z (Y j)) (hy : gG n Y y) : gG n Z y := gG_ind (P := fun y => gG n Z y) gG_1 (fun y j _ hj ih => gG_x h ih (hs j hj)) hy
/-- one group -/
def gEq (n : Nat) (Y Z : Nat → RW) : Prop := (∀ j, j < n → gG n Z (Y j)) ∧ ∀ j, j < n → gG n Y (Z j)
theorem gEq_y (hZ : okY n Z) (h : gEq n Y Z) (hy : gG n Y y) : gG n Z y := gG_sub hZ h.1 hy
theorem gEq_s (h : gEq n Y Z) : gEq n Z Y := ⟨h.2, h.1⟩
theorem gEq_r (h : okY n Y) : gEq n Y Y := ⟨fun _ hj => gG_j h hj, fun _ hj => gG_j h hj⟩
theorem gEq_t {X : Nat → RW} (hX : okY n X) (hZ : okY n Z) (h : gEq n X Y) (g : gEq n Y Z) : gEq n X Z := ⟨fun j hj => gG_sub hZ g.1 (h.1 j hj), fun j hj => gG_sub hX h.2 (g.2 j hj)⟩
theorem nmG_e (hY : okY n Y) (h : gEq n Y Z) (hn : nmG n Y) : nmG n Z := fun y hy => hn y (gG_sub hY h.2 hy)
theorem sw_G {k d : Nat} (h : okY n Y) (hk : k < n) (hd : d < n) : gEq n (swR Y k d) Y := by
  have ok : okY n (swR Y k d) := ⟨h.1, sw_n hk hd h.2.1, sw_c hk hd h.2.2⟩
  have e : ∀ j, j < n → ∃ i, i < n ∧ Y j = swR Y k d i := fun j hj => by
    unfold swR
    by_cases e1 : j = d
    · exact ⟨k, hk, by rw [if_pos rfl, e1]⟩
    · by_cases e2 : j = k
      · refine ⟨d, hd, ?_⟩
        by_cases e3 : d = k
        · rw [if_pos e3, e2, e3]
        · rw [if_neg e3, if_pos rfl, e2]
      · exact ⟨j, hj, by rw [if_neg e2, if_neg e1]⟩
  refine ⟨fun j hj => ?_, fun j hj => ?_⟩
  · unfold swR
    split
    · exact gG_j h hd
    · split
      · exact gG_j h hk
      · exact gG_j h hj
  · obtain ⟨i, hi, e⟩ := e j hj
    rw [e]
    exact gG_j ok hi
theorem ml_G {c d : Nat} (h : okY n Y) (hd : d < n) : gEq n (mlR n c d Y n) Y := by
  have ok : okY n (mlR n c d Y n) := ⟨h.1, ml_n hd h.2.1 n, ml_c hd h.2.2 n⟩
  refine ⟨fun j hj => ?_, fun j hj => ?_⟩
  · rw [ml_p]
    split
    · exact gG_x h (gG_j h hj) (gG_j h hd)
    · exact gG_j h hj
  · have ed : mlR n c d Y n d = Y d := by rw [ml_p, if_neg (by omega)]
    by_cases q : j < n ∧ j ≠ d ∧ hb n (Y j) c = 1
    · have ej : mlR n c d Y n j = mulA (Y j) (Y d) := by rw [ml_p, if_pos q]
      have := gG_x ok (gG_j ok hj) (gG_j ok hd)
      rw [ej, ed, mul_k h.1 (h.2.1 j hj) (h.2.1 d hd) (h.2.2 j d hj hd)] at this
      exact this
    · have ej : mlR n c d Y n j = Y j := by rw [ml_p, if_neg q]
      have := gG_j ok hj
      rw [ej] at this
      exact this
theorem rd_G (h : okY n Y) : ∀ c, okY n (rdR n Y c).1 ∧ gEq n (rdR n Y c).1 Y
  | 0 => ⟨h, gEq_r h⟩
  | c + 1 => by
    obtain ⟨ok, ih⟩ := rd_G h c
    refine ⟨⟨h.1, rd_n h.2.1 (c + 1), rd_c h.2.2 (c + 1)⟩, ?_⟩
    have ok1 : okY n (rdR n Y (c + 1)).1 := ⟨h.1, rd_n h.2.1 (c + 1), rd_c h.2.2 (c + 1)⟩
    have f := fd_p n (rdR n Y c).1 c (n - (rdR n Y c).2) (rdR n Y c).2
    have ⟨p, q⟩ := pv_all n Y c
    have q1 := q.1
    have e1 : (rdR n Y (c + 1)).1 = (stR n c (rdR n Y c)).1 := rfl
    rw [e1] at ok1 ⊢
    unfold stR at ok1 ⊢
    by_cases e : fdR n (rdR n Y c).1 c (n - (rdR n Y c).2) (rdR n Y c).2 = n
    · rw [if_pos e]
      exact ih
    · rw [if_neg e] at ok1 ⊢
      have hk : fdR n (rdR n Y c).1 c (n - (rdR n Y c).2) (rdR n Y c).2 < n := by omega
      have hd : (rdR n Y c).2 < n := by omega
      have ok2 : okY n (swR (rdR n Y c).1 (fdR n (rdR n Y c).1 c (n - (rdR n Y c).2) (rdR n Y c).2) (rdR n Y c).2) := ⟨h.1, sw_n hk hd ok.2.1, sw_c hk hd ok.2.2⟩
      exact gEq_t ok1 h (gEq_t ok1 ok (ml_G ok2 hd) (sw_G ok hk hd)) ih
theorem red_G (h : okY n Y) : okY n (redR n Y) ∧ gEq n (redR n Y) Y := rd_G h (2 * n)
theorem rd_o {j : Nat} (hj : n ≤ j) : ∀ c, (rdR n Y c).1 j = Y j
  | 0 => rfl
  | c + 1 => by
    have ih := rd_o hj c
    have f := fd_p n (rdR n Y c).1 c (n - (rdR n Y c).2) (rdR n Y c).2
    have ⟨p, q⟩ := pv_all n Y c
    have q1 := q.1
    show (stR n c (rdR n Y c)).1 j = _
    unfold stR
    by_cases e : fdR n (rdR n Y c).1 c (n - (rdR n Y c).2) (rdR n Y c).2 = n
    · rw [if_pos e]
      exact ih
    · rw [if_neg e]
      show mlR n c _ (swR (rdR n Y c).1 _ _) n j = _
      rw [ml_p, if_neg (by omega)]
      unfold swR
      rw [if_neg (by omega), if_neg (by omega)]
      exact ih
theorem red_o {j : Nat} (hj : n ≤ j) : redR n Y j = Y j := rd_o hj (2 * n)
/-- bits, as the pivots tell them -/
theorem pv_b {d : Nat} {p : Nat → Nat} (h : pvR n (2 * n) d p Y) (hy : gG n Y y) : ∀ t, t < 2 * n → hb n y t = sm (fun i => hb n y (p i) * hb n (Y i) t) d % 2 := by
  obtain ⟨h1, h2, h3, h4, h5, h6, h7⟩ := h
  refine gG_ind (P := fun y => ∀ t, t < 2 * n → hb n y t = sm (fun i => hb n y (p i) * hb n (Y i) t) d % 2) (fun t _ => ?_) (fun y j _ hj ih t ht => ?_) hy
  · have z : ∀ t, hb n (0, 0, 0) t = 0 := fun t => by
      unfold hb
      split <;> exact bt_z0 _
    rw [z, sm_z0 d (fun i _ => by rw [z, Nat.zero_mul])]
  · rw [hb_m, ih t ht]
    have e : sm (fun i => hb n (mulA y (Y j)) (p i) * hb n (Y i) t) d % 2 = sm (fun i => hb n y (p i) * hb n (Y i) t + hb n (Y j) (p i) * hb n (Y i) t) d % 2 := by
      refine sm_m2 (fun i => ?_) d
      rw [hb_m]
      have a := hb_2 n (Y i) t
      rcases (by omega : hb n (Y i) t = 0 ∨ hb n (Y i) t = 1) with q | q
      · rw [q]
        omega
      · rw [q]
        omega
    rw [e, sm_pl]
    have r : sm (fun i => hb n (Y j) (p i) * hb n (Y i) t) d = hb n (Y j) t := by
      by_cases c : j < d
      · rw [sm_e (g := fun i => if i = j then hb n (Y j) t else 0) d (fun i hi => ?_), sm_at, if_pos c]
        by_cases e : i = j
        · rw [if_pos e, e, h3 j c, Nat.one_mul]
        · rw [if_neg e, h4 i j hi hj (fun z => e z.symm), Nat.zero_mul]
      · rw [h5 j t (by omega) hj ht]
        exact sm_z0 d fun i hi => by rw [h4 i j hi hj (by omega), Nat.zero_mul]
    rw [r]
    omega
/-- the first bit of a row of the group is at a pivot -/
theorem pv_ld {d t : Nat} {p : Nat → Nat} (h : pvR n (2 * n) d p Y) (hy : gG n Y y) (ht : t < 2 * n) (h1 : hb n y t = 1) (h0 : ∀ s, s < t → hb n y s = 0) : ∃ i, i < d ∧ t = p i := by
  apply Classical.byContradiction
  intro no
  have e := pv_b h hy t ht
  obtain ⟨a1, a2, a3, a4, a5, a6, a7⟩ := h
  have z : sm (fun i => hb n y (p i) * hb n (Y i) t) d = 0 := sm_z0 d fun i hi => by
    rcases (by omega : p i < t ∨ p i = t ∨ t < p i) with q | q | q
    · rw [h0 _ q, Nat.zero_mul]
    · exact absurd ⟨i, hi, q.symm⟩ no
    · rw [a6 i t hi q, Nat.mul_zero]
  rw [h1, z] at e
  exact absurd e (by decide)
theorem hb_e (hy : rw_n n y) (hz : rw_n n z) (h : ∀ t, t < 2 * n → hb n y t = hb n z t) : y.1 = z.1 ∧ y.2.1 = z.2.1 := by
  have key : ∀ a b : Nat, a < 2 ^ n → b < 2 ^ n → (∀ t, t < n → bt a t = bt b t) → a = b := fun a b ha hb g => by
    apply Nat.eq_of_testBit_eq
    intro t
    by_cases c : t < n
    · have := g t c
      rw [bt_t, bt_t] at this
      cases x : a.testBit t <;> cases y : b.testBit t <;> rw [x, y] at this <;> first | rfl | exact absurd this (by decide)
    · have p : 2 ^ n ≤ 2 ^ t := Nat.pow_le_pow_right (by decide) (by omega)
      rw [Nat.testBit_lt_two_pow (by omega), Nat.testBit_lt_two_pow (by omega)]
  refine ⟨key _ _ hy.1 hz.1 fun t ht => ?_, key _ _ hy.2.1 hz.2.1 fun t ht => ?_⟩
  · have := h t (by omega)
    unfold hb at this
    rw [if_pos ht, if_pos ht] at this
    exact this
  · have := h (n + t) (by omega)
    unfold hb at this
    rw [if_neg (by omega), if_neg (by omega), show n + t - n = t by omega] at this
    exact this
/-- rows of one group with the same bits are the same -/
theorem gG_e (h : okY n Y) (hn : nmG n Y) (hy : gG n Y y) (hz : gG n Y z) (hb : ∀ t, t < 2 * n → hb n y t = hb n z t) : y = z := by
  have ry := gG_n h hy
  have rz := gG_n h hz
  obtain ⟨e1, e2⟩ := hb_e ry rz hb
  have c := gG_cc h hy hz
  have m := hn _ (gG_x h hy hz) (by show y.1 ^^^ z.1 = 0; rw [e1, Nat.xor_self]) (by show y.2.1 ^^^ z.2.1 = 0; rw [e2, Nat.xor_self])
  have p := phq_m h.1 ry rz c
  have p1 : phq n (mulA y z) = 2 * (mulA y z).2.2 + be n (y.1 ^^^ z.1) (y.2.1 ^^^ z.2.1) := rfl
  rw [p1, m, e1, e2, Nat.xor_self, be_0, be_c z.2.1] at p
  refine phq_i ry rz e1 e2 ?_
  have q : phq n z = 2 * z.2.2 + be n z.1 z.2.1 := rfl
  have q' : phq n y = 2 * y.2.2 + be n z.1 z.2.1 := by rw [← e1, ← e2]; rfl
  have a := rz.2.2
  have b := ry.2.2
  omega
/-- one group, one straight form -/
theorem red_un (hY : okY n Y) (hZ : okY n Z) (hE : gEq n Y Z) (hn : nmG n Y) (ho : ∀ j, n ≤ j → Y j = Z j) : redR n Y = redR n Z := by
  obtain ⟨p, hp⟩ := pv_all n Y (2 * n)
  obtain ⟨q, hq⟩ := pv_all n Z (2 * n)
  obtain ⟨oA, gA⟩ := red_G hY
  obtain ⟨oB, gB⟩ := red_G hZ
  have eAB : gEq n (redR n Y) (redR n Z) := gEq_t oA oB gA (gEq_t hY oB hE (gEq_s gB))
  have nA : nmG n (redR n Y) := nmG_e hY (gEq_s gA) hn
  have eA : (rdR n Y (2 * n)).1 = redR n Y := rfl
  have eB : (rdR n Z (2 * n)).1 = redR n Z := rfl
  rw [eA] at hp
  rw [eB] at hq
  generalize (rdR n Y (2 * n)).2 = d at hp
  generalize (rdR n Z (2 * n)).2 = f at hq
  funext j
  by_cases cj : n ≤ j
  · rw [red_o cj, red_o cj, ho j cj]
  have hj : j < n := by omega
  generalize hA : redR n Y = A at *
  generalize hB : redR n Z = B at *
  have p1 : ∀ i, i < d → ∃ k, k < f ∧ p i = q k := fun i hi => pv_ld hq (gEq_y oB eAB (gG_j oA (by have := hp.1; omega))) (hp.2.1 i hi) (hp.2.2.1 i hi) (fun s hs => hp.2.2.2.2.2.1 i s hi hs)
  have p2 : ∀ i, i < f → ∃ k, k < d ∧ q i = p k := fun i hi => pv_ld hp (gEq_y oA (gEq_s eAB) (gG_j oB (by have := hq.1; omega))) (hq.2.1 i hi) (hq.2.2.1 i hi) (fun s hs => hq.2.2.2.2.2.1 i s hi hs)
  have i1 := inc_u hp.2.2.2.2.2.2 hq.2.2.2.2.2.2 p1 p2
  have i2 := inc_u hq.2.2.2.2.2.2 hp.2.2.2.2.2.2 p2 p1
  have hd : d = f := by
    rcases Nat.lt_trichotomy d f with c | c | c
    · have := (i2 d c).1
      omega
    · exact c
    · have := (i1 f c).1
      omega
  subst hd
  have gj : gG n A (B j) := gEq_y oA (gEq_s eAB) (gG_j oB hj)
  refine gG_e oA nA (gG_j oA hj) gj fun t ht => ?_
  rw [pv_b hp (gG_j oA hj) t ht, pv_b hp gj t ht]
  congr 1
  refine sm_e d fun i hi => ?_
  have e := (i1 i hi).2
  by_cases c : j = i
  · subst c
    rw [hp.2.2.1 j hi, e, hq.2.2.1 j hi]
  · rw [hp.2.2.2.1 i j hi hj c, e, hq.2.2.2.1 i j hi hj c]
end TBA
