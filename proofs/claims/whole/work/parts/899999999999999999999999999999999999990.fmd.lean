/-! FORM: how many syllables are wanted -/
/-- row z is even, the others are alike and odd -/
def pzr (z : Nat) (A : Nat → Nat → R4) : Prop := (∀ p, 1 ≤ p → p ≤ 3 → dv (A z p) ∧ dv (ra (A ((z + 1) % 3) p) (A ((z + 2) % 3) p))) ∧ ∃ p, 1 ≤ p ∧ p ≤ 3 ∧ ¬ dv (A ((z + 1) % 3) p)
def rdy (A : Nat → Nat → R4) : Prop := ∃ p, 1 ≤ p ∧ p ≤ 3 ∧ ¬ dv (ra (A 0 p) (ng (A 1 p)))
theorem dv_sm {x y : R4} (h : dv x) : dv (ra x y) ↔ dv y := by
  obtain ⟨a, b⟩ := h
  unfold dv ra
  constructor
  · rintro ⟨c, d⟩
    exact ⟨by simp only at *; omega, by simp only at *; omega⟩
  · rintro ⟨c, d⟩
    exact ⟨by simp only at *; omega, by simp only at *; omega⟩
theorem dv_ng (x : R4) : dv (ng x) ↔ dv x := by
  unfold dv ng
  constructor
  · rintro ⟨c, d⟩
    exact ⟨by simp only at *; omega, by simp only at *; omega⟩
  · rintro ⟨c, d⟩
    exact ⟨by simp only at *; omega, by simp only at *; omega⟩
theorem dv_pm (x y : R4) : dv (ra x (ng y)) ↔ dv (ra x y) := by
  unfold dv ra ng
  constructor
  · rintro ⟨c, d⟩
    exact ⟨by simp only at *; omega, by simp only at *; omega⟩
  · rintro ⟨c, d⟩
    exact ⟨by simp only at *; omega, by simp only at *; omega⟩
theorem dv_s2 (x y : R4) : dv (ra (ra x (ng y)) (ra x y)) := by
  unfold dv ra ng
  exact ⟨by simp only; omega, by simp only; omega⟩
theorem rdy_0 {A : Nat → Nat → R4} (h : pzr 0 A) : rdy A := by
  obtain ⟨h, p, p1, p3, hp⟩ := h
  refine ⟨p, p1, p3, fun z => hp ?_⟩
  exact (dv_ng _).mp ((dv_sm (h p p1 p3).1).mp z)
theorem rdy_1 {A : Nat → Nat → R4} (h : pzr 1 A) : rdy A := by
  obtain ⟨h, p, p1, p3, hp⟩ := h
  refine ⟨p, p1, p3, fun z => hp ?_⟩
  obtain ⟨a, b⟩ := h p p1 p3
  have b : dv (ra (A 2 p) (A 0 p)) := b
  rw [dv_pm, ra_c, dv_sm a] at z
  show dv (A 2 p)
  rw [ra_c] at b
  exact (dv_sm z).mp b
theorem pz_T {A : Nat → Nat → R4} (h : rdy A) : pzr 2 (lT A) := by
  obtain ⟨p, p1, p3, hp⟩ := h
  exact ⟨fun p _ _ => ⟨dv_rr _, dv_s2 _ _⟩, p, p1, p3, hp⟩
theorem pz_H {A : Nat → Nat → R4} (h : pzr 2 A) : pzr 0 (lH A) := by
  obtain ⟨h, p, p1, p3, hp⟩ := h
  refine ⟨fun p p1 p3 => ?_, p, p1, p3, fun z => hp ?_⟩
  · obtain ⟨a, b⟩ := h p p1 p3
    have b : dv (ra (A 0 p) (A 1 p)) := b
    refine ⟨a, ?_⟩
    show dv (ra (ng (A 1 p)) (A 0 p))
    rw [ra_c, dv_pm]
    exact b
  · obtain ⟨a, b⟩ := h p p1 p3
    have b : dv (ra (A 0 p) (A 1 p)) := b
    have z : dv (ng (A 1 p)) := z
    rw [ra_c] at b
    exact (dv_sm ((dv_ng _).mp z)).mp b
theorem pz_S {A : Nat → Nat → R4} (h : pzr 0 A) : pzr 1 (lS A) := by
  obtain ⟨h, p, p1, p3, hp⟩ := h
  refine ⟨fun p p1 p3 => ?_, p, p1, p3, fun z => hp ?_⟩
  · obtain ⟨a, b⟩ := h p p1 p3
    have b : dv (ra (A 1 p) (A 2 p)) := b
    refine ⟨a, ?_⟩
    show dv (ra (A 2 p) (ng (A 1 p)))
    rw [dv_pm, ra_c]
    exact b
  · obtain ⟨a, b⟩ := h p p1 p3
    have b : dv (ra (A 1 p) (A 2 p)) := b
    have z : dv (A 2 p) := z
    rw [ra_c] at b
    exact (dv_sm z).mp b
/-- the Cliffords want none -/
def ckA (w : List Nat) (r p : Nat) : R4 := if r = 0 then (red (2 * wk w + 2) (bX p (rw0 w) (rw1 w))).1 else if r = 1 then (red (2 * wk w + 2) (bY p (rw0 w) (rw1 w))).1 else (red (2 * wk w) (bZ p (rw0 w))).1
def ckB (w : List Nat) : Bool := ([1, 2, 3].all fun p => decide ((red (2 * wk w + 2) (bX p (rw0 w) (rw1 w))).2 = 0) && decide ((red (2 * wk w + 2) (bY p (rw0 w) (rw1 w))).2 = 0) && decide ((red (2 * wk w) (bZ p (rw0 w))).2 = 0)) && [1, 2, 3].any fun p => !dvB (ra (ckA w 0 p) (ng (ckA w 1 p)))
set_option maxRecDepth 100000 in
theorem ck_all : (kyW.all ckB) = true := by decide +kernel
theorem red_e0 {k : Nat} {x : R4} (h : (red k x).2 = 0) : rn 0 x = rn k (red k x).1 := by
  have := (red_v k x).2
  rw [h, Nat.sub_zero] at this
  exact this.symm
theorem cw_m {k : Nat × Nat} (hk : gdK k) : cw k ∈ kyW := by
  obtain ⟨i, hi, rfl⟩ := hk
  have : ∀ i, i < 24 → cw (kyP i) ∈ kyW := by decide +kernel
  exact this i hi
theorem lv_c {k : Nat × Nat} (hk : gdK k) : ∃ A, lv (cw k) 0 A ∧ rdy A := by
  have h := List.all_eq_true.mp ck_all (cw k) (cw_m hk)
  obtain ⟨h1, h2⟩ := (Bool.and_eq_true _ _).mp h
  refine ⟨ckA (cw k), fun p p1 p3 => ?_, ?_⟩
  · have hp := List.all_eq_true.mp h1 p (by
      have : p = 1 ∨ p = 2 ∨ p = 3 := by omega
      rcases this with rfl | rfl | rfl <;> decide)
    obtain ⟨hp, c⟩ := (Bool.and_eq_true _ _).mp hp
    obtain ⟨a, b⟩ := (Bool.and_eq_true _ _).mp hp
    exact ⟨red_e0 (of_decide_eq_true a), red_e0 (of_decide_eq_true b), red_e0 (of_decide_eq_true c)⟩
  · obtain ⟨p, hp, hd⟩ := List.any_eq_true.mp h2
    have : p = 1 ∨ p = 2 ∨ p = 3 := by
      rcases List.mem_cons.mp hp with q | hp
      · exact Or.inl q
      · rcases List.mem_cons.mp hp with q | hp
        · exact Or.inr (Or.inl q)
        · exact Or.inr (Or.inr (List.mem_singleton.mp hp))
    refine ⟨p, by omega, by omega, fun z => ?_⟩
    rw [(dvB_iff _).mpr z] at hd
    exact absurd hd (by decide)
def evR (s : Nat) : Nat := if s = 0 then 2 else if s = 1 then 0 else 1
theorem nfS_c {s : Nat} {l : List Nat} (h : nfS (s :: l)) : s < 3 ∧ nfS l ∧ (l ≠ [] → l.getD 0 0 ≠ 0) := by
  refine ⟨(h 0 (Nat.succ_pos _)).1, fun j hj => ?_, fun hl => ?_⟩
  · have := h (j + 1) (Nat.succ_lt_succ hj)
    exact ⟨this.1, fun _ => this.2 (Nat.succ_pos _)⟩
  · have hl : 0 < l.length := by
      cases l with
      | nil => exact absurd rfl hl
      | cons a l => exact Nat.succ_pos _
    exact (h 1 (Nat.succ_lt_succ hl)).2 (by decide)
/-- a normal form's syllables are just those that are wanted -/
theorem nf_lv {k : Nat × Nat} (hk : gdK k) : ∀ ss : List Nat, nfS ss → ∃ A, lv (syw ss ++ cw k) ss.length A ∧ (ss ≠ [] → pzr (evR (ss.getD 0 0)) A) ∧ (ss = [] → rdy A)
  | [], _ => by
    obtain ⟨A, a, b⟩ := lv_c hk
    exact ⟨A, a, fun z => absurd rfl z, fun _ => b⟩
  | s :: l, h => by
    obtain ⟨s3, hl, h0⟩ := nfS_c h
    obtain ⟨A, a, b, c⟩ := nf_lv hk l hl
    have hr : rdy A := by
      by_cases q : l = []
      · exact c q
      · have z := b q
        have nz := h0 q
        have l3 : l.getD 0 0 < 3 := (hl 0 (by
          cases l with
          | nil => exact absurd rfl q
          | cons a l => exact Nat.succ_pos _)).1
        have : l.getD 0 0 = 1 ∨ l.getD 0 0 = 2 := by omega
        rcases this with e | e
        · rw [e] at z
          exact rdy_0 z
        · rw [e] at z
          exact rdy_1 z
    have hT := lv_5 a
    have pT := pz_T hr
    have : s = 0 ∨ s = 1 ∨ s = 2 := by omega
    rcases this with rfl | rfl | rfl
    · exact ⟨lT A, hT, fun _ => pT, fun z => by cases z⟩
    · exact ⟨lH (lT A), lv_3 hT, fun _ => pz_H pT, fun z => by cases z⟩
    · exact ⟨lS (lH (lT A)), lv_4 (lv_3 hT), fun _ => pz_S (pz_H pT), fun z => by cases z⟩
/-- what is wanted -/
def ndP1 (K : Nat) (x y : R2) (p t : Nat) : Nat := max (max (max t (red (2 * K) (bZ p x)).2) (red (2 * K + 2) (bX p x y)).2) (red (2 * K + 2) (bY p x y)).2
def ndM (K : Nat) (x y : R2) : Nat := ndP1 K x y 3 (ndP1 K x y 2 (ndP1 K x y 1 0))
theorem nd_e {w : List Nat} {m : Nat} {A : Nat → Nat → R4} (h : lv w m A) (h0 : m = 0 ∨ ∃ r p, r < 3 ∧ 1 ≤ p ∧ p ≤ 3 ∧ ¬ dv (A r p)) : ndM (wk w) (rw0 w) (rw1 w) = m := by
  have le : ∀ p, 1 ≤ p → p ≤ 3 → (red (2 * wk w) (bZ p (rw0 w))).2 = (red m (A 2 p)).2 ∧ (red (2 * wk w + 2) (bX p (rw0 w) (rw1 w))).2 = (red m (A 0 p)).2 ∧ (red (2 * wk w + 2) (bY p (rw0 w) (rw1 w))).2 = (red m (A 1 p)).2 := fun p p1 p3 => by
    obtain ⟨a, b, c⟩ := h p p1 p3
    rw [red_u a, red_u b, red_u c]
    exact ⟨rfl, rfl, rfl⟩
  have l1 := le 1 (by decide) (by decide)
  have l2 := le 2 (by decide) (by decide)
  have l3 := le 3 (by decide) (by decide)
  have u : ∀ r p, (red m (A r p)).2 ≤ m := fun r p => red_k m (A r p)
  unfold ndM ndP1
  rw [l1.1, l1.2.1, l1.2.2, l2.1, l2.2.1, l2.2.2, l3.1, l3.2.1, l3.2.2]
  have a1 := u 0 1
  have a2 := u 1 1
  have a3 := u 2 1
  have b1 := u 0 2
  have b2 := u 1 2
  have b3 := u 2 2
  have c1 := u 0 3
  have c2 := u 1 3
  have c3 := u 2 3
  rcases h0 with z | ⟨r, p, r3, p1, p3, hd⟩
  · omega
  · have e : (red m (A r p)).2 = m := by rw [red_nd hd]
    have : r = 0 ∨ r = 1 ∨ r = 2 := by omega
    have hp : p = 1 ∨ p = 2 ∨ p = 3 := by omega
    rcases this with rfl | rfl | rfl <;> rcases hp with rfl | rfl | rfl <;> omega
theorem pz_d {z : Nat} {A : Nat → Nat → R4} (h : pzr z A) : ∃ r p, r < 3 ∧ 1 ≤ p ∧ p ≤ 3 ∧ ¬ dv (A r p) := by
  obtain ⟨_, p, p1, p3, hp⟩ := h
  exact ⟨(z + 1) % 3, p, Nat.mod_lt _ (by decide), p1, p3, hp⟩
/-- so many syllables are wanted -/
theorem nd_nf {w ss : List Nat} {k : Nat × Nat} (h : weq w (syw ss ++ cw k)) (hk : gdK k) (hs : nfS ss) : ndM (wk w) (rw0 w) (rw1 w) = ss.length ∧ ∃ A, lv w ss.length A := by
  obtain ⟨A, a, b, _⟩ := nf_lv hk ss hs
  have a := lv_e h a
  refine ⟨nd_e a ?_, A, a⟩
  by_cases q : ss = []
  · exact Or.inl (by rw [q]; rfl)
  · exact Or.inr (pz_d (b q))
/-- one syllable is taken off -/
theorem wq_o {s : Nat} (h : s < 3) : weq ((if s = 0 then [7] else if s = 1 then [7, 3] else [7, 3, 6]) ++ sy s) [] := by
  have : s = 0 ∨ s = 1 ∨ s = 2 := by omega
  rcases this with rfl | rfl | rfl
  · exact weq_B (by decide +kernel)
  · exact weq_B (by decide +kernel)
  · exact weq_B (by decide +kernel)
def tkW (how : Nat) : List Nat := if how = 0 then [7] else if how = 1 then [7, 3] else [7, 3, 6]
theorem tk_y {w ss : List Nat} {s : Nat} {k : Nat × Nat} (h : weq w (syw (s :: ss) ++ cw k)) (hs : s < 3) : weq (tkW s ++ w) (syw ss ++ cw k) := by
  have a := weq_l (tkW s) h
  rw [show syw (s :: ss) ++ cw k = sy s ++ (syw ss ++ cw k) from List.append_assoc _ _ _, ← List.append_assoc] at a
  have b := weq_e (syw ss ++ cw k) (wq_o hs)
  exact weq_t a b
/-- another one would want one more -/
theorem tk_n {w ss : List Nat} {s how : Nat} {k : Nat × Nat} (h : weq w (syw (s :: ss) ++ cw k)) (hk : gdK k) (hs : nfS (s :: ss)) (hh : how < s) : ndM (wk (tkW how ++ w)) (rw0 (tkW how ++ w)) (rw1 (tkW how ++ w)) = ss.length + 2 ∧ ∃ A, lv (tkW how ++ w) (ss.length + 2) A := by
  obtain ⟨A, a, b, _⟩ := nf_lv hk (s :: ss) hs
  have a := lv_e h a
  have z := b (fun q => by cases q)
  have s3 := (nfS_c hs).1
  have fin : ∀ {w' : List Nat} {B : Nat → Nat → R4}, lv w' (ss.length + 1) B → rdy B → ndM (wk (7 :: w')) (rw0 (7 :: w')) (rw1 (7 :: w')) = ss.length + 2 ∧ ∃ A, lv (7 :: w') (ss.length + 2) A := by
    intro w' B hB hr
    have h7 := lv_7 hB
    obtain ⟨p, p1, p3, hp⟩ := hr
    refine ⟨nd_e h7 (Or.inr ⟨0, p, by decide, p1, p3, fun q => hp ?_⟩), _, h7⟩
    rw [dv_pm]
    exact q
  have : s = 1 ∨ s = 2 := by omega
  rcases this with rfl | rfl
  · have : how = 0 := by omega
    subst this
    exact fin a (rdy_0 z)
  · have hc : how = 0 ∨ how = 1 := by omega
    rcases hc with rfl | rfl
    · exact fin a (rdy_1 z)
    · refine fin (lv_3 a) ?_
      obtain ⟨hz, p, p1, p3, hp⟩ := z
      refine ⟨p, p1, p3, fun q => hp ?_⟩
      obtain ⟨x, y⟩ := hz p p1 p3
      have x : dv (A 1 p) := x
      have q : dv (ra (A 2 p) (ng (ng (A 1 p)))) := q
      rw [ng_ng, ra_c, dv_sm x] at q
      exact q
