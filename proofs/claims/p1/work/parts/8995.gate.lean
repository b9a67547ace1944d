/-! the pair gate -/
/-- the TABLE as both have it: n rows, Y -/
def tb_s (M : mm_M) (n : Nat) (Y : Nat → RW) : Prop := 1 ≤ n ∧ n ≤ 20 ∧ M.1 25 3 = nI n ∧ M.1 108 81 = nI n ∧ ∀ j, j < n → rw_ok (Y j) ∧ rA M j (Y j) ∧ rB M j (Y j)
section GTP
variable {d : Nat} {M : mm_M}
theorem tb_l {P : am_Q} {X : am_X} {n : Nat} {Y : Nat → RW} {G : RW → RW} {v1 v2 v3 : Int32} (hX : am_K d false nm_X8_turnBy P X) (h20 : n ≤ 20) (hn : M.1 25 3 = nI n) (hY : ∀ j, j < n → rw_ok (Y j) ∧ rA M j (Y j)) (hB : ∀ N i, i < 20 → rA N i (Y i) → rw_ok (Y i) → X 252 [some (aR 25), some (aI v1), some (aI v2), some (aI v3), some (aI (nI i))] [] (wA N i (G (Y i))) → X 17 [some (aR 25), some (aI v1), some (aI v2), some (aI v3), some (aI (nI i))] [] N) (hP : P (.inl none) (gA M (fun j => G (Y j)) n)) : ∀ (m i : Nat), i + m = n → X 8 [some (aR 25), some (aI v1), some (aI v2), some (aI v3), some (aI (nI i))] [] (gA M (fun j => G (Y j)) i) := by
  intro m
  induction m with
  | zero =>
    intro i hi
    have hi : i = n := by omega
    subst hi
    refine am_run hX 5 _ _ _ _ ?_
    conv => whnf
    rw [show (gA M (fun j => G (Y j)) i).1 25 3 = nI i from hn]
    refine ⟨fun _ => ?_, fun c => absurd (nI_le (by omega) (by omega)) c⟩
    conv => whnf
    exact ⟨trivial, hP⟩
  | succ m ih =>
    intro i hi
    refine am_run hX 4 _ _ _ _ ?_
    conv => whnf
    rw [show (gA M (fun j => G (Y j)) i).1 25 3 = nI n from hn]
    refine ⟨fun c => absurd c (nI_ge (by omega) (by omega)), fun _ => ?_⟩
    obtain ⟨ok, hr⟩ := hY i (by omega)
    refine hB _ i (by omega) (gA_r hr) ok ?_
    rw [gA_s (F := fun j => G (Y j))]
    refine am_run hX 2 _ _ _ _ ?_
    conv => whnf
    rw [nI_1]
    exact ih (i + 1) (by omega)
/-- the class's TABLE behind a gate -/
def gt_1 (M : mm_M) (F : Nat → RW) (n : Nat) : mm_M := gA (mm_i M 25 (upd (M.1 25) 4 0)) F n
set_option maxRecDepth 100000 in
theorem ct_tb1 {n k a : Nat} {q : Int32} {Y : Nat → RW} (hk : k < 5) (ha : a < 20) (h : tb_s M n Y) : am_M (d + 3) false nm_X8_turnBy [aR 25, aI (nI k), aI (nI a), aI q] M (am_q0 (gt_1 M (fun j => sg k a (Y j)) n)) := by
  obtain ⟨n1, n20, hn, _, hY⟩ := h
  refine ⟨rfl, rfl, rfl, fun X hX => am_run hX 5 _ _ _ _ ?_⟩
  conv => whnf
  refine ⟨⟨rfl, rfl⟩, ?_⟩
  conv => whnf
  have key := tb_l (M := mm_i M 25 (upd (M.1 25) 4 0)) (n := n) (Y := Y) (G := sg k a) (v1 := nI k) (v2 := nI a) (v3 := q) hX n20 hn (fun j hj => ⟨(hY j hj).1, (hY j hj).2.1⟩) (fun N i hi hr ok hK => bo_1 hX hk ha hi hr ok hK) ⟨rfl, rfl⟩ n 0 (by omega)
  rw [gA_0] at key
  exact key
set_option maxRecDepth 100000 in
theorem ct_tb2 {n k a b : Nat} {Y : Nat → RW} (hk : k = 5 ∨ k = 6 ∨ k = 7) (ha : a < 20) (hb : b < 20) (hab : a ≠ b) (h : tb_s M n Y) : am_M (d + 3) false nm_X8_turnBy [aR 25, aI (nI (gk k)), aI (nI b), aI (nI a)] M (am_q0 (gt_1 M (fun j => cpl k a b (Y j)) n)) := by
  obtain ⟨n1, n20, hn, _, hY⟩ := h
  refine ⟨rfl, rfl, rfl, fun X hX => am_run hX 5 _ _ _ _ ?_⟩
  conv => whnf
  refine ⟨⟨rfl, rfl⟩, ?_⟩
  conv => whnf
  have key := tb_l (M := mm_i M 25 (upd (M.1 25) 4 0)) (n := n) (Y := Y) (G := cpl k a b) (v1 := nI (gk k)) (v2 := nI b) (v3 := nI a) hX n20 hn (fun j hj => ⟨(hY j hj).1, (hY j hj).2.1⟩) (fun N i hi hr ok hK => bo_2 hX hk ha hb hab hi hr ok hK) ⟨rfl, rfl⟩ n 0 (by omega)
  rw [gA_0] at key
  exact key
/-- what gate does to a row -/
def gr (k a b : Nat) (y : RW) : RW := if k < 5 then sg k a y else cpl k a b y
set_option maxRecDepth 100000 in
theorem gt_l {P : am_Q} {X : am_X} {n k a b : Nat} {q : Int32} {Y : Nat → RW} (hX : am_K (d + 1) false nm_X12_gate P X) (n20 : n ≤ 20) (hn : M.1 108 81 = nI n) (hY : ∀ j, j < n → rw_ok (Y j) ∧ rB M j (Y j)) (ha : a < 20) (hk : k < 5 ∨ ((k = 5 ∨ k = 6 ∨ k = 7) ∧ q = nI b ∧ b < 20)) (hP : P (.inl (some (aI 1))) (gB M (fun j => gr k a b (Y j)) n)) : ∀ (m i : Nat) (l5 l6 : Option am_V), i + m = n → X 54 [some (aR 108), some (aI (nI k)), some (aI (nI a)), some (aI q), some (aI (nI i)), l5, l6] [] (gB M (fun j => gr k a b (Y j)) i) := by
  intro m
  induction m with
  | zero =>
    intro i l5 l6 hi
    have hi : i = n := by omega
    subst hi
    refine am_run hX 6 _ _ _ _ ?_
    conv => whnf
    rw [show (gB M (fun j => gr k a b (Y j)) i).1 108 81 = nI i from hn]
    refine ⟨fun _ => ?_, fun c => absurd (nI_le (by omega) (by omega)) c⟩
    conv => whnf
    exact ⟨rfl, hP⟩
  | succ m ih =>
    intro i l5 l6 hi
    have hin : vp_in (nI i) 20 := vp_in_nI (by omega) (by decide)
    obtain ⟨ok, hr⟩ := hY i (by omega)
    have hr := gB_r (F := fun j => gr k a b (Y j)) hr
    refine am_run hX 4 _ _ _ _ ?_
    conv => whnf
    rw [show (gB M (fun j => gr k a b (Y j)) i).1 108 81 = nI n from hn]
    refine ⟨fun c => absurd c (nI_ge (by omega) (by omega)), fun _ => ?_⟩
    have fin : ∀ l5 l6, X 122 [some (aR 108), some (aI (nI k)), some (aI (nI a)), some (aI q), some (aI (nI i)), l5, l6] [] (wB (gB M (fun j => gr k a b (Y j)) i) i (gr k a b (Y i))) := fun l5 l6 => by
      rw [gB_s (F := fun j => gr k a b (Y j))]
      refine am_run hX 2 _ _ _ _ ?_
      conv => whnf
      rw [nI_1]
      exact ih (i + 1) _ _ (by omega)
    generalize gB M (fun j => gr k a b (Y j)) i = N at *
    refine am_run hX 21 _ _ _ _ ?_
    conv => whnf
    refine ⟨hin, ?_⟩
    conv => whnf
    refine ⟨hin, ?_⟩
    conv => whnf
    rw [nI_clamp (n := i) (by omega), hr.1, hr.2.1, nI_bt ok.1 ha, nI_bt ok.2.1 ha]
    rcases hk with hk | ⟨hk, rfl, hb⟩
    · refine ⟨fun c => absurd c (nI_nlt (a := 4) (by omega) (by decide)), fun _ => ?_⟩
      refine am_run hX 8 _ _ _ _ ?_
      conv => whnf
      refine am_c0 (ct_single (d := d) hk (by omega) ha hr ok) ?_
      conv => whnf
      have := fin (some (aI (nI (bt (Y i).1 a)))) (some (aI (nI (bt (Y i).2.1 a))))
      unfold gr at this
      rw [if_pos hk] at this
      exact this
    · refine ⟨fun _ => ?_, fun c => absurd (nI_lt (a := 4) (by omega) (by omega)) c⟩
      refine am_run hX 8 _ _ _ _ ?_
      conv => whnf
      refine am_c0 (ct_couple (d := d) hk (by omega) ha hb hr ok) ?_
      conv => whnf
      have := fin (some (aI (nI (bt (Y i).1 a)))) (some (aI (nI (bt (Y i).2.1 a))))
      unfold gr at this
      rw [if_neg (by omega)] at this
      exact this
end GTP
