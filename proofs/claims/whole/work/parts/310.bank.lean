/-! RootHouse$Bank: contracts of its small methods, over the engine -/
/-- an end that answers v and leaves the cells as they were -/
def xq (v : Value) (h : xm_H) : xm_Q := fun r h' => r = .inl (some v) ∧ h' = h
theorem xq_call {cs : xm_S} {post : xm_Q} {x : Nat} {as r : List Value} {h : xm_H} {rc rs : Nat} {K : List Value → xm_H → Nat → Nat → Prop} {v : Value} (hs : (r.map fun v => v.category).sum ≤ 8) (hc : cs x as h 0 0 (xq v h)) (k : K (v :: r) h rc rs) : xm_call cs post x as r h rc rs K :=
  ⟨hs, 0, 0, xq v h, Nat.zero_le _, Nat.zero_le _, hc, fun w h' q => by
    obtain ⟨q1, q2⟩ := q
    cases q1
    subst q2
    exact k, fun E h' q => by cases q.1⟩
theorem xq_O {h : xm_H} {ci a : Nat} {fs : List Value} (ha : h.1 a = some (.inr (ci, fs))) : xm_O h ci a (fun _ => True) := by
  unfold xm_O; rw [ha]; exact ⟨rfl, trivial⟩
section BK
variable {ac : Nat → ClassId} {lo : Nat} {sv : xm_V}
/-- the Bank at b: its rows, sizes, widths, and how many circuits -/
def bk_at (ac : Nat → ClassId) (h : xm_H) (b ar az aw : Nat) (fr fz fw : Nat → Int32) (n : Nat) : Prop :=
  (∃ r3 r4 r5 r6 v8 v9, h.1 b = some (.inr (0, [.ref ar, .ref az, .ref aw, r3, r4, r5, r6, .int (nI n), v8, v9]))) ∧ h.1 ar = some (.inl (ac 0, 6000, .inl fr)) ∧ h.1 az = some (.inl (ac 0, 20, .inl fz)) ∧ h.1 aw = some (.inl (ac 0, 20, .inl fw)) ∧ n ≤ 20 ∧ ∀ c, c < n → fz c ≤ 300
theorem bk_kindOf (d : Nat) (h : xm_H) (u : Int32) : xm_M xp ac lo xp_fty xp_dfl sv (d + 1) nm_X0_kindOf [.int u] h 0 0 (xq (.int (u &&& 15)) h) := by
  refine ⟨rfl, Nat.le_of_ble_eq_true rfl, Nat.le_of_ble_eq_true rfl, fun X hX => xm_run hX 20 _ _ _ _ _ _ ?_⟩
  conv => whnf
  exact ⟨⟨.int, rfl, rfl⟩, rfl, rfl⟩
theorem bk_has (d : Nat) {h : xm_H} {b ar az aw : Nat} {fr fz fw : Nat → Int32} {n : Nat} (B : bk_at ac h b ar az aw fr fz fw n) (c : Int32) : xm_M xp ac lo xp_fty xp_dfl sv (d + 1) nm_X0_has [.ref b, .int c] h 0 0 (xq (.int (if 0 ≤ c ∧ c < nI n then 1 else 0)) h) := by
  obtain ⟨⟨r3, r4, r5, r6, v8, v9, h1⟩, -⟩ := B
  refine ⟨rfl, Nat.le_of_ble_eq_true rfl, Nat.le_of_ble_eq_true rfl, fun X hX => xm_run hX 20 _ _ _ _ _ _ ?_⟩
  conv => whnf
  refine ⟨fun c1 => ?_, fun c1 => ?_⟩
  · conv => whnf
    exact ⟨⟨.boolean, rfl, rfl⟩, by rw [if_neg (fun q => Int32.not_le.mpr c1 q.1)], rfl⟩
  · conv => whnf
    rw [h1]
    conv => whnf
    refine ⟨rfl, ?_⟩
    conv => whnf
    refine ⟨fun c2 => ?_, fun c2 => ?_⟩
    · conv => whnf
      exact ⟨⟨.boolean, rfl, rfl⟩, by rw [if_neg (fun q => Int32.not_lt.mpr c2 q.2)], rfl⟩
    · conv => whnf
      exact ⟨⟨.boolean, rfl, rfl⟩, by rw [if_pos ⟨Int32.not_lt.mp c1, Int32.not_le.mp c2⟩], rfl⟩
theorem bk_hasOp (d : Nat) {h : xm_H} {b ar az aw : Nat} {fr fz fw : Nat → Int32} {n : Nat} (B : bk_at ac h b ar az aw fr fz fw n) (c i : Int32) : xm_M xp ac lo xp_fty xp_dfl sv (d + 2) nm_X0_hasOp [.ref b, .int c, .int i] h 0 0 (xq (.int (if (0 ≤ c ∧ c < nI n) ∧ 0 ≤ i ∧ i < fz c.toNatClampNeg then 1 else 0)) h) := by
  have B0 := B
  obtain ⟨⟨r3, r4, r5, r6, v8, v9, h1⟩, -, h2, -, hn, -⟩ := B
  refine ⟨rfl, Nat.le_of_ble_eq_true rfl, Nat.le_of_ble_eq_true rfl, fun X hX => xm_run hX 40 _ _ _ _ _ _ ?_⟩
  conv => whnf
  refine ⟨xq_O h1, xq_call (by decide) (bk_has d B0 c) ?_⟩
  conv => whnf
  refine ⟨fun c1 => ?_, fun c1 => ?_⟩
  · conv => whnf
    refine ⟨⟨.boolean, rfl, rfl⟩, ?_, rfl⟩
    rw [if_neg (fun q => ?_)]
    rw [if_pos q.1] at c1
    exact absurd c1 (by decide)
  · have hc : 0 ≤ c ∧ c < nI n := Decidable.byContradiction fun q => c1 (if_neg q)
    have hin : vp_in c 20 := by
      obtain ⟨j, hj, rfl⟩ := nI_of (Int32.not_lt.mpr hc.1)
      have := (nI_ltI hj (by omega)).mp hc.2
      exact vp_in_nI (by omega) (by decide)
    conv => whnf
    refine ⟨fun c2 => ?_, fun c2 => ?_⟩
    · conv => whnf
      exact ⟨⟨.boolean, rfl, rfl⟩, by rw [if_neg (fun q => Int32.not_le.mpr c2 q.2.1)], rfl⟩
    · conv => whnf
      rw [h1]
      conv => whnf
      refine ⟨rfl, ?_⟩
      conv => whnf
      rw [h2]
      conv => whnf
      refine ⟨rfl, hin, ?_⟩
      conv => whnf
      refine ⟨fun c3 => ?_, fun c3 => ?_⟩
      · conv => whnf
        exact ⟨⟨.boolean, rfl, rfl⟩, by rw [if_neg (fun q => Int32.not_lt.mpr c3 q.2.2)], rfl⟩
      · conv => whnf
        exact ⟨⟨.boolean, rfl, rfl⟩, by rw [if_pos ⟨hc, Int32.not_lt.mp c2, Int32.not_le.mp c3⟩], rfl⟩
end BK
