/-! the pair total -/
section TOU
variable {d : Nat} {M : mm_M} {g m : Nat} {T : Nat → Bool} {ph : Nat → Nat} {E : Nat → Nat → Nat}
set_option maxRecDepth 100000 in
theorem tx_0 : am_M (d + 3) false nm_X11_total [aR 0, aI 0] M (am_q1 (aI (M.1 9 7)) M) := by
  refine ⟨rfl, rfl, rfl, fun X hX => am_run hX 60 _ _ _ _ ?_⟩
  conv => whnf
  refine ⟨fun _ => ?_, fun e => absurd rfl e⟩
  conv => whnf
  exact ⟨trivial, rfl, rfl⟩
set_option maxRecDepth 100000 in
theorem tr_0 : am_M (d + 3) false nm_X12_total [aR 108, aI 0] M (am_q1 (aI (M.1 108 6)) (th0 M)) := by
  refine ⟨rfl, rfl, rfl, fun X hX => am_run hX 60 _ _ _ _ ?_⟩
  conv => whnf
  refine ⟨fun _ => ?_, fun e => absurd rfl e⟩
  conv => whnf
  exact ⟨trivial, rfl, rfl⟩
set_option maxRecDepth 100000 in
theorem tx_1 : am_M (d + 3) false nm_X11_total [aR 0, aI 1] M (am_q1 (aI (M.1 0 14)) M) := by
  refine ⟨rfl, rfl, rfl, fun X hX => am_run hX 60 _ _ _ _ ?_⟩
  conv => whnf
  refine ⟨fun e => absurd e (by decide), fun _ => ?_⟩
  conv => whnf
  refine ⟨fun _ => ?_, fun e => absurd rfl e⟩
  conv => whnf
  exact ⟨trivial, rfl, rfl⟩
set_option maxRecDepth 100000 in
theorem tr_1 : am_M (d + 3) false nm_X12_total [aR 108, aI 1] M (am_q1 (aI (M.1 108 2)) (th0 M)) := by
  refine ⟨rfl, rfl, rfl, fun X hX => am_run hX 60 _ _ _ _ ?_⟩
  conv => whnf
  refine ⟨fun e => absurd e (by decide), fun _ => ?_⟩
  conv => whnf
  refine ⟨fun _ => ?_, fun e => absurd rfl e⟩
  conv => whnf
  exact ⟨trivial, rfl, rfl⟩
set_option maxRecDepth 100000 in
theorem tx_2 : am_M (d + 3) false nm_X11_total [aR 0, aI 2] M (am_q1 (aI (M.1 25 3)) M) := by
  refine ⟨rfl, rfl, rfl, fun X hX => am_run hX 60 _ _ _ _ ?_⟩
  conv => whnf
  refine ⟨fun e => absurd e (by decide), fun _ => ?_⟩
  conv => whnf
  refine ⟨fun e => absurd e (by decide), fun _ => ?_⟩
  conv => whnf
  refine ⟨fun _ => ?_, fun e => absurd rfl e⟩
  conv => whnf
  exact ⟨trivial, rfl, rfl⟩
set_option maxRecDepth 100000 in
theorem tr_2 : am_M (d + 3) false nm_X12_total [aR 108, aI 2] M (am_q1 (aI (M.1 108 81)) (th0 M)) := by
  refine ⟨rfl, rfl, rfl, fun X hX => am_run hX 60 _ _ _ _ ?_⟩
  conv => whnf
  refine ⟨fun e => absurd e (by decide), fun _ => ?_⟩
  conv => whnf
  refine ⟨fun e => absurd e (by decide), fun _ => ?_⟩
  conv => whnf
  refine ⟨fun _ => ?_, fun e => absurd rfl e⟩
  conv => whnf
  exact ⟨trivial, rfl, rfl⟩
set_option maxRecDepth 100000 in
theorem tx_5 : am_M (d + 3) false nm_X11_total [aR 0, aI 5] M (am_q1 (aI (M.1 70 13)) M) := by
  refine ⟨rfl, rfl, rfl, fun X hX => am_run hX 60 _ _ _ _ ?_⟩
  conv => whnf
  refine ⟨fun e => absurd e (by decide), fun _ => ?_⟩
  conv => whnf
  refine ⟨fun e => absurd e (by decide), fun _ => ?_⟩
  conv => whnf
  refine ⟨fun e => absurd e (by decide), fun _ => ?_⟩
  conv => whnf
  refine ⟨fun e => absurd e (by decide), fun _ => ?_⟩
  conv => whnf
  refine ⟨fun e => absurd e (by decide), fun _ => ?_⟩
  conv => whnf
  refine ⟨fun _ => ?_, fun e => absurd rfl e⟩
  conv => whnf
  exact ⟨trivial, rfl, rfl⟩
set_option maxRecDepth 100000 in
theorem tr_5 : am_M (d + 3) false nm_X12_total [aR 108, aI 5] M (am_q1 (aI (M.1 108 139)) (th0 M)) := by
  refine ⟨rfl, rfl, rfl, fun X hX => am_run hX 60 _ _ _ _ ?_⟩
  conv => whnf
  refine ⟨fun e => absurd e (by decide), fun _ => ?_⟩
  conv => whnf
  refine ⟨fun e => absurd e (by decide), fun _ => ?_⟩
  conv => whnf
  refine ⟨fun e => absurd e (by decide), fun _ => ?_⟩
  conv => whnf
  refine ⟨fun e => absurd e (by decide), fun _ => ?_⟩
  conv => whnf
  refine ⟨fun e => absurd e (by decide), fun _ => ?_⟩
  conv => whnf
  refine ⟨fun _ => ?_, fun e => absurd rfl e⟩
  conv => whnf
  exact ⟨trivial, rfl, rfl⟩
set_option maxRecDepth 100000 in
theorem tx_6 : am_M (d + 3) false nm_X11_total [aR 0, aI 6] M (am_q1 (aI (M.1 96 0)) M) := by
  refine ⟨rfl, rfl, rfl, fun X hX => am_run hX 60 _ _ _ _ ?_⟩
  conv => whnf
  refine ⟨fun e => absurd e (by decide), fun _ => ?_⟩
  conv => whnf
  refine ⟨fun e => absurd e (by decide), fun _ => ?_⟩
  conv => whnf
  refine ⟨fun e => absurd e (by decide), fun _ => ?_⟩
  conv => whnf
  refine ⟨fun e => absurd e (by decide), fun _ => ?_⟩
  conv => whnf
  refine ⟨fun e => absurd e (by decide), fun _ => ?_⟩
  conv => whnf
  refine ⟨fun e => absurd e (by decide), fun _ => ?_⟩
  conv => whnf
  refine ⟨fun _ => ?_, fun e => absurd rfl e⟩
  conv => whnf
  refine ⟨vp_in_nI (n := 0) (N := 3) (by decide) (by decide), ?_⟩
  conv => whnf
  exact ⟨trivial, rfl, rfl⟩
set_option maxRecDepth 100000 in
theorem tr_6 : am_M (d + 3) false nm_X12_total [aR 108, aI 6] M (am_q1 (aI (M.1 141 0)) (th0 M)) := by
  refine ⟨rfl, rfl, rfl, fun X hX => am_run hX 60 _ _ _ _ ?_⟩
  conv => whnf
  refine ⟨fun e => absurd e (by decide), fun _ => ?_⟩
  conv => whnf
  refine ⟨fun e => absurd e (by decide), fun _ => ?_⟩
  conv => whnf
  refine ⟨fun e => absurd e (by decide), fun _ => ?_⟩
  conv => whnf
  refine ⟨fun e => absurd e (by decide), fun _ => ?_⟩
  conv => whnf
  refine ⟨fun e => absurd e (by decide), fun _ => ?_⟩
  conv => whnf
  refine ⟨fun e => absurd e (by decide), fun _ => ?_⟩
  conv => whnf
  refine ⟨fun _ => ?_, fun e => absurd rfl e⟩
  conv => whnf
  refine ⟨vp_in_nI (n := 0) (N := 2) (by decide) (by decide), ?_⟩
  conv => whnf
  exact ⟨trivial, rfl, rfl⟩
set_option maxRecDepth 100000 in
theorem tx_7 : am_M (d + 3) false nm_X11_total [aR 0, aI 7] M (am_q1 (aI (M.1 96 1)) M) := by
  refine ⟨rfl, rfl, rfl, fun X hX => am_run hX 60 _ _ _ _ ?_⟩
  conv => whnf
  refine ⟨fun e => absurd e (by decide), fun _ => ?_⟩
  conv => whnf
  refine ⟨fun e => absurd e (by decide), fun _ => ?_⟩
  conv => whnf
  refine ⟨fun e => absurd e (by decide), fun _ => ?_⟩
  conv => whnf
  refine ⟨fun e => absurd e (by decide), fun _ => ?_⟩
  conv => whnf
  refine ⟨fun e => absurd e (by decide), fun _ => ?_⟩
  conv => whnf
  refine ⟨fun e => absurd e (by decide), fun _ => ?_⟩
  conv => whnf
  refine ⟨fun e => absurd e (by decide), fun _ => ?_⟩
  conv => whnf
  refine ⟨fun _ => ?_, fun e => absurd rfl e⟩
  conv => whnf
  refine ⟨vp_in_nI (n := 1) (N := 3) (by decide) (by decide), ?_⟩
  conv => whnf
  exact ⟨trivial, rfl, rfl⟩
set_option maxRecDepth 100000 in
theorem tr_7 : am_M (d + 3) false nm_X12_total [aR 108, aI 7] M (am_q1 (aI (M.1 141 1)) (th0 M)) := by
  refine ⟨rfl, rfl, rfl, fun X hX => am_run hX 60 _ _ _ _ ?_⟩
  conv => whnf
  refine ⟨fun e => absurd e (by decide), fun _ => ?_⟩
  conv => whnf
  refine ⟨fun e => absurd e (by decide), fun _ => ?_⟩
  conv => whnf
  refine ⟨fun e => absurd e (by decide), fun _ => ?_⟩
  conv => whnf
  refine ⟨fun e => absurd e (by decide), fun _ => ?_⟩
  conv => whnf
  refine ⟨fun e => absurd e (by decide), fun _ => ?_⟩
  conv => whnf
  refine ⟨fun e => absurd e (by decide), fun _ => ?_⟩
  conv => whnf
  refine ⟨fun e => absurd e (by decide), fun _ => ?_⟩
  conv => whnf
  refine ⟨fun _ => ?_, fun e => absurd rfl e⟩
  conv => whnf
  refine ⟨vp_in_nI (n := 1) (N := 2) (by decide) (by decide), ?_⟩
  conv => whnf
  exact ⟨trivial, rfl, rfl⟩
set_option maxRecDepth 100000 in
theorem tx_4 (hg : g < 32768) (h : M.1 70 12 = nI g) : am_M (d + 3) false nm_X11_total [aR 0, aI 4] M (am_q1 (aI (nI (pc g))) M) := by
  refine ⟨rfl, rfl, rfl, fun X hX => am_run hX 60 _ _ _ _ ?_⟩
  conv => whnf
  refine ⟨fun e => absurd e (by decide), fun _ => ?_⟩
  conv => whnf
  refine ⟨fun e => absurd e (by decide), fun _ => ?_⟩
  conv => whnf
  refine ⟨fun e => absurd e (by decide), fun _ => ?_⟩
  conv => whnf
  refine ⟨fun e => absurd e (by decide), fun _ => ?_⟩
  conv => whnf
  refine ⟨fun _ => ?_, fun e => absurd rfl e⟩
  conv => whnf
  rw [h]
  refine am_c1 (ct_bit16 (d + 1) g (by omega) M) ?_
  conv => whnf
  exact ⟨trivial, rfl, rfl⟩
set_option maxRecDepth 100000 in
theorem tr_4 (hg : ∀ i, i < 36 → i / 6 < i % 6 → M.1 195 i = nI (bt g (kkN i))) : am_M (d + 3) false nm_X12_total [aR 108, aI 4] M (am_q1 (aI (nI (sm (fun i => if i / 6 < i % 6 then bt g (kkN i) else 0) 36))) (th0 M)) := by
  refine ⟨rfl, rfl, rfl, fun X hX => am_run hX 7 _ _ _ _ ?_⟩
  conv => whnf
  refine ⟨fun e => absurd e (by decide), fun _ => ?_⟩
  conv => whnf
  refine ⟨fun e => absurd e (by decide), fun _ => ?_⟩
  conv => whnf
  refine ⟨fun e => absurd e (by decide), fun _ => ?_⟩
  conv => whnf
  refine ⟨fun e => absurd e (by decide), fun _ => ?_⟩
  conv => whnf
  refine ⟨fun _ => ?_, fun e => absurd rfl e⟩
  refine am_run hX 2 _ _ _ _ ?_
  conv => whnf
  refine tt_c (M := th0 M) (g := g) hX hg (fun l3 => ?_) 36 0 (by omega)
  refine am_run hX 2 _ _ _ _ ?_
  conv => whnf
  exact ⟨trivial, rfl, rfl⟩
set_option maxRecDepth 100000 in
theorem tx_3z (h : M.1 39 6 = 0) : am_M (d + 3) false nm_X11_total [aR 0, aI 3] M (am_q1 (aI (nI 0)) M) := by
  refine ⟨rfl, rfl, rfl, fun X hX => am_run hX 60 _ _ _ _ ?_⟩
  conv => whnf
  refine ⟨fun e => absurd e (by decide), fun _ => ?_⟩
  conv => whnf
  refine ⟨fun e => absurd e (by decide), fun _ => ?_⟩
  conv => whnf
  refine ⟨fun e => absurd e (by decide), fun _ => ?_⟩
  conv => whnf
  refine ⟨fun _ => ?_, fun e => absurd rfl e⟩
  conv => whnf
  rw [h]
  refine ⟨fun c => absurd rfl c, fun _ => ?_⟩
  conv => whnf
  exact ⟨trivial, rfl, rfl⟩
set_option maxRecDepth 100000 in
theorem tx_3 (h : ¬ M.1 39 6 = 0) : am_M (d + 3) false nm_X11_total [aR 0, aI 3] M (am_q1 (aI (lbc (M.2 39 10))) M) := by
  refine ⟨rfl, rfl, rfl, fun X hX => am_run hX 60 _ _ _ _ ?_⟩
  conv => whnf
  refine ⟨fun e => absurd e (by decide), fun _ => ?_⟩
  conv => whnf
  refine ⟨fun e => absurd e (by decide), fun _ => ?_⟩
  conv => whnf
  refine ⟨fun e => absurd e (by decide), fun _ => ?_⟩
  conv => whnf
  refine ⟨fun _ => ?_, fun e => absurd rfl e⟩
  conv => whnf
  refine ⟨fun _ => ?_, fun c => absurd (Decidable.byContradiction c) h⟩
  conv => whnf
  refine am_c1 (ct_lbc _) ?_
  conv => whnf
  exact ⟨trivial, rfl, rfl⟩
set_option maxRecDepth 100000 in
theorem tr_3z (h : M.1 108 98 = 0) : am_M (d + 3) false nm_X12_total [aR 108, aI 3] M (am_q1 (aI (nI 0)) (th0 M)) := by
  refine ⟨rfl, rfl, rfl, fun X hX => am_run hX 60 _ _ _ _ ?_⟩
  conv => whnf
  refine ⟨fun e => absurd e (by decide), fun _ => ?_⟩
  conv => whnf
  refine ⟨fun e => absurd e (by decide), fun _ => ?_⟩
  conv => whnf
  refine ⟨fun e => absurd e (by decide), fun _ => ?_⟩
  conv => whnf
  refine ⟨fun _ => ?_, fun e => absurd rfl e⟩
  conv => whnf
  refine ⟨fun c => absurd c (by decide), fun _ => ?_⟩
  conv => whnf
  rw [show (mm_i M 108 (upd (M.1 108) 0 0)).1 108 98 = 0 from h]
  refine ⟨fun _ => ?_, fun c => absurd rfl c⟩
  conv => whnf
  exact ⟨trivial, rfl, rfl⟩
set_option maxRecDepth 100000 in
theorem tr_3 (h98 : M.1 108 98 = 1) (hT : ∀ i, i < 60 → M.1 169 i = if T i = true then 1 else 0) : am_M (d + 3) false nm_X12_total [aR 108, aI 3] M (am_q1 (aI (nI (sm (fun i => if T i = true then 1 else 0) 60))) (th0 M)) := by
  refine ⟨rfl, rfl, rfl, fun X hX => am_run hX 7 _ _ _ _ ?_⟩
  conv => whnf
  refine ⟨fun e => absurd e (by decide), fun _ => ?_⟩
  conv => whnf
  refine ⟨fun e => absurd e (by decide), fun _ => ?_⟩
  conv => whnf
  refine ⟨fun e => absurd e (by decide), fun _ => ?_⟩
  conv => whnf
  refine ⟨fun _ => ?_, fun e => absurd rfl e⟩
  refine am_run hX 2 _ _ _ _ ?_
  conv => whnf
  refine tt_d (M := th0 M) (T := T) hX h98 hT (fun l3 => ?_) 60 0 (by omega)
  refine am_run hX 2 _ _ _ _ ?_
  conv => whnf
  exact ⟨trivial, rfl, rfl⟩
theorem tc_3 (h : wb_s M m T ph E) : lbc (M.2 39 10) = nI (sm (fun i => if T i = true then 1 else 0) 60) := by
  obtain ⟨h1, h2, h3, h4, h5, h6, h7⟩ := h
  rw [lbc_p, pcn_sm, sm_e (g := fun i => if T i = true then 1 else 0) 64 (fun j hj => by rw [bt_tb _ hj, h5 j hj])]
  congr 1
  have z : ∀ j, 60 ≤ j → (if T j = true then 1 else 0) = 0 := fun j hj => if_neg (fun t => by have := h2 j t; omega)
  show sm (fun i => if T i = true then 1 else 0) 60 + (if T 60 = true then 1 else 0) + (if T 61 = true then 1 else 0) + (if T 62 = true then 1 else 0) + (if T 63 = true then 1 else 0) = _
  rw [z 60 (by decide), z 61 (by decide), z 62 (by decide), z 63 (by decide)]
  simp only [Nat.add_zero]
theorem sm_z0 {f : Nat → Nat} : ∀ n, (∀ t, t < n → f t = 0) → sm f n = 0
  | 0, _ => rfl
  | n + 1, h => by
    show sm f n + f n = 0
    rw [sm_z0 n (fun t ht => h t (by omega)), h n (by omega)]
set_option maxRecDepth 100000 in
theorem tx_n {p : Int32} (hp : ¬ p = 0 ∧ ¬ p = 1 ∧ ¬ p = 2 ∧ ¬ p = 3 ∧ ¬ p = 4 ∧ ¬ p = 5 ∧ ¬ p = 6 ∧ ¬ p = 7) : am_M (d + 3) false nm_X11_total [aR 0, aI p] M (am_q1 (aI (-1)) M) := by
  obtain ⟨p0, p1, p2, p3, p4, p5, p6, p7⟩ := hp
  refine ⟨rfl, rfl, rfl, fun X hX => am_run hX 100 _ _ _ _ ?_⟩
  conv => whnf
  refine ⟨fun e => absurd e p0, fun _ => ?_⟩
  conv => whnf
  refine ⟨fun e => absurd e p1, fun _ => ?_⟩
  conv => whnf
  refine ⟨fun e => absurd e p2, fun _ => ?_⟩
  conv => whnf
  refine ⟨fun e => absurd e p3, fun _ => ?_⟩
  conv => whnf
  refine ⟨fun e => absurd e p4, fun _ => ?_⟩
  conv => whnf
  refine ⟨fun e => absurd e p5, fun _ => ?_⟩
  conv => whnf
  refine ⟨fun e => absurd e p6, fun _ => ?_⟩
  conv => whnf
  refine ⟨fun e => absurd e p7, fun _ => ?_⟩
  conv => whnf
  exact ⟨trivial, rfl, rfl⟩
set_option maxRecDepth 100000 in
theorem tr_n {p : Int32} (hp : ¬ p = 0 ∧ ¬ p = 1 ∧ ¬ p = 2 ∧ ¬ p = 3 ∧ ¬ p = 4 ∧ ¬ p = 5 ∧ ¬ p = 6 ∧ ¬ p = 7) : am_M (d + 3) false nm_X12_total [aR 108, aI p] M (am_q1 (aI (-1)) (th0 M)) := by
  obtain ⟨p0, p1, p2, p3, p4, p5, p6, p7⟩ := hp
  refine ⟨rfl, rfl, rfl, fun X hX => am_run hX 100 _ _ _ _ ?_⟩
  conv => whnf
  refine ⟨fun e => absurd e p0, fun _ => ?_⟩
  conv => whnf
  refine ⟨fun e => absurd e p1, fun _ => ?_⟩
  conv => whnf
  refine ⟨fun e => absurd e p2, fun _ => ?_⟩
  conv => whnf
  refine ⟨fun e => absurd e p3, fun _ => ?_⟩
  conv => whnf
  refine ⟨fun e => absurd e p4, fun _ => ?_⟩
  conv => whnf
  refine ⟨fun e => absurd e p5, fun _ => ?_⟩
  conv => whnf
  refine ⟨fun e => absurd e p6, fun _ => ?_⟩
  conv => whnf
  refine ⟨fun e => absurd e p7, fun _ => ?_⟩
  conv => whnf
  exact ⟨trivial, rfl, rfl⟩
end TOU
section TOV
variable {ac : Nat → ClassId} {lo : Nat} {ad as : Nat → Nat} {b L : Nat} {xs : Nat → Int32} {hp : mm_M → Nat → xm_H} {I J : mm_M → Prop}
theorem pr_total (H : mm_L ac lo hp) (h1 : ∀ M, I M → M.1 9 7 = M.1 108 6 ∧ M.1 0 14 = M.1 108 2 ∧ M.1 25 3 = M.1 108 81 ∧ wb_iv M ∧ ch_iv M ∧ M.1 70 13 = M.1 108 139 ∧ M.1 96 0 = M.1 141 0 ∧ M.1 96 1 = M.1 141 1) (hJ : ∀ M, I M → J (th0 M)) (p : Int32) : la_I ac lo ad as b L xs hp I J nm_X11_total nm_X12_total [.int p] := by
  refine am_la_I (us := [aI p]) H fun M hI => ?_
  have hJ := hJ M hI
  obtain ⟨e0, e1, e2, e3, ⟨g, g1, g2, g3⟩, e5, e6, e7⟩ := h1 M hI
  have fin : ∀ {v : Int32}, am_M 1000 false nm_X11_total [aR 0, aI p] M (am_q1 (aI v) M) → am_M 1000 false nm_X12_total [aR 108, aI p] M (am_q1 (aI v) (th0 M)) → am_M 1000 false nm_X11_total (aR 0 :: [aI p]) M (fun r M1 => ∃ v, r = .inl (some (aI v)) ∧ am_M 1000 false nm_X12_total (aR 108 :: [aI p]) M1 (fun r' M2 => r' = .inl (some (aI v)) ∧ J M2)) := fun {v} a c => am_wk a fun r M1 e => ⟨v, e.1, by
    rw [e.2]
    exact am_wk c fun r M2 e => ⟨e.1, by rw [e.2]; exact hJ⟩⟩
  by_cases q0 : p = 0
  · subst q0
    exact fin (tx_0 (d := 997)) (by rw [e0]; exact tr_0 (d := 997))
  by_cases q1 : p = 1
  · subst q1
    exact fin (tx_1 (d := 997)) (by rw [e1]; exact tr_1 (d := 997))
  by_cases q2 : p = 2
  · subst q2
    exact fin (tx_2 (d := 997)) (by rw [e2]; exact tr_2 (d := 997))
  by_cases q3 : p = 3
  · subst q3
    rcases e3 with ⟨z1, z2⟩ | ⟨m, T, ph, E, h⟩
    · exact fin (tx_3z (d := 997) z1) (tr_3z (d := 997) z2)
    · by_cases z : M.1 39 6 = 0
      · have m0 : m = 0 := by
          have := h.1
          have y := h.2.2.1
          rw [z] at y
          exact ((nI_eq (a := 0) (by decide) (by omega)).mp y).symm
        have s0 : sm (fun i => if T i = true then 1 else 0) 60 = 0 := sm_z0 60 (fun t _ => if_neg (fun y => by have := h.2.1 t y; omega))
        exact fin (tx_3z (d := 997) z) (by rw [← s0]; exact tr_3 (d := 997) h.2.2.2.1 h.2.2.2.2.2.1)
      · exact fin (tx_3 (d := 997) z) (by rw [tc_3 h]; exact tr_3 (d := 997) h.2.2.2.1 h.2.2.2.2.2.1)
  by_cases q4 : p = 4
  · subst q4
    exact fin (tx_4 (d := 997) g1 g2) (by rw [pc_sm (k := 15) (by decide) g1, ← ch_s]; exact tr_4 (d := 997) g3)
  by_cases q5 : p = 5
  · subst q5
    exact fin (tx_5 (d := 997)) (by rw [e5]; exact tr_5 (d := 997))
  by_cases q6 : p = 6
  · subst q6
    exact fin (tx_6 (d := 997)) (by rw [e6]; exact tr_6 (d := 997))
  by_cases q7 : p = 7
  · subst q7
    exact fin (tx_7 (d := 997)) (by rw [e7]; exact tr_7 (d := 997))
  exact fin (tx_n (d := 997) ⟨q0, q1, q2, q3, q4, q5, q6, q7⟩) (tr_n (d := 997) ⟨q0, q1, q2, q3, q4, q5, q6, q7⟩)
end TOV
