/-! the law: from its entry to its loop -/
set_option maxRecDepth 100000 in
set_option maxHeartbeats 4000000 in
theorem xl_owed_of {ac : Nat → ClassId} {lo : Nat} {ad as : Nat → Nat} {b L : Nat} {xs : Nat → Int32} (hL : L ≤ 384) (I : Nat → mm_M → Prop) (h0 : I 0 mm_0) (hd : ∀ n M, I n M → I (n + 1) M) (hy : ∀ hp, mm_L ac lo hp → ∀ n, 6 * n + 6 ≤ L → la_Hyp ac lo ad as b L xs hp I n) : xl_Owed ac lo ad as (b, L, xs) := by
  intro X hX
  have hF := mm_fresh ac lo
  have H := xh_is
  generalize xh = hl at H hF ⊢
  refine xm_run hX 13 _ _ _ _ _ _ ?_
  conv => whnf
  refine ⟨Nat.le_of_ble_eq_true rfl, Nat.le_of_ble_eq_true rfl, ?_⟩
  rw [H.2.2.1, H.2.1]
  simp only [List.cons_append, List.nil_append, List.length_cons, List.length_nil, Nat.reduceAdd, List.set_cons_zero, List.set_cons_succ, List.take_succ_cons, List.take_zero, Nat.add_assoc, xp_dfl]
  conv => whnf
  refine ⟨rfl, ?_⟩
  conv => whnf
  refine xw0 107 32999 (Nat.le_of_ble_eq_true rfl) (Nat.le_of_ble_eq_true rfl) (Nat.le_of_ble_eq_true rfl) (ct_X11_init H _ (Nat.le_refl _)) ?_
  conv => whnf
  refine ⟨Nat.le_of_ble_eq_true rfl, ?_⟩
  conv => whnf
  refine ⟨Nat.le_of_ble_eq_true rfl, Nat.le_of_ble_eq_true rfl, ?_⟩
  rw [H.2.2.1, H.2.1]
  simp only [List.cons_append, List.nil_append, List.length_cons, List.length_nil, Nat.reduceAdd, List.set_cons_zero, List.set_cons_succ, List.take_succ_cons, List.take_zero, Nat.add_assoc, xp_dfl]
  conv => whnf
  refine ⟨rfl, ?_⟩
  conv => whnf
  refine xw0 93 1487673 (Nat.le_of_ble_eq_true rfl) (Nat.le_of_ble_eq_true rfl) (Nat.le_of_ble_eq_true rfl) (by rw [xh_td H 108 (Nat.le_of_ble_eq_true rfl)]; exact ct_X12_init H _ (Nat.le_add_right _ _)) ?_
  rw [xh_bk H 108 (Nat.le_of_ble_eq_true rfl)]
  simp only [List.cons_append, List.nil_append, List.length_cons, List.length_nil, Nat.reduceAdd, List.set_cons_zero, List.set_cons_succ, List.take_succ_cons, List.take_zero, Nat.add_assoc, xp_dfl]
  conv => whnf
  refine ⟨Nat.le_of_ble_eq_true rfl, ?_⟩
  conv => whnf
  refine ⟨by decide, by decide, Nat.le_of_ble_eq_true rfl, Nat.le_of_ble_eq_true rfl, ?_⟩
  dsimp only [xm_new]
  rw [H.2.2.1, H.2.1]
  simp only [List.cons_append, List.nil_append, List.length_cons, List.length_nil, Nat.reduceAdd, List.set_cons_zero, List.set_cons_succ, List.take_succ_cons, List.take_zero, Nat.add_assoc, xp_dfl]
  conv => whnf
  refine ⟨Nat.le_of_ble_eq_true rfl, ?_⟩
  conv => whnf
  refine ⟨Nat.le_of_ble_eq_true rfl, ?_⟩
  conv => whnf
  show X 23 _ [] (hl (fun _ => none) lo (mm_cs ac lo)) _ _
  rw [hF]
  exact la_head (mm_is ac lo) hL hX I hd (hy _ (mm_is ac lo)) 64 0 mm_0 _ _ _ none none none (by omega) (by omega) h0 (Nat.le_of_ble_eq_true rfl) (Nat.le_of_ble_eq_true rfl)
