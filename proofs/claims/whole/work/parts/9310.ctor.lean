/-! the constructors: what they leave behind -/
section CT
variable {ac : Nat → ClassId} {lo : Nat} {sv : xm_V} {hl : (Nat → Option va_E) → Nat → List va_E → xm_H}
set_option maxRecDepth 100000 in
theorem ct_X5_init (H : xh_L hl) (d : Nat) {g : Nat → Option va_E} {b : Nat} (hb : lo ≤ b) : xm_M xp ac lo xp_fty xp_dfl sv (d + 1) nm_X5_init [.ref (b + 0)] (hl g b [.inr (5, [.null, .null, .null, .null, .null, .null, .null, .int 0, .int 0, .int 0, .int 0, .int 0, .int 0, .int 0, .int 0, .int 0, .int 0, .int 0, .int 0, .int 0])]) 6 1520 (xq0 (hl g b [.inr (5, [.ref (b + 1), .ref (b + 2), .ref (b + 3), .ref (b + 4), .ref (b + 5), .ref (b + 6), .null, .int 0, .int 0, .int 0, .int 0, .int 0, .int 0, .int 0, .int 0, .int 0, .int 0, .int 0, .int 0, .int 0]), .inl (ac 0, 300, .inl (fun _ => 0)), .inl (ac 0, 1200, .inl (fun _ => 0)), .inl (ac 0, 4, .inl (fun _ => 0)), .inl (ac 0, 4, .inl (fun _ => 0)), .inl (ac 0, 8, .inl (fun _ => 0)), .inl (ac 0, 4, .inl (fun _ => 0))])) := by
  refine ⟨rfl, Nat.le_of_ble_eq_true rfl, Nat.le_of_ble_eq_true rfl, fun X hX => xm_run hX 1000 _ _ _ _ _ _ ?_⟩
  conv => whnf
  refine ⟨rfl, Nat.le_of_ble_eq_true rfl, ?_⟩
  conv => whnf
  refine ⟨by decide, by decide, Nat.le_of_ble_eq_true rfl, Nat.le_of_ble_eq_true rfl, ?_⟩
  dsimp only [xm_new]
  rw [H.2.2.1, H.2.1]
  simp only [List.cons_append, List.nil_append, List.length_cons, List.length_nil, Nat.reduceAdd, List.set_cons_zero, List.set_cons_succ, List.take_succ_cons, List.take_zero, Nat.add_assoc, xp_dfl]
  conv => whnf
  rw [H.1]
  conv => whnf
  refine ⟨rfl, Nat.le_trans hb (Nat.le_add_right _ _), Nat.le_of_ble_eq_true rfl, ⟨rfl, rfl⟩, ?_⟩
  rw [H.2.2.2.1 _ _ _ _ _ (Nat.le_of_ble_eq_true rfl)]
  simp only [List.cons_append, List.nil_append, List.length_cons, List.length_nil, Nat.reduceAdd, List.set_cons_zero, List.set_cons_succ, List.take_succ_cons, List.take_zero, Nat.add_assoc, xp_dfl]
  conv => whnf
  refine ⟨by decide, by decide, Nat.le_of_ble_eq_true rfl, Nat.le_of_ble_eq_true rfl, ?_⟩
  dsimp only [xm_new]
  rw [H.2.2.1, H.2.1]
  simp only [List.cons_append, List.nil_append, List.length_cons, List.length_nil, Nat.reduceAdd, List.set_cons_zero, List.set_cons_succ, List.take_succ_cons, List.take_zero, Nat.add_assoc, xp_dfl]
  conv => whnf
  rw [H.1]
  conv => whnf
  refine ⟨rfl, Nat.le_trans hb (Nat.le_add_right _ _), Nat.le_of_ble_eq_true rfl, ⟨rfl, rfl⟩, ?_⟩
  rw [H.2.2.2.1 _ _ _ _ _ (Nat.le_of_ble_eq_true rfl)]
  simp only [List.cons_append, List.nil_append, List.length_cons, List.length_nil, Nat.reduceAdd, List.set_cons_zero, List.set_cons_succ, List.take_succ_cons, List.take_zero, Nat.add_assoc, xp_dfl]
  conv => whnf
  refine ⟨by decide, by decide, Nat.le_of_ble_eq_true rfl, Nat.le_of_ble_eq_true rfl, ?_⟩
  dsimp only [xm_new]
  rw [H.2.2.1, H.2.1]
  simp only [List.cons_append, List.nil_append, List.length_cons, List.length_nil, Nat.reduceAdd, List.set_cons_zero, List.set_cons_succ, List.take_succ_cons, List.take_zero, Nat.add_assoc, xp_dfl]
  conv => whnf
  rw [H.1]
  conv => whnf
  refine ⟨rfl, Nat.le_trans hb (Nat.le_add_right _ _), Nat.le_of_ble_eq_true rfl, ⟨rfl, rfl⟩, ?_⟩
  rw [H.2.2.2.1 _ _ _ _ _ (Nat.le_of_ble_eq_true rfl)]
  simp only [List.cons_append, List.nil_append, List.length_cons, List.length_nil, Nat.reduceAdd, List.set_cons_zero, List.set_cons_succ, List.take_succ_cons, List.take_zero, Nat.add_assoc, xp_dfl]
  conv => whnf
  refine ⟨by decide, by decide, Nat.le_of_ble_eq_true rfl, Nat.le_of_ble_eq_true rfl, ?_⟩
  dsimp only [xm_new]
  rw [H.2.2.1, H.2.1]
  simp only [List.cons_append, List.nil_append, List.length_cons, List.length_nil, Nat.reduceAdd, List.set_cons_zero, List.set_cons_succ, List.take_succ_cons, List.take_zero, Nat.add_assoc, xp_dfl]
  conv => whnf
  rw [H.1]
  conv => whnf
  refine ⟨rfl, Nat.le_trans hb (Nat.le_add_right _ _), Nat.le_of_ble_eq_true rfl, ⟨rfl, rfl⟩, ?_⟩
  rw [H.2.2.2.1 _ _ _ _ _ (Nat.le_of_ble_eq_true rfl)]
  simp only [List.cons_append, List.nil_append, List.length_cons, List.length_nil, Nat.reduceAdd, List.set_cons_zero, List.set_cons_succ, List.take_succ_cons, List.take_zero, Nat.add_assoc, xp_dfl]
  conv => whnf
  refine ⟨by decide, by decide, Nat.le_of_ble_eq_true rfl, Nat.le_of_ble_eq_true rfl, ?_⟩
  dsimp only [xm_new]
  rw [H.2.2.1, H.2.1]
  simp only [List.cons_append, List.nil_append, List.length_cons, List.length_nil, Nat.reduceAdd, List.set_cons_zero, List.set_cons_succ, List.take_succ_cons, List.take_zero, Nat.add_assoc, xp_dfl]
  conv => whnf
  rw [H.1]
  conv => whnf
  refine ⟨rfl, Nat.le_trans hb (Nat.le_add_right _ _), Nat.le_of_ble_eq_true rfl, ⟨rfl, rfl⟩, ?_⟩
  rw [H.2.2.2.1 _ _ _ _ _ (Nat.le_of_ble_eq_true rfl)]
  simp only [List.cons_append, List.nil_append, List.length_cons, List.length_nil, Nat.reduceAdd, List.set_cons_zero, List.set_cons_succ, List.take_succ_cons, List.take_zero, Nat.add_assoc, xp_dfl]
  conv => whnf
  refine ⟨by decide, by decide, Nat.le_of_ble_eq_true rfl, Nat.le_of_ble_eq_true rfl, ?_⟩
  dsimp only [xm_new]
  rw [H.2.2.1, H.2.1]
  simp only [List.cons_append, List.nil_append, List.length_cons, List.length_nil, Nat.reduceAdd, List.set_cons_zero, List.set_cons_succ, List.take_succ_cons, List.take_zero, Nat.add_assoc, xp_dfl]
  conv => whnf
  rw [H.1]
  conv => whnf
  refine ⟨rfl, Nat.le_trans hb (Nat.le_add_right _ _), Nat.le_of_ble_eq_true rfl, ⟨rfl, rfl⟩, ?_⟩
  rw [H.2.2.2.1 _ _ _ _ _ (Nat.le_of_ble_eq_true rfl)]
  simp only [List.cons_append, List.nil_append, List.length_cons, List.length_nil, Nat.reduceAdd, List.set_cons_zero, List.set_cons_succ, List.take_succ_cons, List.take_zero, Nat.add_assoc, xp_dfl]
  conv => whnf
  exact ⟨rfl, rfl, rfl⟩
set_option maxRecDepth 100000 in
theorem ct_X0_init (H : xh_L hl) (d : Nat) {g : Nat → Option va_E} {b : Nat} (hb : lo ≤ b) : xm_M xp ac lo xp_fty xp_dfl sv (d + 1) nm_X0_init [.ref (b + 0)] (hl g b [.inr (0, [.null, .null, .null, .null, .null, .null, .null, .int 0, .int 0, .int 0])]) 7 6668 (xq0 (hl g b [.inr (0, [.ref (b + 1), .ref (b + 2), .ref (b + 3), .ref (b + 4), .ref (b + 5), .ref (b + 6), .ref (b + 7), .int 0, .int 0, .int 0]), .inl (ac 0, 6000, .inl (fun _ => 0)), .inl (ac 0, 20, .inl (fun _ => 0)), .inl (ac 0, 20, .inl (fun _ => 0)), .inl (ac 0, 300, .inl (fun _ => 0)), .inl (ac 4, 64, .inl (fun _ => 0)), .inl (ac 0, 8, .inl (fun _ => 0)), .inl (ac 0, 256, .inl (fun _ => 0))])) := by
  refine ⟨rfl, Nat.le_of_ble_eq_true rfl, Nat.le_of_ble_eq_true rfl, fun X hX => xm_run hX 1000 _ _ _ _ _ _ ?_⟩
  conv => whnf
  refine ⟨rfl, Nat.le_of_ble_eq_true rfl, ?_⟩
  conv => whnf
  refine ⟨by decide, by decide, Nat.le_of_ble_eq_true rfl, Nat.le_of_ble_eq_true rfl, ?_⟩
  dsimp only [xm_new]
  rw [H.2.2.1, H.2.1]
  simp only [List.cons_append, List.nil_append, List.length_cons, List.length_nil, Nat.reduceAdd, List.set_cons_zero, List.set_cons_succ, List.take_succ_cons, List.take_zero, Nat.add_assoc, xp_dfl]
  conv => whnf
  rw [H.1]
  conv => whnf
  refine ⟨rfl, Nat.le_trans hb (Nat.le_add_right _ _), Nat.le_of_ble_eq_true rfl, ⟨rfl, rfl⟩, ?_⟩
  rw [H.2.2.2.1 _ _ _ _ _ (Nat.le_of_ble_eq_true rfl)]
  simp only [List.cons_append, List.nil_append, List.length_cons, List.length_nil, Nat.reduceAdd, List.set_cons_zero, List.set_cons_succ, List.take_succ_cons, List.take_zero, Nat.add_assoc, xp_dfl]
  conv => whnf
  refine ⟨by decide, by decide, Nat.le_of_ble_eq_true rfl, Nat.le_of_ble_eq_true rfl, ?_⟩
  dsimp only [xm_new]
  rw [H.2.2.1, H.2.1]
  simp only [List.cons_append, List.nil_append, List.length_cons, List.length_nil, Nat.reduceAdd, List.set_cons_zero, List.set_cons_succ, List.take_succ_cons, List.take_zero, Nat.add_assoc, xp_dfl]
  conv => whnf
  rw [H.1]
  conv => whnf
  refine ⟨rfl, Nat.le_trans hb (Nat.le_add_right _ _), Nat.le_of_ble_eq_true rfl, ⟨rfl, rfl⟩, ?_⟩
  rw [H.2.2.2.1 _ _ _ _ _ (Nat.le_of_ble_eq_true rfl)]
  simp only [List.cons_append, List.nil_append, List.length_cons, List.length_nil, Nat.reduceAdd, List.set_cons_zero, List.set_cons_succ, List.take_succ_cons, List.take_zero, Nat.add_assoc, xp_dfl]
  conv => whnf
  refine ⟨by decide, by decide, Nat.le_of_ble_eq_true rfl, Nat.le_of_ble_eq_true rfl, ?_⟩
  dsimp only [xm_new]
  rw [H.2.2.1, H.2.1]
  simp only [List.cons_append, List.nil_append, List.length_cons, List.length_nil, Nat.reduceAdd, List.set_cons_zero, List.set_cons_succ, List.take_succ_cons, List.take_zero, Nat.add_assoc, xp_dfl]
  conv => whnf
  rw [H.1]
  conv => whnf
  refine ⟨rfl, Nat.le_trans hb (Nat.le_add_right _ _), Nat.le_of_ble_eq_true rfl, ⟨rfl, rfl⟩, ?_⟩
  rw [H.2.2.2.1 _ _ _ _ _ (Nat.le_of_ble_eq_true rfl)]
  simp only [List.cons_append, List.nil_append, List.length_cons, List.length_nil, Nat.reduceAdd, List.set_cons_zero, List.set_cons_succ, List.take_succ_cons, List.take_zero, Nat.add_assoc, xp_dfl]
  conv => whnf
  refine ⟨by decide, by decide, Nat.le_of_ble_eq_true rfl, Nat.le_of_ble_eq_true rfl, ?_⟩
  dsimp only [xm_new]
  rw [H.2.2.1, H.2.1]
  simp only [List.cons_append, List.nil_append, List.length_cons, List.length_nil, Nat.reduceAdd, List.set_cons_zero, List.set_cons_succ, List.take_succ_cons, List.take_zero, Nat.add_assoc, xp_dfl]
  conv => whnf
  rw [H.1]
  conv => whnf
  refine ⟨rfl, Nat.le_trans hb (Nat.le_add_right _ _), Nat.le_of_ble_eq_true rfl, ⟨rfl, rfl⟩, ?_⟩
  rw [H.2.2.2.1 _ _ _ _ _ (Nat.le_of_ble_eq_true rfl)]
  simp only [List.cons_append, List.nil_append, List.length_cons, List.length_nil, Nat.reduceAdd, List.set_cons_zero, List.set_cons_succ, List.take_succ_cons, List.take_zero, Nat.add_assoc, xp_dfl]
  conv => whnf
  refine ⟨by decide, by decide, Nat.le_of_ble_eq_true rfl, Nat.le_of_ble_eq_true rfl, ?_⟩
  dsimp only [xm_new]
  rw [H.2.2.1, H.2.1]
  simp only [List.cons_append, List.nil_append, List.length_cons, List.length_nil, Nat.reduceAdd, List.set_cons_zero, List.set_cons_succ, List.take_succ_cons, List.take_zero, Nat.add_assoc, xp_dfl]
  conv => whnf
  rw [H.1]
  conv => whnf
  refine ⟨rfl, Nat.le_trans hb (Nat.le_add_right _ _), Nat.le_of_ble_eq_true rfl, ⟨rfl, rfl⟩, ?_⟩
  rw [H.2.2.2.1 _ _ _ _ _ (Nat.le_of_ble_eq_true rfl)]
  simp only [List.cons_append, List.nil_append, List.length_cons, List.length_nil, Nat.reduceAdd, List.set_cons_zero, List.set_cons_succ, List.take_succ_cons, List.take_zero, Nat.add_assoc, xp_dfl]
  conv => whnf
  refine ⟨by decide, by decide, Nat.le_of_ble_eq_true rfl, Nat.le_of_ble_eq_true rfl, ?_⟩
  dsimp only [xm_new]
  rw [H.2.2.1, H.2.1]
  simp only [List.cons_append, List.nil_append, List.length_cons, List.length_nil, Nat.reduceAdd, List.set_cons_zero, List.set_cons_succ, List.take_succ_cons, List.take_zero, Nat.add_assoc, xp_dfl]
  conv => whnf
  rw [H.1]
  conv => whnf
  refine ⟨rfl, Nat.le_trans hb (Nat.le_add_right _ _), Nat.le_of_ble_eq_true rfl, ⟨rfl, rfl⟩, ?_⟩
  rw [H.2.2.2.1 _ _ _ _ _ (Nat.le_of_ble_eq_true rfl)]
  simp only [List.cons_append, List.nil_append, List.length_cons, List.length_nil, Nat.reduceAdd, List.set_cons_zero, List.set_cons_succ, List.take_succ_cons, List.take_zero, Nat.add_assoc, xp_dfl]
  conv => whnf
  refine ⟨by decide, by decide, Nat.le_of_ble_eq_true rfl, Nat.le_of_ble_eq_true rfl, ?_⟩
  dsimp only [xm_new]
  rw [H.2.2.1, H.2.1]
  simp only [List.cons_append, List.nil_append, List.length_cons, List.length_nil, Nat.reduceAdd, List.set_cons_zero, List.set_cons_succ, List.take_succ_cons, List.take_zero, Nat.add_assoc, xp_dfl]
  conv => whnf
  rw [H.1]
  conv => whnf
  refine ⟨rfl, Nat.le_trans hb (Nat.le_add_right _ _), Nat.le_of_ble_eq_true rfl, ⟨rfl, rfl⟩, ?_⟩
  rw [H.2.2.2.1 _ _ _ _ _ (Nat.le_of_ble_eq_true rfl)]
  simp only [List.cons_append, List.nil_append, List.length_cons, List.length_nil, Nat.reduceAdd, List.set_cons_zero, List.set_cons_succ, List.take_succ_cons, List.take_zero, Nat.add_assoc, xp_dfl]
  conv => whnf
  rw [H.1]
  conv => whnf
  refine ⟨rfl, Nat.le_trans hb (Nat.le_add_right _ _), Nat.le_of_ble_eq_true rfl, ⟨rfl, rfl⟩, ?_⟩
  rw [H.2.2.2.1 _ _ _ _ _ (Nat.le_of_ble_eq_true rfl)]
  simp only [List.cons_append, List.nil_append, List.length_cons, List.length_nil, Nat.reduceAdd, List.set_cons_zero, List.set_cons_succ, List.take_succ_cons, List.take_zero, Nat.add_assoc, xp_dfl]
  conv => whnf
  rw [H.1]
  conv => whnf
  refine ⟨rfl, Nat.le_trans hb (Nat.le_add_right _ _), Nat.le_of_ble_eq_true rfl, ⟨rfl, rfl⟩, ?_⟩
  rw [H.2.2.2.1 _ _ _ _ _ (Nat.le_of_ble_eq_true rfl)]
  simp only [List.cons_append, List.nil_append, List.length_cons, List.length_nil, Nat.reduceAdd, List.set_cons_zero, List.set_cons_succ, List.take_succ_cons, List.take_zero, Nat.add_assoc, xp_dfl]
  conv => whnf
  rw [H.1]
  conv => whnf
  refine ⟨rfl, Nat.le_trans hb (Nat.le_add_right _ _), Nat.le_of_ble_eq_true rfl, ⟨rfl, rfl⟩, ?_⟩
  rw [H.2.2.2.1 _ _ _ _ _ (Nat.le_of_ble_eq_true rfl)]
  simp only [List.cons_append, List.nil_append, List.length_cons, List.length_nil, Nat.reduceAdd, List.set_cons_zero, List.set_cons_succ, List.take_succ_cons, List.take_zero, Nat.add_assoc, xp_dfl]
  conv => whnf
  exact ⟨rfl, rfl, rfl⟩
set_option maxRecDepth 100000 in
theorem ct_X6_init_256 (H : xh_L hl) (d : Nat) {g : Nat → Option va_E} {b : Nat} (hb : lo ≤ b) : xm_M xp ac lo xp_fty xp_dfl sv (d + 1) nm_X6_init [.ref (b + 0), .int 256] (hl g b [.inr (6, [.null, .null, .int 0, .int 0])]) 2 1028 (xq0 (hl g b [.inr (6, [.ref (b + 2), .ref (b + 1), .int 1, .int 0]), .inl (ac 1, 4, .inr (.inl (fun _ => 0))), .inl (ac 1, 1024, .inr (.inl (fun _ => 0)))])) := by
  refine ⟨rfl, Nat.le_of_ble_eq_true rfl, Nat.le_of_ble_eq_true rfl, fun X hX => xm_run hX 1000 _ _ _ _ _ _ ?_⟩
  conv => whnf
  refine ⟨rfl, Nat.le_of_ble_eq_true rfl, ?_⟩
  conv => whnf
  refine ⟨by decide, by decide, Nat.le_of_ble_eq_true rfl, Nat.le_of_ble_eq_true rfl, ?_⟩
  dsimp only [xm_new]
  rw [H.2.2.1, H.2.1]
  simp only [List.cons_append, List.nil_append, List.length_cons, List.length_nil, Nat.reduceAdd, List.set_cons_zero, List.set_cons_succ, List.take_succ_cons, List.take_zero, Nat.add_assoc, xp_dfl]
  conv => whnf
  rw [H.1]
  conv => whnf
  refine ⟨rfl, Nat.le_trans hb (Nat.le_add_right _ _), Nat.le_of_ble_eq_true rfl, ⟨rfl, rfl⟩, ?_⟩
  rw [H.2.2.2.1 _ _ _ _ _ (Nat.le_of_ble_eq_true rfl)]
  simp only [List.cons_append, List.nil_append, List.length_cons, List.length_nil, Nat.reduceAdd, List.set_cons_zero, List.set_cons_succ, List.take_succ_cons, List.take_zero, Nat.add_assoc, xp_dfl]
  conv => whnf
  rw [H.1]
  conv => whnf
  refine ⟨rfl, Nat.le_trans hb (Nat.le_add_right _ _), Nat.le_of_ble_eq_true rfl, ⟨rfl, rfl⟩, ?_⟩
  rw [H.2.2.2.1 _ _ _ _ _ (Nat.le_of_ble_eq_true rfl)]
  simp only [List.cons_append, List.nil_append, List.length_cons, List.length_nil, Nat.reduceAdd, List.set_cons_zero, List.set_cons_succ, List.take_succ_cons, List.take_zero, Nat.add_assoc, xp_dfl]
  conv => whnf
  rw [H.1]
  conv => whnf
  refine ⟨rfl, Nat.le_trans hb (Nat.le_add_right _ _), Nat.le_of_ble_eq_true rfl, ⟨rfl, rfl⟩, ?_⟩
  rw [H.2.2.2.1 _ _ _ _ _ (Nat.le_of_ble_eq_true rfl)]
  simp only [List.cons_append, List.nil_append, List.length_cons, List.length_nil, Nat.reduceAdd, List.set_cons_zero, List.set_cons_succ, List.take_succ_cons, List.take_zero, Nat.add_assoc, xp_dfl]
  conv => whnf
  refine ⟨by decide, by decide, Nat.le_of_ble_eq_true rfl, Nat.le_of_ble_eq_true rfl, ?_⟩
  dsimp only [xm_new]
  rw [H.2.2.1, H.2.1]
  simp only [List.cons_append, List.nil_append, List.length_cons, List.length_nil, Nat.reduceAdd, List.set_cons_zero, List.set_cons_succ, List.take_succ_cons, List.take_zero, Nat.add_assoc, xp_dfl]
  conv => whnf
  rw [H.1]
  conv => whnf
  refine ⟨rfl, Nat.le_trans hb (Nat.le_add_right _ _), Nat.le_of_ble_eq_true rfl, ⟨rfl, rfl⟩, ?_⟩
  rw [H.2.2.2.1 _ _ _ _ _ (Nat.le_of_ble_eq_true rfl)]
  simp only [List.cons_append, List.nil_append, List.length_cons, List.length_nil, Nat.reduceAdd, List.set_cons_zero, List.set_cons_succ, List.take_succ_cons, List.take_zero, Nat.add_assoc, xp_dfl]
  conv => whnf
  exact ⟨rfl, rfl, rfl⟩
set_option maxRecDepth 100000 in
theorem ct_X4_init (H : xh_L hl) (d : Nat) {g : Nat → Option va_E} {b : Nat} (hb : lo ≤ b) : xm_M xp ac lo xp_fty xp_dfl sv (d + 2) nm_X4_init [.ref (b + 0)] (hl g b [.inr (4, [.null, .null, .null, .null, .null, .int 0, .int 0, .int 0, .int 0, .int 0, .int 0, .long 0])]) 7 1576 (xq0 (hl g b [.inr (4, [.ref (b + 1), .ref (b + 4), .ref (b + 5), .ref (b + 6), .ref (b + 7), .int (-1), .int 0, .int 0, .int 0, .int 0, .int (-1), .long 0]), .inr (6, [.ref (b + 3), .ref (b + 2), .int 1, .int 0]), .inl (ac 1, 4, .inr (.inl (fun _ => 0))), .inl (ac 1, 1024, .inr (.inl (fun _ => 0))), .inl (ac 0, 16, .inl (fun _ => 0)), .inl (ac 0, 16, .inl (fun _ => 0)), .inl (ac 0, 256, .inl (fun _ => 0)), .inl (ac 0, 256, .inl (fun _ => 0))])) := by
  refine ⟨rfl, Nat.le_of_ble_eq_true rfl, Nat.le_of_ble_eq_true rfl, fun X hX => xm_run hX 1000 _ _ _ _ _ _ ?_⟩
  conv => whnf
  refine ⟨rfl, Nat.le_of_ble_eq_true rfl, ?_⟩
  conv => whnf
  refine ⟨Nat.le_of_ble_eq_true rfl, Nat.le_of_ble_eq_true rfl, ?_⟩
  rw [H.2.2.1, H.2.1]
  simp only [List.cons_append, List.nil_append, List.length_cons, List.length_nil, Nat.reduceAdd, List.set_cons_zero, List.set_cons_succ, List.take_succ_cons, List.take_zero, Nat.add_assoc, xp_dfl]
  conv => whnf
  refine ⟨rfl, ?_⟩
  conv => whnf
  refine xw0 2 1028 (Nat.le_of_ble_eq_true rfl) (Nat.le_of_ble_eq_true rfl) (Nat.le_of_ble_eq_true rfl) (by rw [xh_td H 1 (Nat.le_of_ble_eq_true rfl)]; exact ct_X6_init_256 H _ (Nat.le_trans hb (Nat.le_add_right _ _))) ?_
  rw [xh_bk H 1 (Nat.le_of_ble_eq_true rfl)]
  simp only [List.cons_append, List.nil_append, List.length_cons, List.length_nil, Nat.reduceAdd, List.set_cons_zero, List.set_cons_succ, List.take_succ_cons, List.take_zero, Nat.add_assoc, xp_dfl]
  conv => whnf
  rw [H.1]
  conv => whnf
  refine ⟨rfl, Nat.le_trans hb (Nat.le_add_right _ _), Nat.le_of_ble_eq_true rfl, ⟨rfl, rfl⟩, ?_⟩
  rw [H.2.2.2.1 _ _ _ _ _ (Nat.le_of_ble_eq_true rfl)]
  simp only [List.cons_append, List.nil_append, List.length_cons, List.length_nil, Nat.reduceAdd, List.set_cons_zero, List.set_cons_succ, List.take_succ_cons, List.take_zero, Nat.add_assoc, xp_dfl]
  conv => whnf
  refine ⟨by decide, by decide, Nat.le_of_ble_eq_true rfl, Nat.le_of_ble_eq_true rfl, ?_⟩
  dsimp only [xm_new]
  rw [H.2.2.1, H.2.1]
  simp only [List.cons_append, List.nil_append, List.length_cons, List.length_nil, Nat.reduceAdd, List.set_cons_zero, List.set_cons_succ, List.take_succ_cons, List.take_zero, Nat.add_assoc, xp_dfl]
  conv => whnf
  rw [H.1]
  conv => whnf
  refine ⟨rfl, Nat.le_trans hb (Nat.le_add_right _ _), Nat.le_of_ble_eq_true rfl, ⟨rfl, rfl⟩, ?_⟩
  rw [H.2.2.2.1 _ _ _ _ _ (Nat.le_of_ble_eq_true rfl)]
  simp only [List.cons_append, List.nil_append, List.length_cons, List.length_nil, Nat.reduceAdd, List.set_cons_zero, List.set_cons_succ, List.take_succ_cons, List.take_zero, Nat.add_assoc, xp_dfl]
  conv => whnf
  refine ⟨by decide, by decide, Nat.le_of_ble_eq_true rfl, Nat.le_of_ble_eq_true rfl, ?_⟩
  dsimp only [xm_new]
  rw [H.2.2.1, H.2.1]
  simp only [List.cons_append, List.nil_append, List.length_cons, List.length_nil, Nat.reduceAdd, List.set_cons_zero, List.set_cons_succ, List.take_succ_cons, List.take_zero, Nat.add_assoc, xp_dfl]
  conv => whnf
  rw [H.1]
  conv => whnf
  refine ⟨rfl, Nat.le_trans hb (Nat.le_add_right _ _), Nat.le_of_ble_eq_true rfl, ⟨rfl, rfl⟩, ?_⟩
  rw [H.2.2.2.1 _ _ _ _ _ (Nat.le_of_ble_eq_true rfl)]
  simp only [List.cons_append, List.nil_append, List.length_cons, List.length_nil, Nat.reduceAdd, List.set_cons_zero, List.set_cons_succ, List.take_succ_cons, List.take_zero, Nat.add_assoc, xp_dfl]
  conv => whnf
  refine ⟨by decide, by decide, Nat.le_of_ble_eq_true rfl, Nat.le_of_ble_eq_true rfl, ?_⟩
  dsimp only [xm_new]
  rw [H.2.2.1, H.2.1]
  simp only [List.cons_append, List.nil_append, List.length_cons, List.length_nil, Nat.reduceAdd, List.set_cons_zero, List.set_cons_succ, List.take_succ_cons, List.take_zero, Nat.add_assoc, xp_dfl]
  conv => whnf
  rw [H.1]
  conv => whnf
  refine ⟨rfl, Nat.le_trans hb (Nat.le_add_right _ _), Nat.le_of_ble_eq_true rfl, ⟨rfl, rfl⟩, ?_⟩
  rw [H.2.2.2.1 _ _ _ _ _ (Nat.le_of_ble_eq_true rfl)]
  simp only [List.cons_append, List.nil_append, List.length_cons, List.length_nil, Nat.reduceAdd, List.set_cons_zero, List.set_cons_succ, List.take_succ_cons, List.take_zero, Nat.add_assoc, xp_dfl]
  conv => whnf
  refine ⟨by decide, by decide, Nat.le_of_ble_eq_true rfl, Nat.le_of_ble_eq_true rfl, ?_⟩
  dsimp only [xm_new]
  rw [H.2.2.1, H.2.1]
  simp only [List.cons_append, List.nil_append, List.length_cons, List.length_nil, Nat.reduceAdd, List.set_cons_zero, List.set_cons_succ, List.take_succ_cons, List.take_zero, Nat.add_assoc, xp_dfl]
  conv => whnf
  rw [H.1]
  conv => whnf
  refine ⟨rfl, Nat.le_trans hb (Nat.le_add_right _ _), Nat.le_of_ble_eq_true rfl, ⟨rfl, rfl⟩, ?_⟩
  rw [H.2.2.2.1 _ _ _ _ _ (Nat.le_of_ble_eq_true rfl)]
  simp only [List.cons_append, List.nil_append, List.length_cons, List.length_nil, Nat.reduceAdd, List.set_cons_zero, List.set_cons_succ, List.take_succ_cons, List.take_zero, Nat.add_assoc, xp_dfl]
  conv => whnf
  rw [H.1]
  conv => whnf
  refine ⟨rfl, Nat.le_trans hb (Nat.le_add_right _ _), Nat.le_of_ble_eq_true rfl, ⟨rfl, rfl⟩, ?_⟩
  rw [H.2.2.2.1 _ _ _ _ _ (Nat.le_of_ble_eq_true rfl)]
  simp only [List.cons_append, List.nil_append, List.length_cons, List.length_nil, Nat.reduceAdd, List.set_cons_zero, List.set_cons_succ, List.take_succ_cons, List.take_zero, Nat.add_assoc, xp_dfl]
  conv => whnf
  rw [H.1]
  conv => whnf
  refine ⟨rfl, Nat.le_trans hb (Nat.le_add_right _ _), Nat.le_of_ble_eq_true rfl, ⟨rfl, rfl⟩, ?_⟩
  rw [H.2.2.2.1 _ _ _ _ _ (Nat.le_of_ble_eq_true rfl)]
  simp only [List.cons_append, List.nil_append, List.length_cons, List.length_nil, Nat.reduceAdd, List.set_cons_zero, List.set_cons_succ, List.take_succ_cons, List.take_zero, Nat.add_assoc, xp_dfl]
  conv => whnf
  rw [H.1]
  conv => whnf
  refine ⟨rfl, Nat.le_trans hb (Nat.le_add_right _ _), Nat.le_of_ble_eq_true rfl, ⟨rfl, rfl⟩, ?_⟩
  rw [H.2.2.2.1 _ _ _ _ _ (Nat.le_of_ble_eq_true rfl)]
  simp only [List.cons_append, List.nil_append, List.length_cons, List.length_nil, Nat.reduceAdd, List.set_cons_zero, List.set_cons_succ, List.take_succ_cons, List.take_zero, Nat.add_assoc, xp_dfl]
  conv => whnf
  rw [H.1]
  conv => whnf
  refine ⟨rfl, Nat.le_trans hb (Nat.le_add_right _ _), Nat.le_of_ble_eq_true rfl, ⟨rfl, rfl⟩, ?_⟩
  rw [H.2.2.2.1 _ _ _ _ _ (Nat.le_of_ble_eq_true rfl)]
  simp only [List.cons_append, List.nil_append, List.length_cons, List.length_nil, Nat.reduceAdd, List.set_cons_zero, List.set_cons_succ, List.take_succ_cons, List.take_zero, Nat.add_assoc, xp_dfl]
  conv => whnf
  rw [H.1]
  conv => whnf
  refine ⟨rfl, Nat.le_trans hb (Nat.le_add_right _ _), Nat.le_of_ble_eq_true rfl, ⟨rfl, rfl⟩, ?_⟩
  rw [H.2.2.2.1 _ _ _ _ _ (Nat.le_of_ble_eq_true rfl)]
  simp only [List.cons_append, List.nil_append, List.length_cons, List.length_nil, Nat.reduceAdd, List.set_cons_zero, List.set_cons_succ, List.take_succ_cons, List.take_zero, Nat.add_assoc, xp_dfl]
  conv => whnf
  rw [H.1]
  conv => whnf
  refine ⟨rfl, Nat.le_trans hb (Nat.le_add_right _ _), Nat.le_of_ble_eq_true rfl, ⟨rfl, rfl⟩, ?_⟩
  rw [H.2.2.2.1 _ _ _ _ _ (Nat.le_of_ble_eq_true rfl)]
  simp only [List.cons_append, List.nil_append, List.length_cons, List.length_nil, Nat.reduceAdd, List.set_cons_zero, List.set_cons_succ, List.take_succ_cons, List.take_zero, Nat.add_assoc, xp_dfl]
  conv => whnf
  rw [H.1]
  conv => whnf
  refine ⟨rfl, Nat.le_trans hb (Nat.le_add_right _ _), Nat.le_of_ble_eq_true rfl, ⟨rfl, rfl⟩, ?_⟩
  rw [H.2.2.2.1 _ _ _ _ _ (Nat.le_of_ble_eq_true rfl)]
  simp only [List.cons_append, List.nil_append, List.length_cons, List.length_nil, Nat.reduceAdd, List.set_cons_zero, List.set_cons_succ, List.take_succ_cons, List.take_zero, Nat.add_assoc, xp_dfl]
  conv => whnf
  exact ⟨rfl, rfl, rfl⟩
set_option maxRecDepth 100000 in
theorem ct_X8_init_20 (H : xh_L hl) (d : Nat) {g : Nat → Option va_E} {b : Nat} (hb : lo ≤ b) : xm_M xp ac lo xp_fty xp_dfl sv (d + 1) nm_X8_init [.ref (b + 0), .int 20] (hl g b [.inr (8, [.null, .null, .null, .int 0, .int 0])]) 3 60 (xq0 (hl g b [.inr (8, [.ref (b + 1), .ref (b + 2), .ref (b + 3), .int 0, .int 0]), .inl (ac 0, 20, .inl (fun _ => 0)), .inl (ac 0, 20, .inl (fun _ => 0)), .inl (ac 0, 20, .inl (fun _ => 0))])) := by
  refine ⟨rfl, Nat.le_of_ble_eq_true rfl, Nat.le_of_ble_eq_true rfl, fun X hX => xm_run hX 1000 _ _ _ _ _ _ ?_⟩
  conv => whnf
  refine ⟨rfl, Nat.le_of_ble_eq_true rfl, ?_⟩
  conv => whnf
  rw [H.1]
  conv => whnf
  refine ⟨rfl, Nat.le_trans hb (Nat.le_add_right _ _), Nat.le_of_ble_eq_true rfl, ⟨rfl, rfl⟩, ?_⟩
  rw [H.2.2.2.1 _ _ _ _ _ (Nat.le_of_ble_eq_true rfl)]
  simp only [List.cons_append, List.nil_append, List.length_cons, List.length_nil, Nat.reduceAdd, List.set_cons_zero, List.set_cons_succ, List.take_succ_cons, List.take_zero, Nat.add_assoc, xp_dfl]
  conv => whnf
  rw [H.1]
  conv => whnf
  refine ⟨rfl, Nat.le_trans hb (Nat.le_add_right _ _), Nat.le_of_ble_eq_true rfl, ⟨rfl, rfl⟩, ?_⟩
  rw [H.2.2.2.1 _ _ _ _ _ (Nat.le_of_ble_eq_true rfl)]
  simp only [List.cons_append, List.nil_append, List.length_cons, List.length_nil, Nat.reduceAdd, List.set_cons_zero, List.set_cons_succ, List.take_succ_cons, List.take_zero, Nat.add_assoc, xp_dfl]
  conv => whnf
  refine ⟨by decide, by decide, Nat.le_of_ble_eq_true rfl, Nat.le_of_ble_eq_true rfl, ?_⟩
  dsimp only [xm_new]
  rw [H.2.2.1, H.2.1]
  simp only [List.cons_append, List.nil_append, List.length_cons, List.length_nil, Nat.reduceAdd, List.set_cons_zero, List.set_cons_succ, List.take_succ_cons, List.take_zero, Nat.add_assoc, xp_dfl]
  conv => whnf
  rw [H.1]
  conv => whnf
  refine ⟨rfl, Nat.le_trans hb (Nat.le_add_right _ _), Nat.le_of_ble_eq_true rfl, ⟨rfl, rfl⟩, ?_⟩
  rw [H.2.2.2.1 _ _ _ _ _ (Nat.le_of_ble_eq_true rfl)]
  simp only [List.cons_append, List.nil_append, List.length_cons, List.length_nil, Nat.reduceAdd, List.set_cons_zero, List.set_cons_succ, List.take_succ_cons, List.take_zero, Nat.add_assoc, xp_dfl]
  conv => whnf
  refine ⟨by decide, by decide, Nat.le_of_ble_eq_true rfl, Nat.le_of_ble_eq_true rfl, ?_⟩
  dsimp only [xm_new]
  rw [H.2.2.1, H.2.1]
  simp only [List.cons_append, List.nil_append, List.length_cons, List.length_nil, Nat.reduceAdd, List.set_cons_zero, List.set_cons_succ, List.take_succ_cons, List.take_zero, Nat.add_assoc, xp_dfl]
  conv => whnf
  rw [H.1]
  conv => whnf
  refine ⟨rfl, Nat.le_trans hb (Nat.le_add_right _ _), Nat.le_of_ble_eq_true rfl, ⟨rfl, rfl⟩, ?_⟩
  rw [H.2.2.2.1 _ _ _ _ _ (Nat.le_of_ble_eq_true rfl)]
  simp only [List.cons_append, List.nil_append, List.length_cons, List.length_nil, Nat.reduceAdd, List.set_cons_zero, List.set_cons_succ, List.take_succ_cons, List.take_zero, Nat.add_assoc, xp_dfl]
  conv => whnf
  refine ⟨by decide, by decide, Nat.le_of_ble_eq_true rfl, Nat.le_of_ble_eq_true rfl, ?_⟩
  dsimp only [xm_new]
  rw [H.2.2.1, H.2.1]
  simp only [List.cons_append, List.nil_append, List.length_cons, List.length_nil, Nat.reduceAdd, List.set_cons_zero, List.set_cons_succ, List.take_succ_cons, List.take_zero, Nat.add_assoc, xp_dfl]
  conv => whnf
  rw [H.1]
  conv => whnf
  refine ⟨rfl, Nat.le_trans hb (Nat.le_add_right _ _), Nat.le_of_ble_eq_true rfl, ⟨rfl, rfl⟩, ?_⟩
  rw [H.2.2.2.1 _ _ _ _ _ (Nat.le_of_ble_eq_true rfl)]
  simp only [List.cons_append, List.nil_append, List.length_cons, List.length_nil, Nat.reduceAdd, List.set_cons_zero, List.set_cons_succ, List.take_succ_cons, List.take_zero, Nat.add_assoc, xp_dfl]
  conv => whnf
  exact ⟨rfl, rfl, rfl⟩
set_option maxRecDepth 100000 in
theorem ct_X8_init_1 (H : xh_L hl) (d : Nat) {g : Nat → Option va_E} {b : Nat} (hb : lo ≤ b) : xm_M xp ac lo xp_fty xp_dfl sv (d + 1) nm_X8_init [.ref (b + 0), .int 1] (hl g b [.inr (8, [.null, .null, .null, .int 0, .int 0])]) 3 3 (xq0 (hl g b [.inr (8, [.ref (b + 1), .ref (b + 2), .ref (b + 3), .int 0, .int 0]), .inl (ac 0, 1, .inl (fun _ => 0)), .inl (ac 0, 1, .inl (fun _ => 0)), .inl (ac 0, 1, .inl (fun _ => 0))])) := by
  refine ⟨rfl, Nat.le_of_ble_eq_true rfl, Nat.le_of_ble_eq_true rfl, fun X hX => xm_run hX 1000 _ _ _ _ _ _ ?_⟩
  conv => whnf
  refine ⟨rfl, Nat.le_of_ble_eq_true rfl, ?_⟩
  conv => whnf
  rw [H.1]
  conv => whnf
  refine ⟨rfl, Nat.le_trans hb (Nat.le_add_right _ _), Nat.le_of_ble_eq_true rfl, ⟨rfl, rfl⟩, ?_⟩
  rw [H.2.2.2.1 _ _ _ _ _ (Nat.le_of_ble_eq_true rfl)]
  simp only [List.cons_append, List.nil_append, List.length_cons, List.length_nil, Nat.reduceAdd, List.set_cons_zero, List.set_cons_succ, List.take_succ_cons, List.take_zero, Nat.add_assoc, xp_dfl]
  conv => whnf
  rw [H.1]
  conv => whnf
  refine ⟨rfl, Nat.le_trans hb (Nat.le_add_right _ _), Nat.le_of_ble_eq_true rfl, ⟨rfl, rfl⟩, ?_⟩
  rw [H.2.2.2.1 _ _ _ _ _ (Nat.le_of_ble_eq_true rfl)]
  simp only [List.cons_append, List.nil_append, List.length_cons, List.length_nil, Nat.reduceAdd, List.set_cons_zero, List.set_cons_succ, List.take_succ_cons, List.take_zero, Nat.add_assoc, xp_dfl]
  conv => whnf
  refine ⟨by decide, by decide, Nat.le_of_ble_eq_true rfl, Nat.le_of_ble_eq_true rfl, ?_⟩
  dsimp only [xm_new]
  rw [H.2.2.1, H.2.1]
  simp only [List.cons_append, List.nil_append, List.length_cons, List.length_nil, Nat.reduceAdd, List.set_cons_zero, List.set_cons_succ, List.take_succ_cons, List.take_zero, Nat.add_assoc, xp_dfl]
  conv => whnf
  rw [H.1]
  conv => whnf
  refine ⟨rfl, Nat.le_trans hb (Nat.le_add_right _ _), Nat.le_of_ble_eq_true rfl, ⟨rfl, rfl⟩, ?_⟩
  rw [H.2.2.2.1 _ _ _ _ _ (Nat.le_of_ble_eq_true rfl)]
  simp only [List.cons_append, List.nil_append, List.length_cons, List.length_nil, Nat.reduceAdd, List.set_cons_zero, List.set_cons_succ, List.take_succ_cons, List.take_zero, Nat.add_assoc, xp_dfl]
  conv => whnf
  refine ⟨by decide, by decide, Nat.le_of_ble_eq_true rfl, Nat.le_of_ble_eq_true rfl, ?_⟩
  dsimp only [xm_new]
  rw [H.2.2.1, H.2.1]
  simp only [List.cons_append, List.nil_append, List.length_cons, List.length_nil, Nat.reduceAdd, List.set_cons_zero, List.set_cons_succ, List.take_succ_cons, List.take_zero, Nat.add_assoc, xp_dfl]
  conv => whnf
  rw [H.1]
  conv => whnf
  refine ⟨rfl, Nat.le_trans hb (Nat.le_add_right _ _), Nat.le_of_ble_eq_true rfl, ⟨rfl, rfl⟩, ?_⟩
  rw [H.2.2.2.1 _ _ _ _ _ (Nat.le_of_ble_eq_true rfl)]
  simp only [List.cons_append, List.nil_append, List.length_cons, List.length_nil, Nat.reduceAdd, List.set_cons_zero, List.set_cons_succ, List.take_succ_cons, List.take_zero, Nat.add_assoc, xp_dfl]
  conv => whnf
  refine ⟨by decide, by decide, Nat.le_of_ble_eq_true rfl, Nat.le_of_ble_eq_true rfl, ?_⟩
  dsimp only [xm_new]
  rw [H.2.2.1, H.2.1]
  simp only [List.cons_append, List.nil_append, List.length_cons, List.length_nil, Nat.reduceAdd, List.set_cons_zero, List.set_cons_succ, List.take_succ_cons, List.take_zero, Nat.add_assoc, xp_dfl]
  conv => whnf
  rw [H.1]
  conv => whnf
  refine ⟨rfl, Nat.le_trans hb (Nat.le_add_right _ _), Nat.le_of_ble_eq_true rfl, ⟨rfl, rfl⟩, ?_⟩
  rw [H.2.2.2.1 _ _ _ _ _ (Nat.le_of_ble_eq_true rfl)]
  simp only [List.cons_append, List.nil_append, List.length_cons, List.length_nil, Nat.reduceAdd, List.set_cons_zero, List.set_cons_succ, List.take_succ_cons, List.take_zero, Nat.add_assoc, xp_dfl]
  conv => whnf
  exact ⟨rfl, rfl, rfl⟩
set_option maxRecDepth 100000 in
theorem ct_X6_init_32 (H : xh_L hl) (d : Nat) {g : Nat → Option va_E} {b : Nat} (hb : lo ≤ b) : xm_M xp ac lo xp_fty xp_dfl sv (d + 1) nm_X6_init [.ref (b + 0), .int 32] (hl g b [.inr (6, [.null, .null, .int 0, .int 0])]) 2 132 (xq0 (hl g b [.inr (6, [.ref (b + 2), .ref (b + 1), .int 1, .int 0]), .inl (ac 1, 4, .inr (.inl (fun _ => 0))), .inl (ac 1, 128, .inr (.inl (fun _ => 0)))])) := by
  refine ⟨rfl, Nat.le_of_ble_eq_true rfl, Nat.le_of_ble_eq_true rfl, fun X hX => xm_run hX 1000 _ _ _ _ _ _ ?_⟩
  conv => whnf
  refine ⟨rfl, Nat.le_of_ble_eq_true rfl, ?_⟩
  conv => whnf
  refine ⟨by decide, by decide, Nat.le_of_ble_eq_true rfl, Nat.le_of_ble_eq_true rfl, ?_⟩
  dsimp only [xm_new]
  rw [H.2.2.1, H.2.1]
  simp only [List.cons_append, List.nil_append, List.length_cons, List.length_nil, Nat.reduceAdd, List.set_cons_zero, List.set_cons_succ, List.take_succ_cons, List.take_zero, Nat.add_assoc, xp_dfl]
  conv => whnf
  rw [H.1]
  conv => whnf
  refine ⟨rfl, Nat.le_trans hb (Nat.le_add_right _ _), Nat.le_of_ble_eq_true rfl, ⟨rfl, rfl⟩, ?_⟩
  rw [H.2.2.2.1 _ _ _ _ _ (Nat.le_of_ble_eq_true rfl)]
  simp only [List.cons_append, List.nil_append, List.length_cons, List.length_nil, Nat.reduceAdd, List.set_cons_zero, List.set_cons_succ, List.take_succ_cons, List.take_zero, Nat.add_assoc, xp_dfl]
  conv => whnf
  rw [H.1]
  conv => whnf
  refine ⟨rfl, Nat.le_trans hb (Nat.le_add_right _ _), Nat.le_of_ble_eq_true rfl, ⟨rfl, rfl⟩, ?_⟩
  rw [H.2.2.2.1 _ _ _ _ _ (Nat.le_of_ble_eq_true rfl)]
  simp only [List.cons_append, List.nil_append, List.length_cons, List.length_nil, Nat.reduceAdd, List.set_cons_zero, List.set_cons_succ, List.take_succ_cons, List.take_zero, Nat.add_assoc, xp_dfl]
  conv => whnf
  rw [H.1]
  conv => whnf
  refine ⟨rfl, Nat.le_trans hb (Nat.le_add_right _ _), Nat.le_of_ble_eq_true rfl, ⟨rfl, rfl⟩, ?_⟩
  rw [H.2.2.2.1 _ _ _ _ _ (Nat.le_of_ble_eq_true rfl)]
  simp only [List.cons_append, List.nil_append, List.length_cons, List.length_nil, Nat.reduceAdd, List.set_cons_zero, List.set_cons_succ, List.take_succ_cons, List.take_zero, Nat.add_assoc, xp_dfl]
  conv => whnf
  refine ⟨by decide, by decide, Nat.le_of_ble_eq_true rfl, Nat.le_of_ble_eq_true rfl, ?_⟩
  dsimp only [xm_new]
  rw [H.2.2.1, H.2.1]
  simp only [List.cons_append, List.nil_append, List.length_cons, List.length_nil, Nat.reduceAdd, List.set_cons_zero, List.set_cons_succ, List.take_succ_cons, List.take_zero, Nat.add_assoc, xp_dfl]
  conv => whnf
  rw [H.1]
  conv => whnf
  refine ⟨rfl, Nat.le_trans hb (Nat.le_add_right _ _), Nat.le_of_ble_eq_true rfl, ⟨rfl, rfl⟩, ?_⟩
  rw [H.2.2.2.1 _ _ _ _ _ (Nat.le_of_ble_eq_true rfl)]
  simp only [List.cons_append, List.nil_append, List.length_cons, List.length_nil, Nat.reduceAdd, List.set_cons_zero, List.set_cons_succ, List.take_succ_cons, List.take_zero, Nat.add_assoc, xp_dfl]
  conv => whnf
  exact ⟨rfl, rfl, rfl⟩
set_option maxRecDepth 100000 in
theorem ct_X10_init (H : xh_L hl) (d : Nat) {g : Nat → Option va_E} {b : Nat} (hb : lo ≤ b) : xm_M xp ac lo xp_fty xp_dfl sv (d + 1) nm_X10_init [.ref (b + 0)] (hl g b [.inr (10, [.null, .null, .null, .null, .null, .null, .int 0, .int 0, .int 0, .int 0, .long 0])]) 6 248 (xq0 (hl g b [.inr (10, [.ref (b + 1), .ref (b + 2), .ref (b + 3), .ref (b + 4), .ref (b + 5), .ref (b + 6), .int 0, .int 0, .int 0, .int (-1), .long 0]), .inl (ac 1, 60, .inr (.inl (fun _ => 0))), .inl (ac 1, 60, .inr (.inl (fun _ => 0))), .inl (ac 0, 60, .inl (fun _ => 0)), .inl (ac 0, 4, .inl (fun _ => 0)), .inl (ac 0, 60, .inl (fun _ => 0)), .inl (ac 1, 4, .inr (.inl (fun _ => 0)))])) := by
  refine ⟨rfl, Nat.le_of_ble_eq_true rfl, Nat.le_of_ble_eq_true rfl, fun X hX => xm_run hX 1000 _ _ _ _ _ _ ?_⟩
  conv => whnf
  refine ⟨rfl, Nat.le_of_ble_eq_true rfl, ?_⟩
  conv => whnf
  refine ⟨by decide, by decide, Nat.le_of_ble_eq_true rfl, Nat.le_of_ble_eq_true rfl, ?_⟩
  dsimp only [xm_new]
  rw [H.2.2.1, H.2.1]
  simp only [List.cons_append, List.nil_append, List.length_cons, List.length_nil, Nat.reduceAdd, List.set_cons_zero, List.set_cons_succ, List.take_succ_cons, List.take_zero, Nat.add_assoc, xp_dfl]
  conv => whnf
  rw [H.1]
  conv => whnf
  refine ⟨rfl, Nat.le_trans hb (Nat.le_add_right _ _), Nat.le_of_ble_eq_true rfl, ⟨rfl, rfl⟩, ?_⟩
  rw [H.2.2.2.1 _ _ _ _ _ (Nat.le_of_ble_eq_true rfl)]
  simp only [List.cons_append, List.nil_append, List.length_cons, List.length_nil, Nat.reduceAdd, List.set_cons_zero, List.set_cons_succ, List.take_succ_cons, List.take_zero, Nat.add_assoc, xp_dfl]
  conv => whnf
  refine ⟨by decide, by decide, Nat.le_of_ble_eq_true rfl, Nat.le_of_ble_eq_true rfl, ?_⟩
  dsimp only [xm_new]
  rw [H.2.2.1, H.2.1]
  simp only [List.cons_append, List.nil_append, List.length_cons, List.length_nil, Nat.reduceAdd, List.set_cons_zero, List.set_cons_succ, List.take_succ_cons, List.take_zero, Nat.add_assoc, xp_dfl]
  conv => whnf
  rw [H.1]
  conv => whnf
  refine ⟨rfl, Nat.le_trans hb (Nat.le_add_right _ _), Nat.le_of_ble_eq_true rfl, ⟨rfl, rfl⟩, ?_⟩
  rw [H.2.2.2.1 _ _ _ _ _ (Nat.le_of_ble_eq_true rfl)]
  simp only [List.cons_append, List.nil_append, List.length_cons, List.length_nil, Nat.reduceAdd, List.set_cons_zero, List.set_cons_succ, List.take_succ_cons, List.take_zero, Nat.add_assoc, xp_dfl]
  conv => whnf
  refine ⟨by decide, by decide, Nat.le_of_ble_eq_true rfl, Nat.le_of_ble_eq_true rfl, ?_⟩
  dsimp only [xm_new]
  rw [H.2.2.1, H.2.1]
  simp only [List.cons_append, List.nil_append, List.length_cons, List.length_nil, Nat.reduceAdd, List.set_cons_zero, List.set_cons_succ, List.take_succ_cons, List.take_zero, Nat.add_assoc, xp_dfl]
  conv => whnf
  rw [H.1]
  conv => whnf
  refine ⟨rfl, Nat.le_trans hb (Nat.le_add_right _ _), Nat.le_of_ble_eq_true rfl, ⟨rfl, rfl⟩, ?_⟩
  rw [H.2.2.2.1 _ _ _ _ _ (Nat.le_of_ble_eq_true rfl)]
  simp only [List.cons_append, List.nil_append, List.length_cons, List.length_nil, Nat.reduceAdd, List.set_cons_zero, List.set_cons_succ, List.take_succ_cons, List.take_zero, Nat.add_assoc, xp_dfl]
  conv => whnf
  refine ⟨by decide, by decide, Nat.le_of_ble_eq_true rfl, Nat.le_of_ble_eq_true rfl, ?_⟩
  dsimp only [xm_new]
  rw [H.2.2.1, H.2.1]
  simp only [List.cons_append, List.nil_append, List.length_cons, List.length_nil, Nat.reduceAdd, List.set_cons_zero, List.set_cons_succ, List.take_succ_cons, List.take_zero, Nat.add_assoc, xp_dfl]
  conv => whnf
  rw [H.1]
  conv => whnf
  refine ⟨rfl, Nat.le_trans hb (Nat.le_add_right _ _), Nat.le_of_ble_eq_true rfl, ⟨rfl, rfl⟩, ?_⟩
  rw [H.2.2.2.1 _ _ _ _ _ (Nat.le_of_ble_eq_true rfl)]
  simp only [List.cons_append, List.nil_append, List.length_cons, List.length_nil, Nat.reduceAdd, List.set_cons_zero, List.set_cons_succ, List.take_succ_cons, List.take_zero, Nat.add_assoc, xp_dfl]
  conv => whnf
  refine ⟨by decide, by decide, Nat.le_of_ble_eq_true rfl, Nat.le_of_ble_eq_true rfl, ?_⟩
  dsimp only [xm_new]
  rw [H.2.2.1, H.2.1]
  simp only [List.cons_append, List.nil_append, List.length_cons, List.length_nil, Nat.reduceAdd, List.set_cons_zero, List.set_cons_succ, List.take_succ_cons, List.take_zero, Nat.add_assoc, xp_dfl]
  conv => whnf
  rw [H.1]
  conv => whnf
  refine ⟨rfl, Nat.le_trans hb (Nat.le_add_right _ _), Nat.le_of_ble_eq_true rfl, ⟨rfl, rfl⟩, ?_⟩
  rw [H.2.2.2.1 _ _ _ _ _ (Nat.le_of_ble_eq_true rfl)]
  simp only [List.cons_append, List.nil_append, List.length_cons, List.length_nil, Nat.reduceAdd, List.set_cons_zero, List.set_cons_succ, List.take_succ_cons, List.take_zero, Nat.add_assoc, xp_dfl]
  conv => whnf
  refine ⟨by decide, by decide, Nat.le_of_ble_eq_true rfl, Nat.le_of_ble_eq_true rfl, ?_⟩
  dsimp only [xm_new]
  rw [H.2.2.1, H.2.1]
  simp only [List.cons_append, List.nil_append, List.length_cons, List.length_nil, Nat.reduceAdd, List.set_cons_zero, List.set_cons_succ, List.take_succ_cons, List.take_zero, Nat.add_assoc, xp_dfl]
  conv => whnf
  rw [H.1]
  conv => whnf
  refine ⟨rfl, Nat.le_trans hb (Nat.le_add_right _ _), Nat.le_of_ble_eq_true rfl, ⟨rfl, rfl⟩, ?_⟩
  rw [H.2.2.2.1 _ _ _ _ _ (Nat.le_of_ble_eq_true rfl)]
  simp only [List.cons_append, List.nil_append, List.length_cons, List.length_nil, Nat.reduceAdd, List.set_cons_zero, List.set_cons_succ, List.take_succ_cons, List.take_zero, Nat.add_assoc, xp_dfl]
  conv => whnf
  rw [H.1]
  conv => whnf
  refine ⟨rfl, Nat.le_trans hb (Nat.le_add_right _ _), Nat.le_of_ble_eq_true rfl, ⟨rfl, rfl⟩, ?_⟩
  rw [H.2.2.2.1 _ _ _ _ _ (Nat.le_of_ble_eq_true rfl)]
  simp only [List.cons_append, List.nil_append, List.length_cons, List.length_nil, Nat.reduceAdd, List.set_cons_zero, List.set_cons_succ, List.take_succ_cons, List.take_zero, Nat.add_assoc, xp_dfl]
  conv => whnf
  rw [H.1]
  conv => whnf
  refine ⟨rfl, Nat.le_trans hb (Nat.le_add_right _ _), Nat.le_of_ble_eq_true rfl, ⟨rfl, rfl⟩, ?_⟩
  rw [H.2.2.2.1 _ _ _ _ _ (Nat.le_of_ble_eq_true rfl)]
  simp only [List.cons_append, List.nil_append, List.length_cons, List.length_nil, Nat.reduceAdd, List.set_cons_zero, List.set_cons_succ, List.take_succ_cons, List.take_zero, Nat.add_assoc, xp_dfl]
  conv => whnf
  rw [H.1]
  conv => whnf
  refine ⟨rfl, Nat.le_trans hb (Nat.le_add_right _ _), Nat.le_of_ble_eq_true rfl, ⟨rfl, rfl⟩, ?_⟩
  rw [H.2.2.2.1 _ _ _ _ _ (Nat.le_of_ble_eq_true rfl)]
  simp only [List.cons_append, List.nil_append, List.length_cons, List.length_nil, Nat.reduceAdd, List.set_cons_zero, List.set_cons_succ, List.take_succ_cons, List.take_zero, Nat.add_assoc, xp_dfl]
  conv => whnf
  rw [H.1]
  conv => whnf
  refine ⟨rfl, Nat.le_trans hb (Nat.le_add_right _ _), Nat.le_of_ble_eq_true rfl, ⟨rfl, rfl⟩, ?_⟩
  rw [H.2.2.2.1 _ _ _ _ _ (Nat.le_of_ble_eq_true rfl)]
  simp only [List.cons_append, List.nil_append, List.length_cons, List.length_nil, Nat.reduceAdd, List.set_cons_zero, List.set_cons_succ, List.take_succ_cons, List.take_zero, Nat.add_assoc, xp_dfl]
  conv => whnf
  rw [H.1]
  conv => whnf
  refine ⟨rfl, Nat.le_trans hb (Nat.le_add_right _ _), Nat.le_of_ble_eq_true rfl, ⟨rfl, rfl⟩, ?_⟩
  rw [H.2.2.2.1 _ _ _ _ _ (Nat.le_of_ble_eq_true rfl)]
  simp only [List.cons_append, List.nil_append, List.length_cons, List.length_nil, Nat.reduceAdd, List.set_cons_zero, List.set_cons_succ, List.take_succ_cons, List.take_zero, Nat.add_assoc, xp_dfl]
  conv => whnf
  exact ⟨rfl, rfl, rfl⟩
set_option maxRecDepth 100000 in
theorem ct_X3_init (H : xh_L hl) (d : Nat) {g : Nat → Option va_E} {b : Nat} (hb : lo ≤ b) : xm_M xp ac lo xp_fty xp_dfl sv (d + 1) nm_X3_init [.ref (b + 0)] (hl g b [.inr (3, [.null, .null, .null, .null, .null, .null, .null, .null, .null, .null, .int 0, .int 0, .int 0, .int 0, .int 0, .int 0, .int 0, .int 0])]) 10 1339 (xq0 (hl g b [.inr (3, [.ref (b + 1), .ref (b + 2), .ref (b + 3), .ref (b + 4), .ref (b + 5), .ref (b + 6), .ref (b + 7), .ref (b + 8), .ref (b + 9), .ref (b + 10), .int 0, .int 0, .int 0, .int 0, .int 0, .int 0, .int 0, .int 0]), .inl (ac 0, 8, .inl (fun _ => 0)), .inl (ac 0, 8, .inl (fun _ => 0)), .inl (ac 0, 8, .inl (fun _ => 0)), .inl (ac 0, 8, .inl (fun _ => 0)), .inl (ac 0, 512, .inl (fun _ => 0)), .inl (ac 0, 512, .inl (fun _ => 0)), .inl (ac 0, 256, .inl (fun _ => 0)), .inl (ac 0, 9, .inl (fun _ => 0)), .inl (ac 0, 9, .inl (fun _ => 0)), .inl (ac 0, 9, .inl (fun _ => 0))])) := by
  refine ⟨rfl, Nat.le_of_ble_eq_true rfl, Nat.le_of_ble_eq_true rfl, fun X hX => xm_run hX 1000 _ _ _ _ _ _ ?_⟩
  conv => whnf
  refine ⟨rfl, Nat.le_of_ble_eq_true rfl, ?_⟩
  conv => whnf
  refine ⟨by decide, by decide, Nat.le_of_ble_eq_true rfl, Nat.le_of_ble_eq_true rfl, ?_⟩
  dsimp only [xm_new]
  rw [H.2.2.1, H.2.1]
  simp only [List.cons_append, List.nil_append, List.length_cons, List.length_nil, Nat.reduceAdd, List.set_cons_zero, List.set_cons_succ, List.take_succ_cons, List.take_zero, Nat.add_assoc, xp_dfl]
  conv => whnf
  rw [H.1]
  conv => whnf
  refine ⟨rfl, Nat.le_trans hb (Nat.le_add_right _ _), Nat.le_of_ble_eq_true rfl, ⟨rfl, rfl⟩, ?_⟩
  rw [H.2.2.2.1 _ _ _ _ _ (Nat.le_of_ble_eq_true rfl)]
  simp only [List.cons_append, List.nil_append, List.length_cons, List.length_nil, Nat.reduceAdd, List.set_cons_zero, List.set_cons_succ, List.take_succ_cons, List.take_zero, Nat.add_assoc, xp_dfl]
  conv => whnf
  refine ⟨by decide, by decide, Nat.le_of_ble_eq_true rfl, Nat.le_of_ble_eq_true rfl, ?_⟩
  dsimp only [xm_new]
  rw [H.2.2.1, H.2.1]
  simp only [List.cons_append, List.nil_append, List.length_cons, List.length_nil, Nat.reduceAdd, List.set_cons_zero, List.set_cons_succ, List.take_succ_cons, List.take_zero, Nat.add_assoc, xp_dfl]
  conv => whnf
  rw [H.1]
  conv => whnf
  refine ⟨rfl, Nat.le_trans hb (Nat.le_add_right _ _), Nat.le_of_ble_eq_true rfl, ⟨rfl, rfl⟩, ?_⟩
  rw [H.2.2.2.1 _ _ _ _ _ (Nat.le_of_ble_eq_true rfl)]
  simp only [List.cons_append, List.nil_append, List.length_cons, List.length_nil, Nat.reduceAdd, List.set_cons_zero, List.set_cons_succ, List.take_succ_cons, List.take_zero, Nat.add_assoc, xp_dfl]
  conv => whnf
  refine ⟨by decide, by decide, Nat.le_of_ble_eq_true rfl, Nat.le_of_ble_eq_true rfl, ?_⟩
  dsimp only [xm_new]
  rw [H.2.2.1, H.2.1]
  simp only [List.cons_append, List.nil_append, List.length_cons, List.length_nil, Nat.reduceAdd, List.set_cons_zero, List.set_cons_succ, List.take_succ_cons, List.take_zero, Nat.add_assoc, xp_dfl]
  conv => whnf
  rw [H.1]
  conv => whnf
  refine ⟨rfl, Nat.le_trans hb (Nat.le_add_right _ _), Nat.le_of_ble_eq_true rfl, ⟨rfl, rfl⟩, ?_⟩
  rw [H.2.2.2.1 _ _ _ _ _ (Nat.le_of_ble_eq_true rfl)]
  simp only [List.cons_append, List.nil_append, List.length_cons, List.length_nil, Nat.reduceAdd, List.set_cons_zero, List.set_cons_succ, List.take_succ_cons, List.take_zero, Nat.add_assoc, xp_dfl]
  conv => whnf
  refine ⟨by decide, by decide, Nat.le_of_ble_eq_true rfl, Nat.le_of_ble_eq_true rfl, ?_⟩
  dsimp only [xm_new]
  rw [H.2.2.1, H.2.1]
  simp only [List.cons_append, List.nil_append, List.length_cons, List.length_nil, Nat.reduceAdd, List.set_cons_zero, List.set_cons_succ, List.take_succ_cons, List.take_zero, Nat.add_assoc, xp_dfl]
  conv => whnf
  rw [H.1]
  conv => whnf
  refine ⟨rfl, Nat.le_trans hb (Nat.le_add_right _ _), Nat.le_of_ble_eq_true rfl, ⟨rfl, rfl⟩, ?_⟩
  rw [H.2.2.2.1 _ _ _ _ _ (Nat.le_of_ble_eq_true rfl)]
  simp only [List.cons_append, List.nil_append, List.length_cons, List.length_nil, Nat.reduceAdd, List.set_cons_zero, List.set_cons_succ, List.take_succ_cons, List.take_zero, Nat.add_assoc, xp_dfl]
  conv => whnf
  refine ⟨by decide, by decide, Nat.le_of_ble_eq_true rfl, Nat.le_of_ble_eq_true rfl, ?_⟩
  dsimp only [xm_new]
  rw [H.2.2.1, H.2.1]
  simp only [List.cons_append, List.nil_append, List.length_cons, List.length_nil, Nat.reduceAdd, List.set_cons_zero, List.set_cons_succ, List.take_succ_cons, List.take_zero, Nat.add_assoc, xp_dfl]
  conv => whnf
  rw [H.1]
  conv => whnf
  refine ⟨rfl, Nat.le_trans hb (Nat.le_add_right _ _), Nat.le_of_ble_eq_true rfl, ⟨rfl, rfl⟩, ?_⟩
  rw [H.2.2.2.1 _ _ _ _ _ (Nat.le_of_ble_eq_true rfl)]
  simp only [List.cons_append, List.nil_append, List.length_cons, List.length_nil, Nat.reduceAdd, List.set_cons_zero, List.set_cons_succ, List.take_succ_cons, List.take_zero, Nat.add_assoc, xp_dfl]
  conv => whnf
  refine ⟨by decide, by decide, Nat.le_of_ble_eq_true rfl, Nat.le_of_ble_eq_true rfl, ?_⟩
  dsimp only [xm_new]
  rw [H.2.2.1, H.2.1]
  simp only [List.cons_append, List.nil_append, List.length_cons, List.length_nil, Nat.reduceAdd, List.set_cons_zero, List.set_cons_succ, List.take_succ_cons, List.take_zero, Nat.add_assoc, xp_dfl]
  conv => whnf
  rw [H.1]
  conv => whnf
  refine ⟨rfl, Nat.le_trans hb (Nat.le_add_right _ _), Nat.le_of_ble_eq_true rfl, ⟨rfl, rfl⟩, ?_⟩
  rw [H.2.2.2.1 _ _ _ _ _ (Nat.le_of_ble_eq_true rfl)]
  simp only [List.cons_append, List.nil_append, List.length_cons, List.length_nil, Nat.reduceAdd, List.set_cons_zero, List.set_cons_succ, List.take_succ_cons, List.take_zero, Nat.add_assoc, xp_dfl]
  conv => whnf
  refine ⟨by decide, by decide, Nat.le_of_ble_eq_true rfl, Nat.le_of_ble_eq_true rfl, ?_⟩
  dsimp only [xm_new]
  rw [H.2.2.1, H.2.1]
  simp only [List.cons_append, List.nil_append, List.length_cons, List.length_nil, Nat.reduceAdd, List.set_cons_zero, List.set_cons_succ, List.take_succ_cons, List.take_zero, Nat.add_assoc, xp_dfl]
  conv => whnf
  rw [H.1]
  conv => whnf
  refine ⟨rfl, Nat.le_trans hb (Nat.le_add_right _ _), Nat.le_of_ble_eq_true rfl, ⟨rfl, rfl⟩, ?_⟩
  rw [H.2.2.2.1 _ _ _ _ _ (Nat.le_of_ble_eq_true rfl)]
  simp only [List.cons_append, List.nil_append, List.length_cons, List.length_nil, Nat.reduceAdd, List.set_cons_zero, List.set_cons_succ, List.take_succ_cons, List.take_zero, Nat.add_assoc, xp_dfl]
  conv => whnf
  refine ⟨by decide, by decide, Nat.le_of_ble_eq_true rfl, Nat.le_of_ble_eq_true rfl, ?_⟩
  dsimp only [xm_new]
  rw [H.2.2.1, H.2.1]
  simp only [List.cons_append, List.nil_append, List.length_cons, List.length_nil, Nat.reduceAdd, List.set_cons_zero, List.set_cons_succ, List.take_succ_cons, List.take_zero, Nat.add_assoc, xp_dfl]
  conv => whnf
  rw [H.1]
  conv => whnf
  refine ⟨rfl, Nat.le_trans hb (Nat.le_add_right _ _), Nat.le_of_ble_eq_true rfl, ⟨rfl, rfl⟩, ?_⟩
  rw [H.2.2.2.1 _ _ _ _ _ (Nat.le_of_ble_eq_true rfl)]
  simp only [List.cons_append, List.nil_append, List.length_cons, List.length_nil, Nat.reduceAdd, List.set_cons_zero, List.set_cons_succ, List.take_succ_cons, List.take_zero, Nat.add_assoc, xp_dfl]
  conv => whnf
  refine ⟨by decide, by decide, Nat.le_of_ble_eq_true rfl, Nat.le_of_ble_eq_true rfl, ?_⟩
  dsimp only [xm_new]
  rw [H.2.2.1, H.2.1]
  simp only [List.cons_append, List.nil_append, List.length_cons, List.length_nil, Nat.reduceAdd, List.set_cons_zero, List.set_cons_succ, List.take_succ_cons, List.take_zero, Nat.add_assoc, xp_dfl]
  conv => whnf
  rw [H.1]
  conv => whnf
  refine ⟨rfl, Nat.le_trans hb (Nat.le_add_right _ _), Nat.le_of_ble_eq_true rfl, ⟨rfl, rfl⟩, ?_⟩
  rw [H.2.2.2.1 _ _ _ _ _ (Nat.le_of_ble_eq_true rfl)]
  simp only [List.cons_append, List.nil_append, List.length_cons, List.length_nil, Nat.reduceAdd, List.set_cons_zero, List.set_cons_succ, List.take_succ_cons, List.take_zero, Nat.add_assoc, xp_dfl]
  conv => whnf
  refine ⟨by decide, by decide, Nat.le_of_ble_eq_true rfl, Nat.le_of_ble_eq_true rfl, ?_⟩
  dsimp only [xm_new]
  rw [H.2.2.1, H.2.1]
  simp only [List.cons_append, List.nil_append, List.length_cons, List.length_nil, Nat.reduceAdd, List.set_cons_zero, List.set_cons_succ, List.take_succ_cons, List.take_zero, Nat.add_assoc, xp_dfl]
  conv => whnf
  rw [H.1]
  conv => whnf
  refine ⟨rfl, Nat.le_trans hb (Nat.le_add_right _ _), Nat.le_of_ble_eq_true rfl, ⟨rfl, rfl⟩, ?_⟩
  rw [H.2.2.2.1 _ _ _ _ _ (Nat.le_of_ble_eq_true rfl)]
  simp only [List.cons_append, List.nil_append, List.length_cons, List.length_nil, Nat.reduceAdd, List.set_cons_zero, List.set_cons_succ, List.take_succ_cons, List.take_zero, Nat.add_assoc, xp_dfl]
  conv => whnf
  rw [H.1]
  conv => whnf
  refine ⟨rfl, Nat.le_trans hb (Nat.le_add_right _ _), Nat.le_of_ble_eq_true rfl, ⟨rfl, rfl⟩, ?_⟩
  rw [H.2.2.2.1 _ _ _ _ _ (Nat.le_of_ble_eq_true rfl)]
  simp only [List.cons_append, List.nil_append, List.length_cons, List.length_nil, Nat.reduceAdd, List.set_cons_zero, List.set_cons_succ, List.take_succ_cons, List.take_zero, Nat.add_assoc, xp_dfl]
  conv => whnf
  rw [H.1]
  conv => whnf
  refine ⟨rfl, Nat.le_trans hb (Nat.le_add_right _ _), Nat.le_of_ble_eq_true rfl, ⟨rfl, rfl⟩, ?_⟩
  rw [H.2.2.2.1 _ _ _ _ _ (Nat.le_of_ble_eq_true rfl)]
  simp only [List.cons_append, List.nil_append, List.length_cons, List.length_nil, Nat.reduceAdd, List.set_cons_zero, List.set_cons_succ, List.take_succ_cons, List.take_zero, Nat.add_assoc, xp_dfl]
  conv => whnf
  rw [H.1]
  conv => whnf
  refine ⟨rfl, Nat.le_trans hb (Nat.le_add_right _ _), Nat.le_of_ble_eq_true rfl, ⟨rfl, rfl⟩, ?_⟩
  rw [H.2.2.2.1 _ _ _ _ _ (Nat.le_of_ble_eq_true rfl)]
  simp only [List.cons_append, List.nil_append, List.length_cons, List.length_nil, Nat.reduceAdd, List.set_cons_zero, List.set_cons_succ, List.take_succ_cons, List.take_zero, Nat.add_assoc, xp_dfl]
  conv => whnf
  rw [H.1]
  conv => whnf
  refine ⟨rfl, Nat.le_trans hb (Nat.le_add_right _ _), Nat.le_of_ble_eq_true rfl, ⟨rfl, rfl⟩, ?_⟩
  rw [H.2.2.2.1 _ _ _ _ _ (Nat.le_of_ble_eq_true rfl)]
  simp only [List.cons_append, List.nil_append, List.length_cons, List.length_nil, Nat.reduceAdd, List.set_cons_zero, List.set_cons_succ, List.take_succ_cons, List.take_zero, Nat.add_assoc, xp_dfl]
  conv => whnf
  rw [H.1]
  conv => whnf
  refine ⟨rfl, Nat.le_trans hb (Nat.le_add_right _ _), Nat.le_of_ble_eq_true rfl, ⟨rfl, rfl⟩, ?_⟩
  rw [H.2.2.2.1 _ _ _ _ _ (Nat.le_of_ble_eq_true rfl)]
  simp only [List.cons_append, List.nil_append, List.length_cons, List.length_nil, Nat.reduceAdd, List.set_cons_zero, List.set_cons_succ, List.take_succ_cons, List.take_zero, Nat.add_assoc, xp_dfl]
  conv => whnf
  exact ⟨rfl, rfl, rfl⟩
set_option maxRecDepth 100000 in
theorem ct_X8_init_4 (H : xh_L hl) (d : Nat) {g : Nat → Option va_E} {b : Nat} (hb : lo ≤ b) : xm_M xp ac lo xp_fty xp_dfl sv (d + 1) nm_X8_init [.ref (b + 0), .int 4] (hl g b [.inr (8, [.null, .null, .null, .int 0, .int 0])]) 3 12 (xq0 (hl g b [.inr (8, [.ref (b + 1), .ref (b + 2), .ref (b + 3), .int 0, .int 0]), .inl (ac 0, 4, .inl (fun _ => 0)), .inl (ac 0, 4, .inl (fun _ => 0)), .inl (ac 0, 4, .inl (fun _ => 0))])) := by
  refine ⟨rfl, Nat.le_of_ble_eq_true rfl, Nat.le_of_ble_eq_true rfl, fun X hX => xm_run hX 1000 _ _ _ _ _ _ ?_⟩
  conv => whnf
  refine ⟨rfl, Nat.le_of_ble_eq_true rfl, ?_⟩
  conv => whnf
  rw [H.1]
  conv => whnf
  refine ⟨rfl, Nat.le_trans hb (Nat.le_add_right _ _), Nat.le_of_ble_eq_true rfl, ⟨rfl, rfl⟩, ?_⟩
  rw [H.2.2.2.1 _ _ _ _ _ (Nat.le_of_ble_eq_true rfl)]
  simp only [List.cons_append, List.nil_append, List.length_cons, List.length_nil, Nat.reduceAdd, List.set_cons_zero, List.set_cons_succ, List.take_succ_cons, List.take_zero, Nat.add_assoc, xp_dfl]
  conv => whnf
  rw [H.1]
  conv => whnf
  refine ⟨rfl, Nat.le_trans hb (Nat.le_add_right _ _), Nat.le_of_ble_eq_true rfl, ⟨rfl, rfl⟩, ?_⟩
  rw [H.2.2.2.1 _ _ _ _ _ (Nat.le_of_ble_eq_true rfl)]
  simp only [List.cons_append, List.nil_append, List.length_cons, List.length_nil, Nat.reduceAdd, List.set_cons_zero, List.set_cons_succ, List.take_succ_cons, List.take_zero, Nat.add_assoc, xp_dfl]
  conv => whnf
  refine ⟨by decide, by decide, Nat.le_of_ble_eq_true rfl, Nat.le_of_ble_eq_true rfl, ?_⟩
  dsimp only [xm_new]
  rw [H.2.2.1, H.2.1]
  simp only [List.cons_append, List.nil_append, List.length_cons, List.length_nil, Nat.reduceAdd, List.set_cons_zero, List.set_cons_succ, List.take_succ_cons, List.take_zero, Nat.add_assoc, xp_dfl]
  conv => whnf
  rw [H.1]
  conv => whnf
  refine ⟨rfl, Nat.le_trans hb (Nat.le_add_right _ _), Nat.le_of_ble_eq_true rfl, ⟨rfl, rfl⟩, ?_⟩
  rw [H.2.2.2.1 _ _ _ _ _ (Nat.le_of_ble_eq_true rfl)]
  simp only [List.cons_append, List.nil_append, List.length_cons, List.length_nil, Nat.reduceAdd, List.set_cons_zero, List.set_cons_succ, List.take_succ_cons, List.take_zero, Nat.add_assoc, xp_dfl]
  conv => whnf
  refine ⟨by decide, by decide, Nat.le_of_ble_eq_true rfl, Nat.le_of_ble_eq_true rfl, ?_⟩
  dsimp only [xm_new]
  rw [H.2.2.1, H.2.1]
  simp only [List.cons_append, List.nil_append, List.length_cons, List.length_nil, Nat.reduceAdd, List.set_cons_zero, List.set_cons_succ, List.take_succ_cons, List.take_zero, Nat.add_assoc, xp_dfl]
  conv => whnf
  rw [H.1]
  conv => whnf
  refine ⟨rfl, Nat.le_trans hb (Nat.le_add_right _ _), Nat.le_of_ble_eq_true rfl, ⟨rfl, rfl⟩, ?_⟩
  rw [H.2.2.2.1 _ _ _ _ _ (Nat.le_of_ble_eq_true rfl)]
  simp only [List.cons_append, List.nil_append, List.length_cons, List.length_nil, Nat.reduceAdd, List.set_cons_zero, List.set_cons_succ, List.take_succ_cons, List.take_zero, Nat.add_assoc, xp_dfl]
  conv => whnf
  refine ⟨by decide, by decide, Nat.le_of_ble_eq_true rfl, Nat.le_of_ble_eq_true rfl, ?_⟩
  dsimp only [xm_new]
  rw [H.2.2.1, H.2.1]
  simp only [List.cons_append, List.nil_append, List.length_cons, List.length_nil, Nat.reduceAdd, List.set_cons_zero, List.set_cons_succ, List.take_succ_cons, List.take_zero, Nat.add_assoc, xp_dfl]
  conv => whnf
  rw [H.1]
  conv => whnf
  refine ⟨rfl, Nat.le_trans hb (Nat.le_add_right _ _), Nat.le_of_ble_eq_true rfl, ⟨rfl, rfl⟩, ?_⟩
  rw [H.2.2.2.1 _ _ _ _ _ (Nat.le_of_ble_eq_true rfl)]
  simp only [List.cons_append, List.nil_append, List.length_cons, List.length_nil, Nat.reduceAdd, List.set_cons_zero, List.set_cons_succ, List.take_succ_cons, List.take_zero, Nat.add_assoc, xp_dfl]
  conv => whnf
  exact ⟨rfl, rfl, rfl⟩
set_option maxRecDepth 100000 in
theorem ct_X2_init (H : xh_L hl) (d : Nat) {g : Nat → Option va_E} {b : Nat} (hb : lo ≤ b) : xm_M xp ac lo xp_fty xp_dfl sv (d + 2) nm_X2_init [.ref (b + 0)] (hl g b [.inr (2, [.null, .null, .null, .null, .null, .null, .null, .null, .null, .int 0, .int 0, .int 0, .int 0, .int 0, .int 0, .int 0])]) 12 3026 (xq0 (hl g b [.inr (2, [.ref (b + 1), .ref (b + 5), .ref (b + 6), .ref (b + 7), .ref (b + 8), .ref (b + 9), .ref (b + 10), .ref (b + 11), .ref (b + 12), .int (-1), .int 0, .int 0, .int 0, .int 0, .int (-1), .int 0]), .inr (8, [.ref (b + 2), .ref (b + 3), .ref (b + 4), .int 0, .int 0]), .inl (ac 0, 4, .inl (fun _ => 0)), .inl (ac 0, 4, .inl (fun _ => 0)), .inl (ac 0, 4, .inl (fun _ => 0)), .inl (ac 0, 224, .inl (fun _ => 0)), .inl (ac 0, 720, .inl (fun _ => 0)), .inl (ac 1, 720, .inr (.inl (fun _ => 0))), .inl (ac 0, 64, .inl (fun _ => 0)), .inl (ac 0, 301, .inl (fun _ => 0)), .inl (ac 4, 932, .inl (fun _ => 0)), .inl (ac 0, 24, .inl (fun _ => 0)), .inl (ac 0, 24, .inl (fun _ => 0))])) := by
  refine ⟨rfl, Nat.le_of_ble_eq_true rfl, Nat.le_of_ble_eq_true rfl, fun X hX => xm_run hX 1000 _ _ _ _ _ _ ?_⟩
  conv => whnf
  refine ⟨rfl, Nat.le_of_ble_eq_true rfl, ?_⟩
  conv => whnf
  refine ⟨Nat.le_of_ble_eq_true rfl, Nat.le_of_ble_eq_true rfl, ?_⟩
  rw [H.2.2.1, H.2.1]
  simp only [List.cons_append, List.nil_append, List.length_cons, List.length_nil, Nat.reduceAdd, List.set_cons_zero, List.set_cons_succ, List.take_succ_cons, List.take_zero, Nat.add_assoc, xp_dfl]
  conv => whnf
  refine ⟨rfl, ?_⟩
  conv => whnf
  refine xw0 3 12 (Nat.le_of_ble_eq_true rfl) (Nat.le_of_ble_eq_true rfl) (Nat.le_of_ble_eq_true rfl) (by rw [xh_td H 1 (Nat.le_of_ble_eq_true rfl)]; exact ct_X8_init_4 H _ (Nat.le_trans hb (Nat.le_add_right _ _))) ?_
  rw [xh_bk H 1 (Nat.le_of_ble_eq_true rfl)]
  simp only [List.cons_append, List.nil_append, List.length_cons, List.length_nil, Nat.reduceAdd, List.set_cons_zero, List.set_cons_succ, List.take_succ_cons, List.take_zero, Nat.add_assoc, xp_dfl]
  conv => whnf
  rw [H.1]
  conv => whnf
  refine ⟨rfl, Nat.le_trans hb (Nat.le_add_right _ _), Nat.le_of_ble_eq_true rfl, ⟨rfl, rfl⟩, ?_⟩
  rw [H.2.2.2.1 _ _ _ _ _ (Nat.le_of_ble_eq_true rfl)]
  simp only [List.cons_append, List.nil_append, List.length_cons, List.length_nil, Nat.reduceAdd, List.set_cons_zero, List.set_cons_succ, List.take_succ_cons, List.take_zero, Nat.add_assoc, xp_dfl]
  conv => whnf
  refine ⟨by decide, by decide, Nat.le_of_ble_eq_true rfl, Nat.le_of_ble_eq_true rfl, ?_⟩
  dsimp only [xm_new]
  rw [H.2.2.1, H.2.1]
  simp only [List.cons_append, List.nil_append, List.length_cons, List.length_nil, Nat.reduceAdd, List.set_cons_zero, List.set_cons_succ, List.take_succ_cons, List.take_zero, Nat.add_assoc, xp_dfl]
  conv => whnf
  rw [H.1]
  conv => whnf
  refine ⟨rfl, Nat.le_trans hb (Nat.le_add_right _ _), Nat.le_of_ble_eq_true rfl, ⟨rfl, rfl⟩, ?_⟩
  rw [H.2.2.2.1 _ _ _ _ _ (Nat.le_of_ble_eq_true rfl)]
  simp only [List.cons_append, List.nil_append, List.length_cons, List.length_nil, Nat.reduceAdd, List.set_cons_zero, List.set_cons_succ, List.take_succ_cons, List.take_zero, Nat.add_assoc, xp_dfl]
  conv => whnf
  refine ⟨by decide, by decide, Nat.le_of_ble_eq_true rfl, Nat.le_of_ble_eq_true rfl, ?_⟩
  dsimp only [xm_new]
  rw [H.2.2.1, H.2.1]
  simp only [List.cons_append, List.nil_append, List.length_cons, List.length_nil, Nat.reduceAdd, List.set_cons_zero, List.set_cons_succ, List.take_succ_cons, List.take_zero, Nat.add_assoc, xp_dfl]
  conv => whnf
  rw [H.1]
  conv => whnf
  refine ⟨rfl, Nat.le_trans hb (Nat.le_add_right _ _), Nat.le_of_ble_eq_true rfl, ⟨rfl, rfl⟩, ?_⟩
  rw [H.2.2.2.1 _ _ _ _ _ (Nat.le_of_ble_eq_true rfl)]
  simp only [List.cons_append, List.nil_append, List.length_cons, List.length_nil, Nat.reduceAdd, List.set_cons_zero, List.set_cons_succ, List.take_succ_cons, List.take_zero, Nat.add_assoc, xp_dfl]
  conv => whnf
  refine ⟨by decide, by decide, Nat.le_of_ble_eq_true rfl, Nat.le_of_ble_eq_true rfl, ?_⟩
  dsimp only [xm_new]
  rw [H.2.2.1, H.2.1]
  simp only [List.cons_append, List.nil_append, List.length_cons, List.length_nil, Nat.reduceAdd, List.set_cons_zero, List.set_cons_succ, List.take_succ_cons, List.take_zero, Nat.add_assoc, xp_dfl]
  conv => whnf
  rw [H.1]
  conv => whnf
  refine ⟨rfl, Nat.le_trans hb (Nat.le_add_right _ _), Nat.le_of_ble_eq_true rfl, ⟨rfl, rfl⟩, ?_⟩
  rw [H.2.2.2.1 _ _ _ _ _ (Nat.le_of_ble_eq_true rfl)]
  simp only [List.cons_append, List.nil_append, List.length_cons, List.length_nil, Nat.reduceAdd, List.set_cons_zero, List.set_cons_succ, List.take_succ_cons, List.take_zero, Nat.add_assoc, xp_dfl]
  conv => whnf
  refine ⟨by decide, by decide, Nat.le_of_ble_eq_true rfl, Nat.le_of_ble_eq_true rfl, ?_⟩
  dsimp only [xm_new]
  rw [H.2.2.1, H.2.1]
  simp only [List.cons_append, List.nil_append, List.length_cons, List.length_nil, Nat.reduceAdd, List.set_cons_zero, List.set_cons_succ, List.take_succ_cons, List.take_zero, Nat.add_assoc, xp_dfl]
  conv => whnf
  rw [H.1]
  conv => whnf
  refine ⟨rfl, Nat.le_trans hb (Nat.le_add_right _ _), Nat.le_of_ble_eq_true rfl, ⟨rfl, rfl⟩, ?_⟩
  rw [H.2.2.2.1 _ _ _ _ _ (Nat.le_of_ble_eq_true rfl)]
  simp only [List.cons_append, List.nil_append, List.length_cons, List.length_nil, Nat.reduceAdd, List.set_cons_zero, List.set_cons_succ, List.take_succ_cons, List.take_zero, Nat.add_assoc, xp_dfl]
  conv => whnf
  refine ⟨by decide, by decide, Nat.le_of_ble_eq_true rfl, Nat.le_of_ble_eq_true rfl, ?_⟩
  dsimp only [xm_new]
  rw [H.2.2.1, H.2.1]
  simp only [List.cons_append, List.nil_append, List.length_cons, List.length_nil, Nat.reduceAdd, List.set_cons_zero, List.set_cons_succ, List.take_succ_cons, List.take_zero, Nat.add_assoc, xp_dfl]
  conv => whnf
  rw [H.1]
  conv => whnf
  refine ⟨rfl, Nat.le_trans hb (Nat.le_add_right _ _), Nat.le_of_ble_eq_true rfl, ⟨rfl, rfl⟩, ?_⟩
  rw [H.2.2.2.1 _ _ _ _ _ (Nat.le_of_ble_eq_true rfl)]
  simp only [List.cons_append, List.nil_append, List.length_cons, List.length_nil, Nat.reduceAdd, List.set_cons_zero, List.set_cons_succ, List.take_succ_cons, List.take_zero, Nat.add_assoc, xp_dfl]
  conv => whnf
  refine ⟨by decide, by decide, Nat.le_of_ble_eq_true rfl, Nat.le_of_ble_eq_true rfl, ?_⟩
  dsimp only [xm_new]
  rw [H.2.2.1, H.2.1]
  simp only [List.cons_append, List.nil_append, List.length_cons, List.length_nil, Nat.reduceAdd, List.set_cons_zero, List.set_cons_succ, List.take_succ_cons, List.take_zero, Nat.add_assoc, xp_dfl]
  conv => whnf
  rw [H.1]
  conv => whnf
  refine ⟨rfl, Nat.le_trans hb (Nat.le_add_right _ _), Nat.le_of_ble_eq_true rfl, ⟨rfl, rfl⟩, ?_⟩
  rw [H.2.2.2.1 _ _ _ _ _ (Nat.le_of_ble_eq_true rfl)]
  simp only [List.cons_append, List.nil_append, List.length_cons, List.length_nil, Nat.reduceAdd, List.set_cons_zero, List.set_cons_succ, List.take_succ_cons, List.take_zero, Nat.add_assoc, xp_dfl]
  conv => whnf
  refine ⟨by decide, by decide, Nat.le_of_ble_eq_true rfl, Nat.le_of_ble_eq_true rfl, ?_⟩
  dsimp only [xm_new]
  rw [H.2.2.1, H.2.1]
  simp only [List.cons_append, List.nil_append, List.length_cons, List.length_nil, Nat.reduceAdd, List.set_cons_zero, List.set_cons_succ, List.take_succ_cons, List.take_zero, Nat.add_assoc, xp_dfl]
  conv => whnf
  rw [H.1]
  conv => whnf
  refine ⟨rfl, Nat.le_trans hb (Nat.le_add_right _ _), Nat.le_of_ble_eq_true rfl, ⟨rfl, rfl⟩, ?_⟩
  rw [H.2.2.2.1 _ _ _ _ _ (Nat.le_of_ble_eq_true rfl)]
  simp only [List.cons_append, List.nil_append, List.length_cons, List.length_nil, Nat.reduceAdd, List.set_cons_zero, List.set_cons_succ, List.take_succ_cons, List.take_zero, Nat.add_assoc, xp_dfl]
  conv => whnf
  refine ⟨by decide, by decide, Nat.le_of_ble_eq_true rfl, Nat.le_of_ble_eq_true rfl, ?_⟩
  dsimp only [xm_new]
  rw [H.2.2.1, H.2.1]
  simp only [List.cons_append, List.nil_append, List.length_cons, List.length_nil, Nat.reduceAdd, List.set_cons_zero, List.set_cons_succ, List.take_succ_cons, List.take_zero, Nat.add_assoc, xp_dfl]
  conv => whnf
  rw [H.1]
  conv => whnf
  refine ⟨rfl, Nat.le_trans hb (Nat.le_add_right _ _), Nat.le_of_ble_eq_true rfl, ⟨rfl, rfl⟩, ?_⟩
  rw [H.2.2.2.1 _ _ _ _ _ (Nat.le_of_ble_eq_true rfl)]
  simp only [List.cons_append, List.nil_append, List.length_cons, List.length_nil, Nat.reduceAdd, List.set_cons_zero, List.set_cons_succ, List.take_succ_cons, List.take_zero, Nat.add_assoc, xp_dfl]
  conv => whnf
  rw [H.1]
  conv => whnf
  refine ⟨rfl, Nat.le_trans hb (Nat.le_add_right _ _), Nat.le_of_ble_eq_true rfl, ⟨rfl, rfl⟩, ?_⟩
  rw [H.2.2.2.1 _ _ _ _ _ (Nat.le_of_ble_eq_true rfl)]
  simp only [List.cons_append, List.nil_append, List.length_cons, List.length_nil, Nat.reduceAdd, List.set_cons_zero, List.set_cons_succ, List.take_succ_cons, List.take_zero, Nat.add_assoc, xp_dfl]
  conv => whnf
  rw [H.1]
  conv => whnf
  refine ⟨rfl, Nat.le_trans hb (Nat.le_add_right _ _), Nat.le_of_ble_eq_true rfl, ⟨rfl, rfl⟩, ?_⟩
  rw [H.2.2.2.1 _ _ _ _ _ (Nat.le_of_ble_eq_true rfl)]
  simp only [List.cons_append, List.nil_append, List.length_cons, List.length_nil, Nat.reduceAdd, List.set_cons_zero, List.set_cons_succ, List.take_succ_cons, List.take_zero, Nat.add_assoc, xp_dfl]
  conv => whnf
  rw [H.1]
  conv => whnf
  refine ⟨rfl, Nat.le_trans hb (Nat.le_add_right _ _), Nat.le_of_ble_eq_true rfl, ⟨rfl, rfl⟩, ?_⟩
  rw [H.2.2.2.1 _ _ _ _ _ (Nat.le_of_ble_eq_true rfl)]
  simp only [List.cons_append, List.nil_append, List.length_cons, List.length_nil, Nat.reduceAdd, List.set_cons_zero, List.set_cons_succ, List.take_succ_cons, List.take_zero, Nat.add_assoc, xp_dfl]
  conv => whnf
  rw [H.1]
  conv => whnf
  refine ⟨rfl, Nat.le_trans hb (Nat.le_add_right _ _), Nat.le_of_ble_eq_true rfl, ⟨rfl, rfl⟩, ?_⟩
  rw [H.2.2.2.1 _ _ _ _ _ (Nat.le_of_ble_eq_true rfl)]
  simp only [List.cons_append, List.nil_append, List.length_cons, List.length_nil, Nat.reduceAdd, List.set_cons_zero, List.set_cons_succ, List.take_succ_cons, List.take_zero, Nat.add_assoc, xp_dfl]
  conv => whnf
  exact ⟨rfl, rfl, rfl⟩
set_option maxRecDepth 100000 in
theorem ct_X7_init (H : xh_L hl) (d : Nat) {g : Nat → Option va_E} {b : Nat} (hb : lo ≤ b) : xm_M xp ac lo xp_fty xp_dfl sv (d + 1) nm_X7_init [.ref (b + 0)] (hl g b [.inr (7, [.null, .null, .null, .null, .null, .null, .null, .null, .null, .null, .null, .null, .int 0, .int 0])]) 12 14912 (xq0 (hl g b [.inr (7, [.ref (b + 1), .ref (b + 2), .ref (b + 3), .ref (b + 4), .ref (b + 5), .ref (b + 6), .ref (b + 7), .ref (b + 8), .ref (b + 9), .ref (b + 10), .ref (b + 11), .ref (b + 12), .int 0, .int 0]), .inl (ac 0, 9, .inl (fun _ => 0)), .inl (ac 0, 6, .inl (fun _ => 0)), .inl (ac 0, 301, .inl (fun _ => 0)), .inl (ac 0, 720, .inl (fun _ => 0)), .inl (ac 1, 2160, .inr (.inl (fun _ => 0))), .inl (ac 0, 720, .inl (fun _ => 0)), .inl (ac 1, 6900, .inr (.inl (fun _ => 0))), .inl (ac 0, 2048, .inl (fun _ => 0)), .inl (ac 1, 512, .inr (.inl (fun _ => 0))), .inl (ac 1, 512, .inr (.inl (fun _ => 0))), .inl (ac 0, 512, .inl (fun _ => 0)), .inl (ac 0, 512, .inl (fun _ => 0))])) := by
  refine ⟨rfl, Nat.le_of_ble_eq_true rfl, Nat.le_of_ble_eq_true rfl, fun X hX => xm_run hX 1000 _ _ _ _ _ _ ?_⟩
  conv => whnf
  refine ⟨rfl, Nat.le_of_ble_eq_true rfl, ?_⟩
  conv => whnf
  refine ⟨by decide, by decide, Nat.le_of_ble_eq_true rfl, Nat.le_of_ble_eq_true rfl, ?_⟩
  dsimp only [xm_new]
  rw [H.2.2.1, H.2.1]
  simp only [List.cons_append, List.nil_append, List.length_cons, List.length_nil, Nat.reduceAdd, List.set_cons_zero, List.set_cons_succ, List.take_succ_cons, List.take_zero, Nat.add_assoc, xp_dfl]
  conv => whnf
  rw [H.1]
  conv => whnf
  refine ⟨rfl, Nat.le_trans hb (Nat.le_add_right _ _), Nat.le_of_ble_eq_true rfl, ⟨rfl, rfl⟩, ?_⟩
  rw [H.2.2.2.1 _ _ _ _ _ (Nat.le_of_ble_eq_true rfl)]
  simp only [List.cons_append, List.nil_append, List.length_cons, List.length_nil, Nat.reduceAdd, List.set_cons_zero, List.set_cons_succ, List.take_succ_cons, List.take_zero, Nat.add_assoc, xp_dfl]
  conv => whnf
  refine ⟨by decide, by decide, Nat.le_of_ble_eq_true rfl, Nat.le_of_ble_eq_true rfl, ?_⟩
  dsimp only [xm_new]
  rw [H.2.2.1, H.2.1]
  simp only [List.cons_append, List.nil_append, List.length_cons, List.length_nil, Nat.reduceAdd, List.set_cons_zero, List.set_cons_succ, List.take_succ_cons, List.take_zero, Nat.add_assoc, xp_dfl]
  conv => whnf
  rw [H.1]
  conv => whnf
  refine ⟨rfl, Nat.le_trans hb (Nat.le_add_right _ _), Nat.le_of_ble_eq_true rfl, ⟨rfl, rfl⟩, ?_⟩
  rw [H.2.2.2.1 _ _ _ _ _ (Nat.le_of_ble_eq_true rfl)]
  simp only [List.cons_append, List.nil_append, List.length_cons, List.length_nil, Nat.reduceAdd, List.set_cons_zero, List.set_cons_succ, List.take_succ_cons, List.take_zero, Nat.add_assoc, xp_dfl]
  conv => whnf
  refine ⟨by decide, by decide, Nat.le_of_ble_eq_true rfl, Nat.le_of_ble_eq_true rfl, ?_⟩
  dsimp only [xm_new]
  rw [H.2.2.1, H.2.1]
  simp only [List.cons_append, List.nil_append, List.length_cons, List.length_nil, Nat.reduceAdd, List.set_cons_zero, List.set_cons_succ, List.take_succ_cons, List.take_zero, Nat.add_assoc, xp_dfl]
  conv => whnf
  rw [H.1]
  conv => whnf
  refine ⟨rfl, Nat.le_trans hb (Nat.le_add_right _ _), Nat.le_of_ble_eq_true rfl, ⟨rfl, rfl⟩, ?_⟩
  rw [H.2.2.2.1 _ _ _ _ _ (Nat.le_of_ble_eq_true rfl)]
  simp only [List.cons_append, List.nil_append, List.length_cons, List.length_nil, Nat.reduceAdd, List.set_cons_zero, List.set_cons_succ, List.take_succ_cons, List.take_zero, Nat.add_assoc, xp_dfl]
  conv => whnf
  refine ⟨by decide, by decide, Nat.le_of_ble_eq_true rfl, Nat.le_of_ble_eq_true rfl, ?_⟩
  dsimp only [xm_new]
  rw [H.2.2.1, H.2.1]
  simp only [List.cons_append, List.nil_append, List.length_cons, List.length_nil, Nat.reduceAdd, List.set_cons_zero, List.set_cons_succ, List.take_succ_cons, List.take_zero, Nat.add_assoc, xp_dfl]
  conv => whnf
  rw [H.1]
  conv => whnf
  refine ⟨rfl, Nat.le_trans hb (Nat.le_add_right _ _), Nat.le_of_ble_eq_true rfl, ⟨rfl, rfl⟩, ?_⟩
  rw [H.2.2.2.1 _ _ _ _ _ (Nat.le_of_ble_eq_true rfl)]
  simp only [List.cons_append, List.nil_append, List.length_cons, List.length_nil, Nat.reduceAdd, List.set_cons_zero, List.set_cons_succ, List.take_succ_cons, List.take_zero, Nat.add_assoc, xp_dfl]
  conv => whnf
  refine ⟨by decide, by decide, Nat.le_of_ble_eq_true rfl, Nat.le_of_ble_eq_true rfl, ?_⟩
  dsimp only [xm_new]
  rw [H.2.2.1, H.2.1]
  simp only [List.cons_append, List.nil_append, List.length_cons, List.length_nil, Nat.reduceAdd, List.set_cons_zero, List.set_cons_succ, List.take_succ_cons, List.take_zero, Nat.add_assoc, xp_dfl]
  conv => whnf
  rw [H.1]
  conv => whnf
  refine ⟨rfl, Nat.le_trans hb (Nat.le_add_right _ _), Nat.le_of_ble_eq_true rfl, ⟨rfl, rfl⟩, ?_⟩
  rw [H.2.2.2.1 _ _ _ _ _ (Nat.le_of_ble_eq_true rfl)]
  simp only [List.cons_append, List.nil_append, List.length_cons, List.length_nil, Nat.reduceAdd, List.set_cons_zero, List.set_cons_succ, List.take_succ_cons, List.take_zero, Nat.add_assoc, xp_dfl]
  conv => whnf
  refine ⟨by decide, by decide, Nat.le_of_ble_eq_true rfl, Nat.le_of_ble_eq_true rfl, ?_⟩
  dsimp only [xm_new]
  rw [H.2.2.1, H.2.1]
  simp only [List.cons_append, List.nil_append, List.length_cons, List.length_nil, Nat.reduceAdd, List.set_cons_zero, List.set_cons_succ, List.take_succ_cons, List.take_zero, Nat.add_assoc, xp_dfl]
  conv => whnf
  rw [H.1]
  conv => whnf
  refine ⟨rfl, Nat.le_trans hb (Nat.le_add_right _ _), Nat.le_of_ble_eq_true rfl, ⟨rfl, rfl⟩, ?_⟩
  rw [H.2.2.2.1 _ _ _ _ _ (Nat.le_of_ble_eq_true rfl)]
  simp only [List.cons_append, List.nil_append, List.length_cons, List.length_nil, Nat.reduceAdd, List.set_cons_zero, List.set_cons_succ, List.take_succ_cons, List.take_zero, Nat.add_assoc, xp_dfl]
  conv => whnf
  refine ⟨by decide, by decide, Nat.le_of_ble_eq_true rfl, Nat.le_of_ble_eq_true rfl, ?_⟩
  dsimp only [xm_new]
  rw [H.2.2.1, H.2.1]
  simp only [List.cons_append, List.nil_append, List.length_cons, List.length_nil, Nat.reduceAdd, List.set_cons_zero, List.set_cons_succ, List.take_succ_cons, List.take_zero, Nat.add_assoc, xp_dfl]
  conv => whnf
  rw [H.1]
  conv => whnf
  refine ⟨rfl, Nat.le_trans hb (Nat.le_add_right _ _), Nat.le_of_ble_eq_true rfl, ⟨rfl, rfl⟩, ?_⟩
  rw [H.2.2.2.1 _ _ _ _ _ (Nat.le_of_ble_eq_true rfl)]
  simp only [List.cons_append, List.nil_append, List.length_cons, List.length_nil, Nat.reduceAdd, List.set_cons_zero, List.set_cons_succ, List.take_succ_cons, List.take_zero, Nat.add_assoc, xp_dfl]
  conv => whnf
  refine ⟨by decide, by decide, Nat.le_of_ble_eq_true rfl, Nat.le_of_ble_eq_true rfl, ?_⟩
  dsimp only [xm_new]
  rw [H.2.2.1, H.2.1]
  simp only [List.cons_append, List.nil_append, List.length_cons, List.length_nil, Nat.reduceAdd, List.set_cons_zero, List.set_cons_succ, List.take_succ_cons, List.take_zero, Nat.add_assoc, xp_dfl]
  conv => whnf
  rw [H.1]
  conv => whnf
  refine ⟨rfl, Nat.le_trans hb (Nat.le_add_right _ _), Nat.le_of_ble_eq_true rfl, ⟨rfl, rfl⟩, ?_⟩
  rw [H.2.2.2.1 _ _ _ _ _ (Nat.le_of_ble_eq_true rfl)]
  simp only [List.cons_append, List.nil_append, List.length_cons, List.length_nil, Nat.reduceAdd, List.set_cons_zero, List.set_cons_succ, List.take_succ_cons, List.take_zero, Nat.add_assoc, xp_dfl]
  conv => whnf
  refine ⟨by decide, by decide, Nat.le_of_ble_eq_true rfl, Nat.le_of_ble_eq_true rfl, ?_⟩
  dsimp only [xm_new]
  rw [H.2.2.1, H.2.1]
  simp only [List.cons_append, List.nil_append, List.length_cons, List.length_nil, Nat.reduceAdd, List.set_cons_zero, List.set_cons_succ, List.take_succ_cons, List.take_zero, Nat.add_assoc, xp_dfl]
  conv => whnf
  rw [H.1]
  conv => whnf
  refine ⟨rfl, Nat.le_trans hb (Nat.le_add_right _ _), Nat.le_of_ble_eq_true rfl, ⟨rfl, rfl⟩, ?_⟩
  rw [H.2.2.2.1 _ _ _ _ _ (Nat.le_of_ble_eq_true rfl)]
  simp only [List.cons_append, List.nil_append, List.length_cons, List.length_nil, Nat.reduceAdd, List.set_cons_zero, List.set_cons_succ, List.take_succ_cons, List.take_zero, Nat.add_assoc, xp_dfl]
  conv => whnf
  refine ⟨by decide, by decide, Nat.le_of_ble_eq_true rfl, Nat.le_of_ble_eq_true rfl, ?_⟩
  dsimp only [xm_new]
  rw [H.2.2.1, H.2.1]
  simp only [List.cons_append, List.nil_append, List.length_cons, List.length_nil, Nat.reduceAdd, List.set_cons_zero, List.set_cons_succ, List.take_succ_cons, List.take_zero, Nat.add_assoc, xp_dfl]
  conv => whnf
  rw [H.1]
  conv => whnf
  refine ⟨rfl, Nat.le_trans hb (Nat.le_add_right _ _), Nat.le_of_ble_eq_true rfl, ⟨rfl, rfl⟩, ?_⟩
  rw [H.2.2.2.1 _ _ _ _ _ (Nat.le_of_ble_eq_true rfl)]
  simp only [List.cons_append, List.nil_append, List.length_cons, List.length_nil, Nat.reduceAdd, List.set_cons_zero, List.set_cons_succ, List.take_succ_cons, List.take_zero, Nat.add_assoc, xp_dfl]
  conv => whnf
  refine ⟨by decide, by decide, Nat.le_of_ble_eq_true rfl, Nat.le_of_ble_eq_true rfl, ?_⟩
  dsimp only [xm_new]
  rw [H.2.2.1, H.2.1]
  simp only [List.cons_append, List.nil_append, List.length_cons, List.length_nil, Nat.reduceAdd, List.set_cons_zero, List.set_cons_succ, List.take_succ_cons, List.take_zero, Nat.add_assoc, xp_dfl]
  conv => whnf
  rw [H.1]
  conv => whnf
  refine ⟨rfl, Nat.le_trans hb (Nat.le_add_right _ _), Nat.le_of_ble_eq_true rfl, ⟨rfl, rfl⟩, ?_⟩
  rw [H.2.2.2.1 _ _ _ _ _ (Nat.le_of_ble_eq_true rfl)]
  simp only [List.cons_append, List.nil_append, List.length_cons, List.length_nil, Nat.reduceAdd, List.set_cons_zero, List.set_cons_succ, List.take_succ_cons, List.take_zero, Nat.add_assoc, xp_dfl]
  conv => whnf
  refine ⟨by decide, by decide, Nat.le_of_ble_eq_true rfl, Nat.le_of_ble_eq_true rfl, ?_⟩
  dsimp only [xm_new]
  rw [H.2.2.1, H.2.1]
  simp only [List.cons_append, List.nil_append, List.length_cons, List.length_nil, Nat.reduceAdd, List.set_cons_zero, List.set_cons_succ, List.take_succ_cons, List.take_zero, Nat.add_assoc, xp_dfl]
  conv => whnf
  rw [H.1]
  conv => whnf
  refine ⟨rfl, Nat.le_trans hb (Nat.le_add_right _ _), Nat.le_of_ble_eq_true rfl, ⟨rfl, rfl⟩, ?_⟩
  rw [H.2.2.2.1 _ _ _ _ _ (Nat.le_of_ble_eq_true rfl)]
  simp only [List.cons_append, List.nil_append, List.length_cons, List.length_nil, Nat.reduceAdd, List.set_cons_zero, List.set_cons_succ, List.take_succ_cons, List.take_zero, Nat.add_assoc, xp_dfl]
  conv => whnf
  rw [H.1]
  conv => whnf
  refine ⟨rfl, Nat.le_trans hb (Nat.le_add_right _ _), Nat.le_of_ble_eq_true rfl, ⟨rfl, rfl⟩, ?_⟩
  rw [H.2.2.2.1 _ _ _ _ _ (Nat.le_of_ble_eq_true rfl)]
  simp only [List.cons_append, List.nil_append, List.length_cons, List.length_nil, Nat.reduceAdd, List.set_cons_zero, List.set_cons_succ, List.take_succ_cons, List.take_zero, Nat.add_assoc, xp_dfl]
  conv => whnf
  rw [H.1]
  conv => whnf
  refine ⟨rfl, Nat.le_trans hb (Nat.le_add_right _ _), Nat.le_of_ble_eq_true rfl, ⟨rfl, rfl⟩, ?_⟩
  rw [H.2.2.2.1 _ _ _ _ _ (Nat.le_of_ble_eq_true rfl)]
  simp only [List.cons_append, List.nil_append, List.length_cons, List.length_nil, Nat.reduceAdd, List.set_cons_zero, List.set_cons_succ, List.take_succ_cons, List.take_zero, Nat.add_assoc, xp_dfl]
  conv => whnf
  exact ⟨rfl, rfl, rfl⟩
set_option maxRecDepth 100000 in
theorem ct_X9_init (H : xh_L hl) (d : Nat) {g : Nat → Option va_E} {b : Nat} (hb : lo ≤ b) : xm_M xp ac lo xp_fty xp_dfl sv (d + 1) nm_X9_init [.ref (b + 0)] (hl g b [.inr (9, [.null, .null, .null, .null, .null, .null, .null, .null, .null, .null, .null, .int 0])]) 20 2584 (xq0 (hl g b [.inr (9, [.ref (b + 1), .ref (b + 5), .ref (b + 9), .ref (b + 13), .ref (b + 14), .ref (b + 15), .ref (b + 16), .ref (b + 17), .ref (b + 18), .ref (b + 19), .ref (b + 20), .int 0]), .inl (ac 5, 3, .inr (.inr (.inr (.inr (va_up (va_up (va_up (fun _ => none) 0 (some (b + 2))) 1 (some (b + 3))) 2 (some (b + 4))))))), .inl (ac 0, 150, .inl (fun _ => 0)), .inl (ac 0, 150, .inl (fun _ => 0)), .inl (ac 0, 150, .inl (fun _ => 0)), .inl (ac 5, 3, .inr (.inr (.inr (.inr (va_up (va_up (va_up (fun _ => none) 0 (some (b + 6))) 1 (some (b + 7))) 2 (some (b + 8))))))), .inl (ac 0, 150, .inl (fun _ => 0)), .inl (ac 0, 150, .inl (fun _ => 0)), .inl (ac 0, 150, .inl (fun _ => 0)), .inl (ac 5, 3, .inr (.inr (.inr (.inr (va_up (va_up (va_up (fun _ => none) 0 (some (b + 10))) 1 (some (b + 11))) 2 (some (b + 12))))))), .inl (ac 0, 150, .inl (fun _ => 0)), .inl (ac 0, 150, .inl (fun _ => 0)), .inl (ac 0, 150, .inl (fun _ => 0)), .inl (ac 0, 3, .inl (fun _ => 0)), .inl (ac 0, 3, .inl (fun _ => 0)), .inl (ac 0, 150, .inl (fun _ => 0)), .inl (ac 1, 150, .inr (.inl (fun _ => 0))), .inl (ac 1, 150, .inr (.inl (fun _ => 0))), .inl (ac 1, 256, .inr (.inl (fun _ => 0))), .inl (ac 1, 256, .inr (.inl (fun _ => 0))), .inl (ac 0, 257, .inl (fun _ => 0))])) := by
  refine ⟨rfl, Nat.le_of_ble_eq_true rfl, Nat.le_of_ble_eq_true rfl, fun X hX => xm_run hX 1000 _ _ _ _ _ _ ?_⟩
  conv => whnf
  refine ⟨rfl, Nat.le_of_ble_eq_true rfl, ?_⟩
  conv => whnf
  refine ⟨rfl, by decide, by decide, Nat.le_of_ble_eq_true rfl, Nat.le_of_ble_eq_true rfl, ?_⟩
  unfold xm_n4
  rw [H.2.2.1, H.2.2.1, H.2.2.1, H.2.2.1, H.2.1]
  simp only [List.cons_append, List.nil_append, List.length_cons, List.length_nil, Nat.reduceAdd, List.set_cons_zero, List.set_cons_succ, List.take_succ_cons, List.take_zero, Nat.add_assoc, xp_dfl]
  conv => whnf
  rw [H.1]
  conv => whnf
  refine ⟨rfl, Nat.le_trans hb (Nat.le_add_right _ _), Nat.le_of_ble_eq_true rfl, ⟨rfl, rfl⟩, ?_⟩
  rw [H.2.2.2.1 _ _ _ _ _ (Nat.le_of_ble_eq_true rfl)]
  simp only [List.cons_append, List.nil_append, List.length_cons, List.length_nil, Nat.reduceAdd, List.set_cons_zero, List.set_cons_succ, List.take_succ_cons, List.take_zero, Nat.add_assoc, xp_dfl]
  conv => whnf
  refine ⟨rfl, by decide, by decide, Nat.le_of_ble_eq_true rfl, Nat.le_of_ble_eq_true rfl, ?_⟩
  unfold xm_n4
  rw [H.2.2.1, H.2.2.1, H.2.2.1, H.2.2.1, H.2.1]
  simp only [List.cons_append, List.nil_append, List.length_cons, List.length_nil, Nat.reduceAdd, List.set_cons_zero, List.set_cons_succ, List.take_succ_cons, List.take_zero, Nat.add_assoc, xp_dfl]
  conv => whnf
  rw [H.1]
  conv => whnf
  refine ⟨rfl, Nat.le_trans hb (Nat.le_add_right _ _), Nat.le_of_ble_eq_true rfl, ⟨rfl, rfl⟩, ?_⟩
  rw [H.2.2.2.1 _ _ _ _ _ (Nat.le_of_ble_eq_true rfl)]
  simp only [List.cons_append, List.nil_append, List.length_cons, List.length_nil, Nat.reduceAdd, List.set_cons_zero, List.set_cons_succ, List.take_succ_cons, List.take_zero, Nat.add_assoc, xp_dfl]
  conv => whnf
  refine ⟨rfl, by decide, by decide, Nat.le_of_ble_eq_true rfl, Nat.le_of_ble_eq_true rfl, ?_⟩
  unfold xm_n4
  rw [H.2.2.1, H.2.2.1, H.2.2.1, H.2.2.1, H.2.1]
  simp only [List.cons_append, List.nil_append, List.length_cons, List.length_nil, Nat.reduceAdd, List.set_cons_zero, List.set_cons_succ, List.take_succ_cons, List.take_zero, Nat.add_assoc, xp_dfl]
  conv => whnf
  rw [H.1]
  conv => whnf
  refine ⟨rfl, Nat.le_trans hb (Nat.le_add_right _ _), Nat.le_of_ble_eq_true rfl, ⟨rfl, rfl⟩, ?_⟩
  rw [H.2.2.2.1 _ _ _ _ _ (Nat.le_of_ble_eq_true rfl)]
  simp only [List.cons_append, List.nil_append, List.length_cons, List.length_nil, Nat.reduceAdd, List.set_cons_zero, List.set_cons_succ, List.take_succ_cons, List.take_zero, Nat.add_assoc, xp_dfl]
  conv => whnf
  refine ⟨by decide, by decide, Nat.le_of_ble_eq_true rfl, Nat.le_of_ble_eq_true rfl, ?_⟩
  dsimp only [xm_new]
  rw [H.2.2.1, H.2.1]
  simp only [List.cons_append, List.nil_append, List.length_cons, List.length_nil, Nat.reduceAdd, List.set_cons_zero, List.set_cons_succ, List.take_succ_cons, List.take_zero, Nat.add_assoc, xp_dfl]
  conv => whnf
  rw [H.1]
  conv => whnf
  refine ⟨rfl, Nat.le_trans hb (Nat.le_add_right _ _), Nat.le_of_ble_eq_true rfl, ⟨rfl, rfl⟩, ?_⟩
  rw [H.2.2.2.1 _ _ _ _ _ (Nat.le_of_ble_eq_true rfl)]
  simp only [List.cons_append, List.nil_append, List.length_cons, List.length_nil, Nat.reduceAdd, List.set_cons_zero, List.set_cons_succ, List.take_succ_cons, List.take_zero, Nat.add_assoc, xp_dfl]
  conv => whnf
  refine ⟨by decide, by decide, Nat.le_of_ble_eq_true rfl, Nat.le_of_ble_eq_true rfl, ?_⟩
  dsimp only [xm_new]
  rw [H.2.2.1, H.2.1]
  simp only [List.cons_append, List.nil_append, List.length_cons, List.length_nil, Nat.reduceAdd, List.set_cons_zero, List.set_cons_succ, List.take_succ_cons, List.take_zero, Nat.add_assoc, xp_dfl]
  conv => whnf
  rw [H.1]
  conv => whnf
  refine ⟨rfl, Nat.le_trans hb (Nat.le_add_right _ _), Nat.le_of_ble_eq_true rfl, ⟨rfl, rfl⟩, ?_⟩
  rw [H.2.2.2.1 _ _ _ _ _ (Nat.le_of_ble_eq_true rfl)]
  simp only [List.cons_append, List.nil_append, List.length_cons, List.length_nil, Nat.reduceAdd, List.set_cons_zero, List.set_cons_succ, List.take_succ_cons, List.take_zero, Nat.add_assoc, xp_dfl]
  conv => whnf
  refine ⟨by decide, by decide, Nat.le_of_ble_eq_true rfl, Nat.le_of_ble_eq_true rfl, ?_⟩
  dsimp only [xm_new]
  rw [H.2.2.1, H.2.1]
  simp only [List.cons_append, List.nil_append, List.length_cons, List.length_nil, Nat.reduceAdd, List.set_cons_zero, List.set_cons_succ, List.take_succ_cons, List.take_zero, Nat.add_assoc, xp_dfl]
  conv => whnf
  rw [H.1]
  conv => whnf
  refine ⟨rfl, Nat.le_trans hb (Nat.le_add_right _ _), Nat.le_of_ble_eq_true rfl, ⟨rfl, rfl⟩, ?_⟩
  rw [H.2.2.2.1 _ _ _ _ _ (Nat.le_of_ble_eq_true rfl)]
  simp only [List.cons_append, List.nil_append, List.length_cons, List.length_nil, Nat.reduceAdd, List.set_cons_zero, List.set_cons_succ, List.take_succ_cons, List.take_zero, Nat.add_assoc, xp_dfl]
  conv => whnf
  refine ⟨by decide, by decide, Nat.le_of_ble_eq_true rfl, Nat.le_of_ble_eq_true rfl, ?_⟩
  dsimp only [xm_new]
  rw [H.2.2.1, H.2.1]
  simp only [List.cons_append, List.nil_append, List.length_cons, List.length_nil, Nat.reduceAdd, List.set_cons_zero, List.set_cons_succ, List.take_succ_cons, List.take_zero, Nat.add_assoc, xp_dfl]
  conv => whnf
  rw [H.1]
  conv => whnf
  refine ⟨rfl, Nat.le_trans hb (Nat.le_add_right _ _), Nat.le_of_ble_eq_true rfl, ⟨rfl, rfl⟩, ?_⟩
  rw [H.2.2.2.1 _ _ _ _ _ (Nat.le_of_ble_eq_true rfl)]
  simp only [List.cons_append, List.nil_append, List.length_cons, List.length_nil, Nat.reduceAdd, List.set_cons_zero, List.set_cons_succ, List.take_succ_cons, List.take_zero, Nat.add_assoc, xp_dfl]
  conv => whnf
  refine ⟨by decide, by decide, Nat.le_of_ble_eq_true rfl, Nat.le_of_ble_eq_true rfl, ?_⟩
  dsimp only [xm_new]
  rw [H.2.2.1, H.2.1]
  simp only [List.cons_append, List.nil_append, List.length_cons, List.length_nil, Nat.reduceAdd, List.set_cons_zero, List.set_cons_succ, List.take_succ_cons, List.take_zero, Nat.add_assoc, xp_dfl]
  conv => whnf
  rw [H.1]
  conv => whnf
  refine ⟨rfl, Nat.le_trans hb (Nat.le_add_right _ _), Nat.le_of_ble_eq_true rfl, ⟨rfl, rfl⟩, ?_⟩
  rw [H.2.2.2.1 _ _ _ _ _ (Nat.le_of_ble_eq_true rfl)]
  simp only [List.cons_append, List.nil_append, List.length_cons, List.length_nil, Nat.reduceAdd, List.set_cons_zero, List.set_cons_succ, List.take_succ_cons, List.take_zero, Nat.add_assoc, xp_dfl]
  conv => whnf
  refine ⟨by decide, by decide, Nat.le_of_ble_eq_true rfl, Nat.le_of_ble_eq_true rfl, ?_⟩
  dsimp only [xm_new]
  rw [H.2.2.1, H.2.1]
  simp only [List.cons_append, List.nil_append, List.length_cons, List.length_nil, Nat.reduceAdd, List.set_cons_zero, List.set_cons_succ, List.take_succ_cons, List.take_zero, Nat.add_assoc, xp_dfl]
  conv => whnf
  rw [H.1]
  conv => whnf
  refine ⟨rfl, Nat.le_trans hb (Nat.le_add_right _ _), Nat.le_of_ble_eq_true rfl, ⟨rfl, rfl⟩, ?_⟩
  rw [H.2.2.2.1 _ _ _ _ _ (Nat.le_of_ble_eq_true rfl)]
  simp only [List.cons_append, List.nil_append, List.length_cons, List.length_nil, Nat.reduceAdd, List.set_cons_zero, List.set_cons_succ, List.take_succ_cons, List.take_zero, Nat.add_assoc, xp_dfl]
  conv => whnf
  refine ⟨by decide, by decide, Nat.le_of_ble_eq_true rfl, Nat.le_of_ble_eq_true rfl, ?_⟩
  dsimp only [xm_new]
  rw [H.2.2.1, H.2.1]
  simp only [List.cons_append, List.nil_append, List.length_cons, List.length_nil, Nat.reduceAdd, List.set_cons_zero, List.set_cons_succ, List.take_succ_cons, List.take_zero, Nat.add_assoc, xp_dfl]
  conv => whnf
  rw [H.1]
  conv => whnf
  refine ⟨rfl, Nat.le_trans hb (Nat.le_add_right _ _), Nat.le_of_ble_eq_true rfl, ⟨rfl, rfl⟩, ?_⟩
  rw [H.2.2.2.1 _ _ _ _ _ (Nat.le_of_ble_eq_true rfl)]
  simp only [List.cons_append, List.nil_append, List.length_cons, List.length_nil, Nat.reduceAdd, List.set_cons_zero, List.set_cons_succ, List.take_succ_cons, List.take_zero, Nat.add_assoc, xp_dfl]
  conv => whnf
  refine ⟨by decide, by decide, Nat.le_of_ble_eq_true rfl, Nat.le_of_ble_eq_true rfl, ?_⟩
  dsimp only [xm_new]
  rw [H.2.2.1, H.2.1]
  simp only [List.cons_append, List.nil_append, List.length_cons, List.length_nil, Nat.reduceAdd, List.set_cons_zero, List.set_cons_succ, List.take_succ_cons, List.take_zero, Nat.add_assoc, xp_dfl]
  conv => whnf
  rw [H.1]
  conv => whnf
  refine ⟨rfl, Nat.le_trans hb (Nat.le_add_right _ _), Nat.le_of_ble_eq_true rfl, ⟨rfl, rfl⟩, ?_⟩
  rw [H.2.2.2.1 _ _ _ _ _ (Nat.le_of_ble_eq_true rfl)]
  simp only [List.cons_append, List.nil_append, List.length_cons, List.length_nil, Nat.reduceAdd, List.set_cons_zero, List.set_cons_succ, List.take_succ_cons, List.take_zero, Nat.add_assoc, xp_dfl]
  conv => whnf
  rw [H.1]
  conv => whnf
  refine ⟨rfl, Nat.le_trans hb (Nat.le_add_right _ _), Nat.le_of_ble_eq_true rfl, ⟨rfl, rfl⟩, ?_⟩
  rw [H.2.2.2.1 _ _ _ _ _ (Nat.le_of_ble_eq_true rfl)]
  simp only [List.cons_append, List.nil_append, List.length_cons, List.length_nil, Nat.reduceAdd, List.set_cons_zero, List.set_cons_succ, List.take_succ_cons, List.take_zero, Nat.add_assoc, xp_dfl]
  conv => whnf
  exact ⟨rfl, rfl, rfl⟩
set_option maxRecDepth 100000 in
theorem ct_X6_init_64 (H : xh_L hl) (d : Nat) {g : Nat → Option va_E} {b : Nat} (hb : lo ≤ b) : xm_M xp ac lo xp_fty xp_dfl sv (d + 1) nm_X6_init [.ref (b + 0), .int 64] (hl g b [.inr (6, [.null, .null, .int 0, .int 0])]) 2 260 (xq0 (hl g b [.inr (6, [.ref (b + 2), .ref (b + 1), .int 1, .int 0]), .inl (ac 1, 4, .inr (.inl (fun _ => 0))), .inl (ac 1, 256, .inr (.inl (fun _ => 0)))])) := by
  refine ⟨rfl, Nat.le_of_ble_eq_true rfl, Nat.le_of_ble_eq_true rfl, fun X hX => xm_run hX 1000 _ _ _ _ _ _ ?_⟩
  conv => whnf
  refine ⟨rfl, Nat.le_of_ble_eq_true rfl, ?_⟩
  conv => whnf
  refine ⟨by decide, by decide, Nat.le_of_ble_eq_true rfl, Nat.le_of_ble_eq_true rfl, ?_⟩
  dsimp only [xm_new]
  rw [H.2.2.1, H.2.1]
  simp only [List.cons_append, List.nil_append, List.length_cons, List.length_nil, Nat.reduceAdd, List.set_cons_zero, List.set_cons_succ, List.take_succ_cons, List.take_zero, Nat.add_assoc, xp_dfl]
  conv => whnf
  rw [H.1]
  conv => whnf
  refine ⟨rfl, Nat.le_trans hb (Nat.le_add_right _ _), Nat.le_of_ble_eq_true rfl, ⟨rfl, rfl⟩, ?_⟩
  rw [H.2.2.2.1 _ _ _ _ _ (Nat.le_of_ble_eq_true rfl)]
  simp only [List.cons_append, List.nil_append, List.length_cons, List.length_nil, Nat.reduceAdd, List.set_cons_zero, List.set_cons_succ, List.take_succ_cons, List.take_zero, Nat.add_assoc, xp_dfl]
  conv => whnf
  rw [H.1]
  conv => whnf
  refine ⟨rfl, Nat.le_trans hb (Nat.le_add_right _ _), Nat.le_of_ble_eq_true rfl, ⟨rfl, rfl⟩, ?_⟩
  rw [H.2.2.2.1 _ _ _ _ _ (Nat.le_of_ble_eq_true rfl)]
  simp only [List.cons_append, List.nil_append, List.length_cons, List.length_nil, Nat.reduceAdd, List.set_cons_zero, List.set_cons_succ, List.take_succ_cons, List.take_zero, Nat.add_assoc, xp_dfl]
  conv => whnf
  rw [H.1]
  conv => whnf
  refine ⟨rfl, Nat.le_trans hb (Nat.le_add_right _ _), Nat.le_of_ble_eq_true rfl, ⟨rfl, rfl⟩, ?_⟩
  rw [H.2.2.2.1 _ _ _ _ _ (Nat.le_of_ble_eq_true rfl)]
  simp only [List.cons_append, List.nil_append, List.length_cons, List.length_nil, Nat.reduceAdd, List.set_cons_zero, List.set_cons_succ, List.take_succ_cons, List.take_zero, Nat.add_assoc, xp_dfl]
  conv => whnf
  refine ⟨by decide, by decide, Nat.le_of_ble_eq_true rfl, Nat.le_of_ble_eq_true rfl, ?_⟩
  dsimp only [xm_new]
  rw [H.2.2.1, H.2.1]
  simp only [List.cons_append, List.nil_append, List.length_cons, List.length_nil, Nat.reduceAdd, List.set_cons_zero, List.set_cons_succ, List.take_succ_cons, List.take_zero, Nat.add_assoc, xp_dfl]
  conv => whnf
  rw [H.1]
  conv => whnf
  refine ⟨rfl, Nat.le_trans hb (Nat.le_add_right _ _), Nat.le_of_ble_eq_true rfl, ⟨rfl, rfl⟩, ?_⟩
  rw [H.2.2.2.1 _ _ _ _ _ (Nat.le_of_ble_eq_true rfl)]
  simp only [List.cons_append, List.nil_append, List.length_cons, List.length_nil, Nat.reduceAdd, List.set_cons_zero, List.set_cons_succ, List.take_succ_cons, List.take_zero, Nat.add_assoc, xp_dfl]
  conv => whnf
  exact ⟨rfl, rfl, rfl⟩
set_option maxRecDepth 100000 in
theorem ct_X1_init (H : xh_L hl) (d : Nat) {g : Nat → Option va_E} {b : Nat} (hb : lo ≤ b) : xm_M xp ac lo xp_fty xp_dfl sv (d + 2) nm_X1_init [.ref (b + 0)] (hl g b [.inr (1, [.null, .int 0, .int 0, .int 0])]) 3 264 (xq0 (hl g b [.inr (1, [.ref (b + 1), .int 0, .int 0, .int 0]), .inr (6, [.ref (b + 3), .ref (b + 2), .int 1, .int 0]), .inl (ac 1, 4, .inr (.inl (fun _ => 0))), .inl (ac 1, 256, .inr (.inl (fun _ => 0)))])) := by
  refine ⟨rfl, Nat.le_of_ble_eq_true rfl, Nat.le_of_ble_eq_true rfl, fun X hX => xm_run hX 1000 _ _ _ _ _ _ ?_⟩
  conv => whnf
  refine ⟨rfl, Nat.le_of_ble_eq_true rfl, ?_⟩
  conv => whnf
  refine ⟨Nat.le_of_ble_eq_true rfl, Nat.le_of_ble_eq_true rfl, ?_⟩
  rw [H.2.2.1, H.2.1]
  simp only [List.cons_append, List.nil_append, List.length_cons, List.length_nil, Nat.reduceAdd, List.set_cons_zero, List.set_cons_succ, List.take_succ_cons, List.take_zero, Nat.add_assoc, xp_dfl]
  conv => whnf
  refine ⟨rfl, ?_⟩
  conv => whnf
  refine xw0 2 260 (Nat.le_of_ble_eq_true rfl) (Nat.le_of_ble_eq_true rfl) (Nat.le_of_ble_eq_true rfl) (by rw [xh_td H 1 (Nat.le_of_ble_eq_true rfl)]; exact ct_X6_init_64 H _ (Nat.le_trans hb (Nat.le_add_right _ _))) ?_
  rw [xh_bk H 1 (Nat.le_of_ble_eq_true rfl)]
  simp only [List.cons_append, List.nil_append, List.length_cons, List.length_nil, Nat.reduceAdd, List.set_cons_zero, List.set_cons_succ, List.take_succ_cons, List.take_zero, Nat.add_assoc, xp_dfl]
  conv => whnf
  rw [H.1]
  conv => whnf
  refine ⟨rfl, Nat.le_trans hb (Nat.le_add_right _ _), Nat.le_of_ble_eq_true rfl, ⟨rfl, rfl⟩, ?_⟩
  rw [H.2.2.2.1 _ _ _ _ _ (Nat.le_of_ble_eq_true rfl)]
  simp only [List.cons_append, List.nil_append, List.length_cons, List.length_nil, Nat.reduceAdd, List.set_cons_zero, List.set_cons_succ, List.take_succ_cons, List.take_zero, Nat.add_assoc, xp_dfl]
  conv => whnf
  rw [H.1]
  conv => whnf
  refine ⟨rfl, Nat.le_trans hb (Nat.le_add_right _ _), Nat.le_of_ble_eq_true rfl, ⟨rfl, rfl⟩, ?_⟩
  rw [H.2.2.2.1 _ _ _ _ _ (Nat.le_of_ble_eq_true rfl)]
  simp only [List.cons_append, List.nil_append, List.length_cons, List.length_nil, Nat.reduceAdd, List.set_cons_zero, List.set_cons_succ, List.take_succ_cons, List.take_zero, Nat.add_assoc, xp_dfl]
  conv => whnf
  rw [H.1]
  conv => whnf
  refine ⟨rfl, Nat.le_trans hb (Nat.le_add_right _ _), Nat.le_of_ble_eq_true rfl, ⟨rfl, rfl⟩, ?_⟩
  rw [H.2.2.2.1 _ _ _ _ _ (Nat.le_of_ble_eq_true rfl)]
  simp only [List.cons_append, List.nil_append, List.length_cons, List.length_nil, Nat.reduceAdd, List.set_cons_zero, List.set_cons_succ, List.take_succ_cons, List.take_zero, Nat.add_assoc, xp_dfl]
  conv => whnf
  rw [H.1]
  conv => whnf
  refine ⟨rfl, Nat.le_trans hb (Nat.le_add_right _ _), Nat.le_of_ble_eq_true rfl, ⟨rfl, rfl⟩, ?_⟩
  rw [H.2.2.2.1 _ _ _ _ _ (Nat.le_of_ble_eq_true rfl)]
  simp only [List.cons_append, List.nil_append, List.length_cons, List.length_nil, Nat.reduceAdd, List.set_cons_zero, List.set_cons_succ, List.take_succ_cons, List.take_zero, Nat.add_assoc, xp_dfl]
  conv => whnf
  exact ⟨rfl, rfl, rfl⟩
set_option maxRecDepth 100000 in
theorem ct_X8_setRow_0_0_1 (H : xh_L hl) (d : Nat) {g : Nat → Option va_E} {b : Nat} (hb : lo ≤ b) : xm_M xp ac lo xp_fty xp_dfl sv (d + 1) nm_X8_setRow [.ref (b + 25), .int 0, .int 0, .int 1] (hl g b [.inr (11, [.ref (b + 1), .ref (b + 2), .ref (b + 9), .ref (b + 17), .ref (b + 25), .ref (b + 29), .ref (b + 33), .ref (b + 36), .ref (b + 39), .ref (b + 46), .ref (b + 57), .ref (b + 70), .ref (b + 83), .ref (b + 104), .int 0, .int 0, .int 0, .int (-100), .int (-1)]), .inl (ac 4, 400, .inl (fun _ => 0)), .inr (5, [.ref (b + 3), .ref (b + 4), .ref (b + 5), .ref (b + 6), .ref (b + 7), .ref (b + 8), .null, .int 0, .int 0, .int 0, .int 0, .int 0, .int 0, .int 0, .int 0, .int 0, .int 0, .int 0, .int 0, .int 0]), .inl (ac 0, 300, .inl (fun _ => 0)), .inl (ac 0, 1200, .inl (fun _ => 0)), .inl (ac 0, 4, .inl (fun _ => 0)), .inl (ac 0, 4, .inl (fun _ => 0)), .inl (ac 0, 8, .inl (fun _ => 0)), .inl (ac 0, 4, .inl (fun _ => 0)), .inr (0, [.ref (b + 10), .ref (b + 11), .ref (b + 12), .ref (b + 13), .ref (b + 14), .ref (b + 15), .ref (b + 16), .int 0, .int 0, .int 0]), .inl (ac 0, 6000, .inl (fun _ => 0)), .inl (ac 0, 20, .inl (fun _ => 0)), .inl (ac 0, 20, .inl (fun _ => 0)), .inl (ac 0, 300, .inl (fun _ => 0)), .inl (ac 4, 64, .inl (fun _ => 0)), .inl (ac 0, 8, .inl (fun _ => 0)), .inl (ac 0, 256, .inl (fun _ => 0)), .inr (4, [.ref (b + 18), .ref (b + 21), .ref (b + 22), .ref (b + 23), .ref (b + 24), .int (-1), .int 0, .int 0, .int 0, .int 0, .int (-1), .long 0]), .inr (6, [.ref (b + 20), .ref (b + 19), .int 1, .int 0]), .inl (ac 1, 4, .inr (.inl (fun _ => 0))), .inl (ac 1, 1024, .inr (.inl (fun _ => 0))), .inl (ac 0, 16, .inl (fun _ => 0)), .inl (ac 0, 16, .inl (fun _ => 0)), .inl (ac 0, 256, .inl (fun _ => 0)), .inl (ac 0, 256, .inl (fun _ => 0)), .inr (8, [.ref (b + 26), .ref (b + 27), .ref (b + 28), .int 0, .int 0]), .inl (ac 0, 20, .inl (fun _ => 0)), .inl (ac 0, 20, .inl (fun _ => 0)), .inl (ac 0, 20, .inl (fun _ => 0)), .inr (8, [.ref (b + 30), .ref (b + 31), .ref (b + 32), .int 0, .int 0]), .inl (ac 0, 1, .inl (fun _ => 0)), .inl (ac 0, 1, .inl (fun _ => 0)), .inl (ac 0, 1, .inl (fun _ => 0)), .inr (6, [.ref (b + 35), .ref (b + 34), .int 1, .int 0]), .inl (ac 1, 4, .inr (.inl (fun _ => 0))), .inl (ac 1, 128, .inr (.inl (fun _ => 0))), .inr (6, [.ref (b + 38), .ref (b + 37), .int 1, .int 0]), .inl (ac 1, 4, .inr (.inl (fun _ => 0))), .inl (ac 1, 128, .inr (.inl (fun _ => 0))), .inr (10, [.ref (b + 40), .ref (b + 41), .ref (b + 42), .ref (b + 43), .ref (b + 44), .ref (b + 45), .int 0, .int 0, .int 0, .int (-1), .long 0]), .inl (ac 1, 60, .inr (.inl (fun _ => 0))), .inl (ac 1, 60, .inr (.inl (fun _ => 0))), .inl (ac 0, 60, .inl (fun _ => 0)), .inl (ac 0, 4, .inl (fun _ => 0)), .inl (ac 0, 60, .inl (fun _ => 0)), .inl (ac 1, 4, .inr (.inl (fun _ => 0))), .inr (3, [.ref (b + 47), .ref (b + 48), .ref (b + 49), .ref (b + 50), .ref (b + 51), .ref (b + 52), .ref (b + 53), .ref (b + 54), .ref (b + 55), .ref (b + 56), .int 0, .int 0, .int 0, .int 0, .int 0, .int 0, .int 0, .int 0]), .inl (ac 0, 8, .inl (fun _ => 0)), .inl (ac 0, 8, .inl (fun _ => 0)), .inl (ac 0, 8, .inl (fun _ => 0)), .inl (ac 0, 8, .inl (fun _ => 0)), .inl (ac 0, 512, .inl (fun _ => 0)), .inl (ac 0, 512, .inl (fun _ => 0)), .inl (ac 0, 256, .inl (fun _ => 0)), .inl (ac 0, 9, .inl (fun _ => 0)), .inl (ac 0, 9, .inl (fun _ => 0)), .inl (ac 0, 9, .inl (fun _ => 0)), .inr (2, [.ref (b + 58), .ref (b + 62), .ref (b + 63), .ref (b + 64), .ref (b + 65), .ref (b + 66), .ref (b + 67), .ref (b + 68), .ref (b + 69), .int (-1), .int 0, .int 0, .int 0, .int 0, .int (-1), .int 0]), .inr (8, [.ref (b + 59), .ref (b + 60), .ref (b + 61), .int 0, .int 0]), .inl (ac 0, 4, .inl (fun _ => 0)), .inl (ac 0, 4, .inl (fun _ => 0)), .inl (ac 0, 4, .inl (fun _ => 0)), .inl (ac 0, 224, .inl (fun _ => 0)), .inl (ac 0, 720, .inl (fun _ => 0)), .inl (ac 1, 720, .inr (.inl (fun _ => 0))), .inl (ac 0, 64, .inl (fun _ => 0)), .inl (ac 0, 301, .inl (fun _ => 0)), .inl (ac 4, 932, .inl (fun _ => 0)), .inl (ac 0, 24, .inl (fun _ => 0)), .inl (ac 0, 24, .inl (fun _ => 0)), .inr (7, [.ref (b + 71), .ref (b + 72), .ref (b + 73), .ref (b + 74), .ref (b + 75), .ref (b + 76), .ref (b + 77), .ref (b + 78), .ref (b + 79), .ref (b + 80), .ref (b + 81), .ref (b + 82), .int 0, .int 0]), .inl (ac 0, 9, .inl (fun _ => 0)), .inl (ac 0, 6, .inl (fun _ => 0)), .inl (ac 0, 301, .inl (fun _ => 0)), .inl (ac 0, 720, .inl (fun _ => 0)), .inl (ac 1, 2160, .inr (.inl (fun _ => 0))), .inl (ac 0, 720, .inl (fun _ => 0)), .inl (ac 1, 6900, .inr (.inl (fun _ => 0))), .inl (ac 0, 2048, .inl (fun _ => 0)), .inl (ac 1, 512, .inr (.inl (fun _ => 0))), .inl (ac 1, 512, .inr (.inl (fun _ => 0))), .inl (ac 0, 512, .inl (fun _ => 0)), .inl (ac 0, 512, .inl (fun _ => 0)), .inr (9, [.ref (b + 84), .ref (b + 88), .ref (b + 92), .ref (b + 96), .ref (b + 97), .ref (b + 98), .ref (b + 99), .ref (b + 100), .ref (b + 101), .ref (b + 102), .ref (b + 103), .int 0]), .inl (ac 5, 3, .inr (.inr (.inr (.inr (va_up (va_up (va_up (fun _ => none) 0 (some (b + 85))) 1 (some (b + 86))) 2 (some (b + 87))))))), .inl (ac 0, 150, .inl (fun _ => 0)), .inl (ac 0, 150, .inl (fun _ => 0)), .inl (ac 0, 150, .inl (fun _ => 0)), .inl (ac 5, 3, .inr (.inr (.inr (.inr (va_up (va_up (va_up (fun _ => none) 0 (some (b + 89))) 1 (some (b + 90))) 2 (some (b + 91))))))), .inl (ac 0, 150, .inl (fun _ => 0)), .inl (ac 0, 150, .inl (fun _ => 0)), .inl (ac 0, 150, .inl (fun _ => 0)), .inl (ac 5, 3, .inr (.inr (.inr (.inr (va_up (va_up (va_up (fun _ => none) 0 (some (b + 93))) 1 (some (b + 94))) 2 (some (b + 95))))))), .inl (ac 0, 150, .inl (fun _ => 0)), .inl (ac 0, 150, .inl (fun _ => 0)), .inl (ac 0, 150, .inl (fun _ => 0)), .inl (ac 0, 3, .inl (fun _ => 0)), .inl (ac 0, 3, .inl (fun _ => 0)), .inl (ac 0, 150, .inl (fun _ => 0)), .inl (ac 1, 150, .inr (.inl (fun _ => 0))), .inl (ac 1, 150, .inr (.inl (fun _ => 0))), .inl (ac 1, 256, .inr (.inl (fun _ => 0))), .inl (ac 1, 256, .inr (.inl (fun _ => 0))), .inl (ac 0, 257, .inl (fun _ => 0)), .inr (1, [.ref (b + 105), .int 0, .int 0, .int 0]), .inr (6, [.ref (b + 107), .ref (b + 106), .int 1, .int 0]), .inl (ac 1, 4, .inr (.inl (fun _ => 0))), .inl (ac 1, 256, .inr (.inl (fun _ => 0)))]) 0 0 (xq0 (hl g b [.inr (11, [.ref (b + 1), .ref (b + 2), .ref (b + 9), .ref (b + 17), .ref (b + 25), .ref (b + 29), .ref (b + 33), .ref (b + 36), .ref (b + 39), .ref (b + 46), .ref (b + 57), .ref (b + 70), .ref (b + 83), .ref (b + 104), .int 0, .int 0, .int 0, .int (-100), .int (-1)]), .inl (ac 4, 400, .inl (fun _ => 0)), .inr (5, [.ref (b + 3), .ref (b + 4), .ref (b + 5), .ref (b + 6), .ref (b + 7), .ref (b + 8), .null, .int 0, .int 0, .int 0, .int 0, .int 0, .int 0, .int 0, .int 0, .int 0, .int 0, .int 0, .int 0, .int 0]), .inl (ac 0, 300, .inl (fun _ => 0)), .inl (ac 0, 1200, .inl (fun _ => 0)), .inl (ac 0, 4, .inl (fun _ => 0)), .inl (ac 0, 4, .inl (fun _ => 0)), .inl (ac 0, 8, .inl (fun _ => 0)), .inl (ac 0, 4, .inl (fun _ => 0)), .inr (0, [.ref (b + 10), .ref (b + 11), .ref (b + 12), .ref (b + 13), .ref (b + 14), .ref (b + 15), .ref (b + 16), .int 0, .int 0, .int 0]), .inl (ac 0, 6000, .inl (fun _ => 0)), .inl (ac 0, 20, .inl (fun _ => 0)), .inl (ac 0, 20, .inl (fun _ => 0)), .inl (ac 0, 300, .inl (fun _ => 0)), .inl (ac 4, 64, .inl (fun _ => 0)), .inl (ac 0, 8, .inl (fun _ => 0)), .inl (ac 0, 256, .inl (fun _ => 0)), .inr (4, [.ref (b + 18), .ref (b + 21), .ref (b + 22), .ref (b + 23), .ref (b + 24), .int (-1), .int 0, .int 0, .int 0, .int 0, .int (-1), .long 0]), .inr (6, [.ref (b + 20), .ref (b + 19), .int 1, .int 0]), .inl (ac 1, 4, .inr (.inl (fun _ => 0))), .inl (ac 1, 1024, .inr (.inl (fun _ => 0))), .inl (ac 0, 16, .inl (fun _ => 0)), .inl (ac 0, 16, .inl (fun _ => 0)), .inl (ac 0, 256, .inl (fun _ => 0)), .inl (ac 0, 256, .inl (fun _ => 0)), .inr (8, [.ref (b + 26), .ref (b + 27), .ref (b + 28), .int 1, .int 0]), .inl (ac 0, 20, .inl (upd (fun _ => 0) 0 0)), .inl (ac 0, 20, .inl (upd (fun _ => 0) 0 1)), .inl (ac 0, 20, .inl (upd (fun _ => 0) 0 0)), .inr (8, [.ref (b + 30), .ref (b + 31), .ref (b + 32), .int 0, .int 0]), .inl (ac 0, 1, .inl (fun _ => 0)), .inl (ac 0, 1, .inl (fun _ => 0)), .inl (ac 0, 1, .inl (fun _ => 0)), .inr (6, [.ref (b + 35), .ref (b + 34), .int 1, .int 0]), .inl (ac 1, 4, .inr (.inl (fun _ => 0))), .inl (ac 1, 128, .inr (.inl (fun _ => 0))), .inr (6, [.ref (b + 38), .ref (b + 37), .int 1, .int 0]), .inl (ac 1, 4, .inr (.inl (fun _ => 0))), .inl (ac 1, 128, .inr (.inl (fun _ => 0))), .inr (10, [.ref (b + 40), .ref (b + 41), .ref (b + 42), .ref (b + 43), .ref (b + 44), .ref (b + 45), .int 0, .int 0, .int 0, .int (-1), .long 0]), .inl (ac 1, 60, .inr (.inl (fun _ => 0))), .inl (ac 1, 60, .inr (.inl (fun _ => 0))), .inl (ac 0, 60, .inl (fun _ => 0)), .inl (ac 0, 4, .inl (fun _ => 0)), .inl (ac 0, 60, .inl (fun _ => 0)), .inl (ac 1, 4, .inr (.inl (fun _ => 0))), .inr (3, [.ref (b + 47), .ref (b + 48), .ref (b + 49), .ref (b + 50), .ref (b + 51), .ref (b + 52), .ref (b + 53), .ref (b + 54), .ref (b + 55), .ref (b + 56), .int 0, .int 0, .int 0, .int 0, .int 0, .int 0, .int 0, .int 0]), .inl (ac 0, 8, .inl (fun _ => 0)), .inl (ac 0, 8, .inl (fun _ => 0)), .inl (ac 0, 8, .inl (fun _ => 0)), .inl (ac 0, 8, .inl (fun _ => 0)), .inl (ac 0, 512, .inl (fun _ => 0)), .inl (ac 0, 512, .inl (fun _ => 0)), .inl (ac 0, 256, .inl (fun _ => 0)), .inl (ac 0, 9, .inl (fun _ => 0)), .inl (ac 0, 9, .inl (fun _ => 0)), .inl (ac 0, 9, .inl (fun _ => 0)), .inr (2, [.ref (b + 58), .ref (b + 62), .ref (b + 63), .ref (b + 64), .ref (b + 65), .ref (b + 66), .ref (b + 67), .ref (b + 68), .ref (b + 69), .int (-1), .int 0, .int 0, .int 0, .int 0, .int (-1), .int 0]), .inr (8, [.ref (b + 59), .ref (b + 60), .ref (b + 61), .int 0, .int 0]), .inl (ac 0, 4, .inl (fun _ => 0)), .inl (ac 0, 4, .inl (fun _ => 0)), .inl (ac 0, 4, .inl (fun _ => 0)), .inl (ac 0, 224, .inl (fun _ => 0)), .inl (ac 0, 720, .inl (fun _ => 0)), .inl (ac 1, 720, .inr (.inl (fun _ => 0))), .inl (ac 0, 64, .inl (fun _ => 0)), .inl (ac 0, 301, .inl (fun _ => 0)), .inl (ac 4, 932, .inl (fun _ => 0)), .inl (ac 0, 24, .inl (fun _ => 0)), .inl (ac 0, 24, .inl (fun _ => 0)), .inr (7, [.ref (b + 71), .ref (b + 72), .ref (b + 73), .ref (b + 74), .ref (b + 75), .ref (b + 76), .ref (b + 77), .ref (b + 78), .ref (b + 79), .ref (b + 80), .ref (b + 81), .ref (b + 82), .int 0, .int 0]), .inl (ac 0, 9, .inl (fun _ => 0)), .inl (ac 0, 6, .inl (fun _ => 0)), .inl (ac 0, 301, .inl (fun _ => 0)), .inl (ac 0, 720, .inl (fun _ => 0)), .inl (ac 1, 2160, .inr (.inl (fun _ => 0))), .inl (ac 0, 720, .inl (fun _ => 0)), .inl (ac 1, 6900, .inr (.inl (fun _ => 0))), .inl (ac 0, 2048, .inl (fun _ => 0)), .inl (ac 1, 512, .inr (.inl (fun _ => 0))), .inl (ac 1, 512, .inr (.inl (fun _ => 0))), .inl (ac 0, 512, .inl (fun _ => 0)), .inl (ac 0, 512, .inl (fun _ => 0)), .inr (9, [.ref (b + 84), .ref (b + 88), .ref (b + 92), .ref (b + 96), .ref (b + 97), .ref (b + 98), .ref (b + 99), .ref (b + 100), .ref (b + 101), .ref (b + 102), .ref (b + 103), .int 0]), .inl (ac 5, 3, .inr (.inr (.inr (.inr (va_up (va_up (va_up (fun _ => none) 0 (some (b + 85))) 1 (some (b + 86))) 2 (some (b + 87))))))), .inl (ac 0, 150, .inl (fun _ => 0)), .inl (ac 0, 150, .inl (fun _ => 0)), .inl (ac 0, 150, .inl (fun _ => 0)), .inl (ac 5, 3, .inr (.inr (.inr (.inr (va_up (va_up (va_up (fun _ => none) 0 (some (b + 89))) 1 (some (b + 90))) 2 (some (b + 91))))))), .inl (ac 0, 150, .inl (fun _ => 0)), .inl (ac 0, 150, .inl (fun _ => 0)), .inl (ac 0, 150, .inl (fun _ => 0)), .inl (ac 5, 3, .inr (.inr (.inr (.inr (va_up (va_up (va_up (fun _ => none) 0 (some (b + 93))) 1 (some (b + 94))) 2 (some (b + 95))))))), .inl (ac 0, 150, .inl (fun _ => 0)), .inl (ac 0, 150, .inl (fun _ => 0)), .inl (ac 0, 150, .inl (fun _ => 0)), .inl (ac 0, 3, .inl (fun _ => 0)), .inl (ac 0, 3, .inl (fun _ => 0)), .inl (ac 0, 150, .inl (fun _ => 0)), .inl (ac 1, 150, .inr (.inl (fun _ => 0))), .inl (ac 1, 150, .inr (.inl (fun _ => 0))), .inl (ac 1, 256, .inr (.inl (fun _ => 0))), .inl (ac 1, 256, .inr (.inl (fun _ => 0))), .inl (ac 0, 257, .inl (fun _ => 0)), .inr (1, [.ref (b + 105), .int 0, .int 0, .int 0]), .inr (6, [.ref (b + 107), .ref (b + 106), .int 1, .int 0]), .inl (ac 1, 4, .inr (.inl (fun _ => 0))), .inl (ac 1, 256, .inr (.inl (fun _ => 0)))])) := by
  refine ⟨rfl, Nat.le_of_ble_eq_true rfl, Nat.le_of_ble_eq_true rfl, fun X hX => xm_run hX 1000 _ _ _ _ _ _ ?_⟩
  conv => whnf
  rw [H.1]
  conv => whnf
  refine ⟨rfl, ?_⟩
  conv => whnf
  rw [H.1]
  conv => whnf
  refine ⟨rfl, (by unfold vp_in; decide), Nat.le_trans hb (Nat.le_add_right _ _), ?_⟩
  rw [H.2.2.2.1 _ _ _ _ _ (Nat.le_of_ble_eq_true rfl)]
  simp only [List.cons_append, List.nil_append, List.length_cons, List.length_nil, Nat.reduceAdd, List.set_cons_zero, List.set_cons_succ, List.take_succ_cons, List.take_zero, Nat.add_assoc, xp_dfl]
  conv => whnf
  rw [H.1]
  conv => whnf
  refine ⟨rfl, ?_⟩
  conv => whnf
  rw [H.1]
  conv => whnf
  refine ⟨rfl, (by unfold vp_in; decide), Nat.le_trans hb (Nat.le_add_right _ _), ?_⟩
  rw [H.2.2.2.1 _ _ _ _ _ (Nat.le_of_ble_eq_true rfl)]
  simp only [List.cons_append, List.nil_append, List.length_cons, List.length_nil, Nat.reduceAdd, List.set_cons_zero, List.set_cons_succ, List.take_succ_cons, List.take_zero, Nat.add_assoc, xp_dfl]
  conv => whnf
  rw [H.1]
  conv => whnf
  refine ⟨rfl, ?_⟩
  conv => whnf
  rw [H.1]
  conv => whnf
  refine ⟨rfl, (by unfold vp_in; decide), Nat.le_trans hb (Nat.le_add_right _ _), ?_⟩
  rw [H.2.2.2.1 _ _ _ _ _ (Nat.le_of_ble_eq_true rfl)]
  simp only [List.cons_append, List.nil_append, List.length_cons, List.length_nil, Nat.reduceAdd, List.set_cons_zero, List.set_cons_succ, List.take_succ_cons, List.take_zero, Nat.add_assoc, xp_dfl]
  conv => whnf
  rw [H.1]
  conv => whnf
  refine ⟨rfl, ?_⟩
  conv => whnf
  refine ⟨Nat.le_of_ble_eq_true rfl, ?_⟩
  conv => whnf
  rw [H.1]
  conv => whnf
  refine ⟨rfl, Nat.le_trans hb (Nat.le_add_right _ _), Nat.le_of_ble_eq_true rfl, ⟨rfl, rfl⟩, ?_⟩
  rw [H.2.2.2.1 _ _ _ _ _ (Nat.le_of_ble_eq_true rfl)]
  simp only [List.cons_append, List.nil_append, List.length_cons, List.length_nil, Nat.reduceAdd, List.set_cons_zero, List.set_cons_succ, List.take_succ_cons, List.take_zero, Nat.add_assoc, xp_dfl]
  conv => whnf
  rw [H.1]
  conv => whnf
  refine ⟨rfl, Nat.le_trans hb (Nat.le_add_right _ _), Nat.le_of_ble_eq_true rfl, ⟨rfl, rfl⟩, ?_⟩
  rw [H.2.2.2.1 _ _ _ _ _ (Nat.le_of_ble_eq_true rfl)]
  simp only [List.cons_append, List.nil_append, List.length_cons, List.length_nil, Nat.reduceAdd, List.set_cons_zero, List.set_cons_succ, List.take_succ_cons, List.take_zero, Nat.add_assoc, xp_dfl]
  conv => whnf
  exact ⟨rfl, rfl, rfl⟩
set_option maxRecDepth 100000 in
theorem ct_X8_setZero_1 (H : xh_L hl) (d : Nat) {g : Nat → Option va_E} {b : Nat} (hb : lo ≤ b) : xm_M xp ac lo xp_fty xp_dfl sv (d + 2) nm_X8_setZero [.ref (b + 25), .int 1] (hl g b [.inr (11, [.ref (b + 1), .ref (b + 2), .ref (b + 9), .ref (b + 17), .ref (b + 25), .ref (b + 29), .ref (b + 33), .ref (b + 36), .ref (b + 39), .ref (b + 46), .ref (b + 57), .ref (b + 70), .ref (b + 83), .ref (b + 104), .int 0, .int 0, .int 0, .int (-100), .int (-1)]), .inl (ac 4, 400, .inl (fun _ => 0)), .inr (5, [.ref (b + 3), .ref (b + 4), .ref (b + 5), .ref (b + 6), .ref (b + 7), .ref (b + 8), .null, .int 0, .int 0, .int 0, .int 0, .int 0, .int 0, .int 0, .int 0, .int 0, .int 0, .int 0, .int 0, .int 0]), .inl (ac 0, 300, .inl (fun _ => 0)), .inl (ac 0, 1200, .inl (fun _ => 0)), .inl (ac 0, 4, .inl (fun _ => 0)), .inl (ac 0, 4, .inl (fun _ => 0)), .inl (ac 0, 8, .inl (fun _ => 0)), .inl (ac 0, 4, .inl (fun _ => 0)), .inr (0, [.ref (b + 10), .ref (b + 11), .ref (b + 12), .ref (b + 13), .ref (b + 14), .ref (b + 15), .ref (b + 16), .int 0, .int 0, .int 0]), .inl (ac 0, 6000, .inl (fun _ => 0)), .inl (ac 0, 20, .inl (fun _ => 0)), .inl (ac 0, 20, .inl (fun _ => 0)), .inl (ac 0, 300, .inl (fun _ => 0)), .inl (ac 4, 64, .inl (fun _ => 0)), .inl (ac 0, 8, .inl (fun _ => 0)), .inl (ac 0, 256, .inl (fun _ => 0)), .inr (4, [.ref (b + 18), .ref (b + 21), .ref (b + 22), .ref (b + 23), .ref (b + 24), .int (-1), .int 0, .int 0, .int 0, .int 0, .int (-1), .long 0]), .inr (6, [.ref (b + 20), .ref (b + 19), .int 1, .int 0]), .inl (ac 1, 4, .inr (.inl (fun _ => 0))), .inl (ac 1, 1024, .inr (.inl (fun _ => 0))), .inl (ac 0, 16, .inl (fun _ => 0)), .inl (ac 0, 16, .inl (fun _ => 0)), .inl (ac 0, 256, .inl (fun _ => 0)), .inl (ac 0, 256, .inl (fun _ => 0)), .inr (8, [.ref (b + 26), .ref (b + 27), .ref (b + 28), .int 0, .int 0]), .inl (ac 0, 20, .inl (fun _ => 0)), .inl (ac 0, 20, .inl (fun _ => 0)), .inl (ac 0, 20, .inl (fun _ => 0)), .inr (8, [.ref (b + 30), .ref (b + 31), .ref (b + 32), .int 0, .int 0]), .inl (ac 0, 1, .inl (fun _ => 0)), .inl (ac 0, 1, .inl (fun _ => 0)), .inl (ac 0, 1, .inl (fun _ => 0)), .inr (6, [.ref (b + 35), .ref (b + 34), .int 1, .int 0]), .inl (ac 1, 4, .inr (.inl (fun _ => 0))), .inl (ac 1, 128, .inr (.inl (fun _ => 0))), .inr (6, [.ref (b + 38), .ref (b + 37), .int 1, .int 0]), .inl (ac 1, 4, .inr (.inl (fun _ => 0))), .inl (ac 1, 128, .inr (.inl (fun _ => 0))), .inr (10, [.ref (b + 40), .ref (b + 41), .ref (b + 42), .ref (b + 43), .ref (b + 44), .ref (b + 45), .int 0, .int 0, .int 0, .int (-1), .long 0]), .inl (ac 1, 60, .inr (.inl (fun _ => 0))), .inl (ac 1, 60, .inr (.inl (fun _ => 0))), .inl (ac 0, 60, .inl (fun _ => 0)), .inl (ac 0, 4, .inl (fun _ => 0)), .inl (ac 0, 60, .inl (fun _ => 0)), .inl (ac 1, 4, .inr (.inl (fun _ => 0))), .inr (3, [.ref (b + 47), .ref (b + 48), .ref (b + 49), .ref (b + 50), .ref (b + 51), .ref (b + 52), .ref (b + 53), .ref (b + 54), .ref (b + 55), .ref (b + 56), .int 0, .int 0, .int 0, .int 0, .int 0, .int 0, .int 0, .int 0]), .inl (ac 0, 8, .inl (fun _ => 0)), .inl (ac 0, 8, .inl (fun _ => 0)), .inl (ac 0, 8, .inl (fun _ => 0)), .inl (ac 0, 8, .inl (fun _ => 0)), .inl (ac 0, 512, .inl (fun _ => 0)), .inl (ac 0, 512, .inl (fun _ => 0)), .inl (ac 0, 256, .inl (fun _ => 0)), .inl (ac 0, 9, .inl (fun _ => 0)), .inl (ac 0, 9, .inl (fun _ => 0)), .inl (ac 0, 9, .inl (fun _ => 0)), .inr (2, [.ref (b + 58), .ref (b + 62), .ref (b + 63), .ref (b + 64), .ref (b + 65), .ref (b + 66), .ref (b + 67), .ref (b + 68), .ref (b + 69), .int (-1), .int 0, .int 0, .int 0, .int 0, .int (-1), .int 0]), .inr (8, [.ref (b + 59), .ref (b + 60), .ref (b + 61), .int 0, .int 0]), .inl (ac 0, 4, .inl (fun _ => 0)), .inl (ac 0, 4, .inl (fun _ => 0)), .inl (ac 0, 4, .inl (fun _ => 0)), .inl (ac 0, 224, .inl (fun _ => 0)), .inl (ac 0, 720, .inl (fun _ => 0)), .inl (ac 1, 720, .inr (.inl (fun _ => 0))), .inl (ac 0, 64, .inl (fun _ => 0)), .inl (ac 0, 301, .inl (fun _ => 0)), .inl (ac 4, 932, .inl (fun _ => 0)), .inl (ac 0, 24, .inl (fun _ => 0)), .inl (ac 0, 24, .inl (fun _ => 0)), .inr (7, [.ref (b + 71), .ref (b + 72), .ref (b + 73), .ref (b + 74), .ref (b + 75), .ref (b + 76), .ref (b + 77), .ref (b + 78), .ref (b + 79), .ref (b + 80), .ref (b + 81), .ref (b + 82), .int 0, .int 0]), .inl (ac 0, 9, .inl (fun _ => 0)), .inl (ac 0, 6, .inl (fun _ => 0)), .inl (ac 0, 301, .inl (fun _ => 0)), .inl (ac 0, 720, .inl (fun _ => 0)), .inl (ac 1, 2160, .inr (.inl (fun _ => 0))), .inl (ac 0, 720, .inl (fun _ => 0)), .inl (ac 1, 6900, .inr (.inl (fun _ => 0))), .inl (ac 0, 2048, .inl (fun _ => 0)), .inl (ac 1, 512, .inr (.inl (fun _ => 0))), .inl (ac 1, 512, .inr (.inl (fun _ => 0))), .inl (ac 0, 512, .inl (fun _ => 0)), .inl (ac 0, 512, .inl (fun _ => 0)), .inr (9, [.ref (b + 84), .ref (b + 88), .ref (b + 92), .ref (b + 96), .ref (b + 97), .ref (b + 98), .ref (b + 99), .ref (b + 100), .ref (b + 101), .ref (b + 102), .ref (b + 103), .int 0]), .inl (ac 5, 3, .inr (.inr (.inr (.inr (va_up (va_up (va_up (fun _ => none) 0 (some (b + 85))) 1 (some (b + 86))) 2 (some (b + 87))))))), .inl (ac 0, 150, .inl (fun _ => 0)), .inl (ac 0, 150, .inl (fun _ => 0)), .inl (ac 0, 150, .inl (fun _ => 0)), .inl (ac 5, 3, .inr (.inr (.inr (.inr (va_up (va_up (va_up (fun _ => none) 0 (some (b + 89))) 1 (some (b + 90))) 2 (some (b + 91))))))), .inl (ac 0, 150, .inl (fun _ => 0)), .inl (ac 0, 150, .inl (fun _ => 0)), .inl (ac 0, 150, .inl (fun _ => 0)), .inl (ac 5, 3, .inr (.inr (.inr (.inr (va_up (va_up (va_up (fun _ => none) 0 (some (b + 93))) 1 (some (b + 94))) 2 (some (b + 95))))))), .inl (ac 0, 150, .inl (fun _ => 0)), .inl (ac 0, 150, .inl (fun _ => 0)), .inl (ac 0, 150, .inl (fun _ => 0)), .inl (ac 0, 3, .inl (fun _ => 0)), .inl (ac 0, 3, .inl (fun _ => 0)), .inl (ac 0, 150, .inl (fun _ => 0)), .inl (ac 1, 150, .inr (.inl (fun _ => 0))), .inl (ac 1, 150, .inr (.inl (fun _ => 0))), .inl (ac 1, 256, .inr (.inl (fun _ => 0))), .inl (ac 1, 256, .inr (.inl (fun _ => 0))), .inl (ac 0, 257, .inl (fun _ => 0)), .inr (1, [.ref (b + 105), .int 0, .int 0, .int 0]), .inr (6, [.ref (b + 107), .ref (b + 106), .int 1, .int 0]), .inl (ac 1, 4, .inr (.inl (fun _ => 0))), .inl (ac 1, 256, .inr (.inl (fun _ => 0)))]) 0 0 (xq0 (hl g b [.inr (11, [.ref (b + 1), .ref (b + 2), .ref (b + 9), .ref (b + 17), .ref (b + 25), .ref (b + 29), .ref (b + 33), .ref (b + 36), .ref (b + 39), .ref (b + 46), .ref (b + 57), .ref (b + 70), .ref (b + 83), .ref (b + 104), .int 0, .int 0, .int 0, .int (-100), .int (-1)]), .inl (ac 4, 400, .inl (fun _ => 0)), .inr (5, [.ref (b + 3), .ref (b + 4), .ref (b + 5), .ref (b + 6), .ref (b + 7), .ref (b + 8), .null, .int 0, .int 0, .int 0, .int 0, .int 0, .int 0, .int 0, .int 0, .int 0, .int 0, .int 0, .int 0, .int 0]), .inl (ac 0, 300, .inl (fun _ => 0)), .inl (ac 0, 1200, .inl (fun _ => 0)), .inl (ac 0, 4, .inl (fun _ => 0)), .inl (ac 0, 4, .inl (fun _ => 0)), .inl (ac 0, 8, .inl (fun _ => 0)), .inl (ac 0, 4, .inl (fun _ => 0)), .inr (0, [.ref (b + 10), .ref (b + 11), .ref (b + 12), .ref (b + 13), .ref (b + 14), .ref (b + 15), .ref (b + 16), .int 0, .int 0, .int 0]), .inl (ac 0, 6000, .inl (fun _ => 0)), .inl (ac 0, 20, .inl (fun _ => 0)), .inl (ac 0, 20, .inl (fun _ => 0)), .inl (ac 0, 300, .inl (fun _ => 0)), .inl (ac 4, 64, .inl (fun _ => 0)), .inl (ac 0, 8, .inl (fun _ => 0)), .inl (ac 0, 256, .inl (fun _ => 0)), .inr (4, [.ref (b + 18), .ref (b + 21), .ref (b + 22), .ref (b + 23), .ref (b + 24), .int (-1), .int 0, .int 0, .int 0, .int 0, .int (-1), .long 0]), .inr (6, [.ref (b + 20), .ref (b + 19), .int 1, .int 0]), .inl (ac 1, 4, .inr (.inl (fun _ => 0))), .inl (ac 1, 1024, .inr (.inl (fun _ => 0))), .inl (ac 0, 16, .inl (fun _ => 0)), .inl (ac 0, 16, .inl (fun _ => 0)), .inl (ac 0, 256, .inl (fun _ => 0)), .inl (ac 0, 256, .inl (fun _ => 0)), .inr (8, [.ref (b + 26), .ref (b + 27), .ref (b + 28), .int 1, .int 0]), .inl (ac 0, 20, .inl (upd (fun _ => 0) 0 0)), .inl (ac 0, 20, .inl (upd (fun _ => 0) 0 1)), .inl (ac 0, 20, .inl (upd (fun _ => 0) 0 0)), .inr (8, [.ref (b + 30), .ref (b + 31), .ref (b + 32), .int 0, .int 0]), .inl (ac 0, 1, .inl (fun _ => 0)), .inl (ac 0, 1, .inl (fun _ => 0)), .inl (ac 0, 1, .inl (fun _ => 0)), .inr (6, [.ref (b + 35), .ref (b + 34), .int 1, .int 0]), .inl (ac 1, 4, .inr (.inl (fun _ => 0))), .inl (ac 1, 128, .inr (.inl (fun _ => 0))), .inr (6, [.ref (b + 38), .ref (b + 37), .int 1, .int 0]), .inl (ac 1, 4, .inr (.inl (fun _ => 0))), .inl (ac 1, 128, .inr (.inl (fun _ => 0))), .inr (10, [.ref (b + 40), .ref (b + 41), .ref (b + 42), .ref (b + 43), .ref (b + 44), .ref (b + 45), .int 0, .int 0, .int 0, .int (-1), .long 0]), .inl (ac 1, 60, .inr (.inl (fun _ => 0))), .inl (ac 1, 60, .inr (.inl (fun _ => 0))), .inl (ac 0, 60, .inl (fun _ => 0)), .inl (ac 0, 4, .inl (fun _ => 0)), .inl (ac 0, 60, .inl (fun _ => 0)), .inl (ac 1, 4, .inr (.inl (fun _ => 0))), .inr (3, [.ref (b + 47), .ref (b + 48), .ref (b + 49), .ref (b + 50), .ref (b + 51), .ref (b + 52), .ref (b + 53), .ref (b + 54), .ref (b + 55), .ref (b + 56), .int 0, .int 0, .int 0, .int 0, .int 0, .int 0, .int 0, .int 0]), .inl (ac 0, 8, .inl (fun _ => 0)), .inl (ac 0, 8, .inl (fun _ => 0)), .inl (ac 0, 8, .inl (fun _ => 0)), .inl (ac 0, 8, .inl (fun _ => 0)), .inl (ac 0, 512, .inl (fun _ => 0)), .inl (ac 0, 512, .inl (fun _ => 0)), .inl (ac 0, 256, .inl (fun _ => 0)), .inl (ac 0, 9, .inl (fun _ => 0)), .inl (ac 0, 9, .inl (fun _ => 0)), .inl (ac 0, 9, .inl (fun _ => 0)), .inr (2, [.ref (b + 58), .ref (b + 62), .ref (b + 63), .ref (b + 64), .ref (b + 65), .ref (b + 66), .ref (b + 67), .ref (b + 68), .ref (b + 69), .int (-1), .int 0, .int 0, .int 0, .int 0, .int (-1), .int 0]), .inr (8, [.ref (b + 59), .ref (b + 60), .ref (b + 61), .int 0, .int 0]), .inl (ac 0, 4, .inl (fun _ => 0)), .inl (ac 0, 4, .inl (fun _ => 0)), .inl (ac 0, 4, .inl (fun _ => 0)), .inl (ac 0, 224, .inl (fun _ => 0)), .inl (ac 0, 720, .inl (fun _ => 0)), .inl (ac 1, 720, .inr (.inl (fun _ => 0))), .inl (ac 0, 64, .inl (fun _ => 0)), .inl (ac 0, 301, .inl (fun _ => 0)), .inl (ac 4, 932, .inl (fun _ => 0)), .inl (ac 0, 24, .inl (fun _ => 0)), .inl (ac 0, 24, .inl (fun _ => 0)), .inr (7, [.ref (b + 71), .ref (b + 72), .ref (b + 73), .ref (b + 74), .ref (b + 75), .ref (b + 76), .ref (b + 77), .ref (b + 78), .ref (b + 79), .ref (b + 80), .ref (b + 81), .ref (b + 82), .int 0, .int 0]), .inl (ac 0, 9, .inl (fun _ => 0)), .inl (ac 0, 6, .inl (fun _ => 0)), .inl (ac 0, 301, .inl (fun _ => 0)), .inl (ac 0, 720, .inl (fun _ => 0)), .inl (ac 1, 2160, .inr (.inl (fun _ => 0))), .inl (ac 0, 720, .inl (fun _ => 0)), .inl (ac 1, 6900, .inr (.inl (fun _ => 0))), .inl (ac 0, 2048, .inl (fun _ => 0)), .inl (ac 1, 512, .inr (.inl (fun _ => 0))), .inl (ac 1, 512, .inr (.inl (fun _ => 0))), .inl (ac 0, 512, .inl (fun _ => 0)), .inl (ac 0, 512, .inl (fun _ => 0)), .inr (9, [.ref (b + 84), .ref (b + 88), .ref (b + 92), .ref (b + 96), .ref (b + 97), .ref (b + 98), .ref (b + 99), .ref (b + 100), .ref (b + 101), .ref (b + 102), .ref (b + 103), .int 0]), .inl (ac 5, 3, .inr (.inr (.inr (.inr (va_up (va_up (va_up (fun _ => none) 0 (some (b + 85))) 1 (some (b + 86))) 2 (some (b + 87))))))), .inl (ac 0, 150, .inl (fun _ => 0)), .inl (ac 0, 150, .inl (fun _ => 0)), .inl (ac 0, 150, .inl (fun _ => 0)), .inl (ac 5, 3, .inr (.inr (.inr (.inr (va_up (va_up (va_up (fun _ => none) 0 (some (b + 89))) 1 (some (b + 90))) 2 (some (b + 91))))))), .inl (ac 0, 150, .inl (fun _ => 0)), .inl (ac 0, 150, .inl (fun _ => 0)), .inl (ac 0, 150, .inl (fun _ => 0)), .inl (ac 5, 3, .inr (.inr (.inr (.inr (va_up (va_up (va_up (fun _ => none) 0 (some (b + 93))) 1 (some (b + 94))) 2 (some (b + 95))))))), .inl (ac 0, 150, .inl (fun _ => 0)), .inl (ac 0, 150, .inl (fun _ => 0)), .inl (ac 0, 150, .inl (fun _ => 0)), .inl (ac 0, 3, .inl (fun _ => 0)), .inl (ac 0, 3, .inl (fun _ => 0)), .inl (ac 0, 150, .inl (fun _ => 0)), .inl (ac 1, 150, .inr (.inl (fun _ => 0))), .inl (ac 1, 150, .inr (.inl (fun _ => 0))), .inl (ac 1, 256, .inr (.inl (fun _ => 0))), .inl (ac 1, 256, .inr (.inl (fun _ => 0))), .inl (ac 0, 257, .inl (fun _ => 0)), .inr (1, [.ref (b + 105), .int 0, .int 0, .int 0]), .inr (6, [.ref (b + 107), .ref (b + 106), .int 1, .int 0]), .inl (ac 1, 4, .inr (.inl (fun _ => 0))), .inl (ac 1, 256, .inr (.inl (fun _ => 0)))])) := by
  refine ⟨rfl, Nat.le_of_ble_eq_true rfl, Nat.le_of_ble_eq_true rfl, fun X hX => xm_run hX 1000 _ _ _ _ _ _ ?_⟩
  conv => whnf
  rw [H.1]
  conv => whnf
  refine ⟨rfl, Nat.le_trans hb (Nat.le_add_right _ _), Nat.le_of_ble_eq_true rfl, ⟨rfl, rfl⟩, ?_⟩
  rw [H.2.2.2.1 _ _ _ _ _ (Nat.le_of_ble_eq_true rfl)]
  simp only [List.cons_append, List.nil_append, List.length_cons, List.length_nil, Nat.reduceAdd, List.set_cons_zero, List.set_cons_succ, List.take_succ_cons, List.take_zero, Nat.add_assoc, xp_dfl]
  conv => whnf
  refine ⟨Nat.le_of_ble_eq_true rfl, ?_⟩
  conv => whnf
  refine ⟨fun c => absurd c (by decide), fun c => ?_⟩
  conv => whnf
  rw [H.1]
  conv => whnf
  refine ⟨rfl, ?_⟩
  conv => whnf
  rw [H.1]
  conv => whnf
  refine ⟨by simp, ?_⟩
  conv => whnf
  refine ⟨fun c => absurd c (by decide), fun c => ?_⟩
  conv => whnf
  refine ⟨xw_O (by rw [H.1]; rfl), xw0 0 0 (Nat.le_of_ble_eq_true rfl) (Nat.le_of_ble_eq_true rfl) (Nat.le_of_ble_eq_true rfl) (ct_X8_setRow_0_0_1 H _ hb) ?_⟩
  conv => whnf
  refine ⟨Nat.le_of_ble_eq_true rfl, ?_⟩
  conv => whnf
  refine ⟨fun c => ?_, fun c => absurd (by decide) c⟩
  conv => whnf
  exact ⟨rfl, rfl, rfl⟩
set_option maxRecDepth 100000 in
theorem ct_X11_init (H : xh_L hl) (d : Nat) {g : Nat → Option va_E} {b : Nat} (hb : lo ≤ b) : xm_M xp ac lo xp_fty xp_dfl sv (d + 3) nm_X11_init [.ref (b + 0)] (hl g b [.inr (11, [.null, .null, .null, .null, .null, .null, .null, .null, .null, .null, .null, .null, .null, .null, .int 0, .int 0, .int 0, .int 0, .int 0])]) 107 32999 (xq0 (hl g b [.inr (11, [.ref (b + 1), .ref (b + 2), .ref (b + 9), .ref (b + 17), .ref (b + 25), .ref (b + 29), .ref (b + 33), .ref (b + 36), .ref (b + 39), .ref (b + 46), .ref (b + 57), .ref (b + 70), .ref (b + 83), .ref (b + 104), .int 0, .int 0, .int 0, .int (-100), .int (-1)]), .inl (ac 4, 400, .inl (fun _ => 0)), .inr (5, [.ref (b + 3), .ref (b + 4), .ref (b + 5), .ref (b + 6), .ref (b + 7), .ref (b + 8), .null, .int 0, .int 0, .int 0, .int 0, .int 0, .int 0, .int 0, .int 0, .int 0, .int 0, .int 0, .int 0, .int 0]), .inl (ac 0, 300, .inl (fun _ => 0)), .inl (ac 0, 1200, .inl (fun _ => 0)), .inl (ac 0, 4, .inl (fun _ => 0)), .inl (ac 0, 4, .inl (fun _ => 0)), .inl (ac 0, 8, .inl (fun _ => 0)), .inl (ac 0, 4, .inl (fun _ => 0)), .inr (0, [.ref (b + 10), .ref (b + 11), .ref (b + 12), .ref (b + 13), .ref (b + 14), .ref (b + 15), .ref (b + 16), .int 0, .int 0, .int 0]), .inl (ac 0, 6000, .inl (fun _ => 0)), .inl (ac 0, 20, .inl (fun _ => 0)), .inl (ac 0, 20, .inl (fun _ => 0)), .inl (ac 0, 300, .inl (fun _ => 0)), .inl (ac 4, 64, .inl (fun _ => 0)), .inl (ac 0, 8, .inl (fun _ => 0)), .inl (ac 0, 256, .inl (fun _ => 0)), .inr (4, [.ref (b + 18), .ref (b + 21), .ref (b + 22), .ref (b + 23), .ref (b + 24), .int (-1), .int 0, .int 0, .int 0, .int 0, .int (-1), .long 0]), .inr (6, [.ref (b + 20), .ref (b + 19), .int 1, .int 0]), .inl (ac 1, 4, .inr (.inl (fun _ => 0))), .inl (ac 1, 1024, .inr (.inl (fun _ => 0))), .inl (ac 0, 16, .inl (fun _ => 0)), .inl (ac 0, 16, .inl (fun _ => 0)), .inl (ac 0, 256, .inl (fun _ => 0)), .inl (ac 0, 256, .inl (fun _ => 0)), .inr (8, [.ref (b + 26), .ref (b + 27), .ref (b + 28), .int 1, .int 0]), .inl (ac 0, 20, .inl (upd (fun _ => 0) 0 0)), .inl (ac 0, 20, .inl (upd (fun _ => 0) 0 1)), .inl (ac 0, 20, .inl (upd (fun _ => 0) 0 0)), .inr (8, [.ref (b + 30), .ref (b + 31), .ref (b + 32), .int 0, .int 0]), .inl (ac 0, 1, .inl (fun _ => 0)), .inl (ac 0, 1, .inl (fun _ => 0)), .inl (ac 0, 1, .inl (fun _ => 0)), .inr (6, [.ref (b + 35), .ref (b + 34), .int 1, .int 0]), .inl (ac 1, 4, .inr (.inl (fun _ => 0))), .inl (ac 1, 128, .inr (.inl (fun _ => 0))), .inr (6, [.ref (b + 38), .ref (b + 37), .int 1, .int 0]), .inl (ac 1, 4, .inr (.inl (fun _ => 0))), .inl (ac 1, 128, .inr (.inl (fun _ => 0))), .inr (10, [.ref (b + 40), .ref (b + 41), .ref (b + 42), .ref (b + 43), .ref (b + 44), .ref (b + 45), .int 0, .int 0, .int 0, .int (-1), .long 0]), .inl (ac 1, 60, .inr (.inl (fun _ => 0))), .inl (ac 1, 60, .inr (.inl (fun _ => 0))), .inl (ac 0, 60, .inl (fun _ => 0)), .inl (ac 0, 4, .inl (fun _ => 0)), .inl (ac 0, 60, .inl (fun _ => 0)), .inl (ac 1, 4, .inr (.inl (fun _ => 0))), .inr (3, [.ref (b + 47), .ref (b + 48), .ref (b + 49), .ref (b + 50), .ref (b + 51), .ref (b + 52), .ref (b + 53), .ref (b + 54), .ref (b + 55), .ref (b + 56), .int 0, .int 0, .int 0, .int 0, .int 0, .int 0, .int 0, .int 0]), .inl (ac 0, 8, .inl (fun _ => 0)), .inl (ac 0, 8, .inl (fun _ => 0)), .inl (ac 0, 8, .inl (fun _ => 0)), .inl (ac 0, 8, .inl (fun _ => 0)), .inl (ac 0, 512, .inl (fun _ => 0)), .inl (ac 0, 512, .inl (fun _ => 0)), .inl (ac 0, 256, .inl (fun _ => 0)), .inl (ac 0, 9, .inl (fun _ => 0)), .inl (ac 0, 9, .inl (fun _ => 0)), .inl (ac 0, 9, .inl (fun _ => 0)), .inr (2, [.ref (b + 58), .ref (b + 62), .ref (b + 63), .ref (b + 64), .ref (b + 65), .ref (b + 66), .ref (b + 67), .ref (b + 68), .ref (b + 69), .int (-1), .int 0, .int 0, .int 0, .int 0, .int (-1), .int 0]), .inr (8, [.ref (b + 59), .ref (b + 60), .ref (b + 61), .int 0, .int 0]), .inl (ac 0, 4, .inl (fun _ => 0)), .inl (ac 0, 4, .inl (fun _ => 0)), .inl (ac 0, 4, .inl (fun _ => 0)), .inl (ac 0, 224, .inl (fun _ => 0)), .inl (ac 0, 720, .inl (fun _ => 0)), .inl (ac 1, 720, .inr (.inl (fun _ => 0))), .inl (ac 0, 64, .inl (fun _ => 0)), .inl (ac 0, 301, .inl (fun _ => 0)), .inl (ac 4, 932, .inl (fun _ => 0)), .inl (ac 0, 24, .inl (fun _ => 0)), .inl (ac 0, 24, .inl (fun _ => 0)), .inr (7, [.ref (b + 71), .ref (b + 72), .ref (b + 73), .ref (b + 74), .ref (b + 75), .ref (b + 76), .ref (b + 77), .ref (b + 78), .ref (b + 79), .ref (b + 80), .ref (b + 81), .ref (b + 82), .int 0, .int 0]), .inl (ac 0, 9, .inl (fun _ => 0)), .inl (ac 0, 6, .inl (fun _ => 0)), .inl (ac 0, 301, .inl (fun _ => 0)), .inl (ac 0, 720, .inl (fun _ => 0)), .inl (ac 1, 2160, .inr (.inl (fun _ => 0))), .inl (ac 0, 720, .inl (fun _ => 0)), .inl (ac 1, 6900, .inr (.inl (fun _ => 0))), .inl (ac 0, 2048, .inl (fun _ => 0)), .inl (ac 1, 512, .inr (.inl (fun _ => 0))), .inl (ac 1, 512, .inr (.inl (fun _ => 0))), .inl (ac 0, 512, .inl (fun _ => 0)), .inl (ac 0, 512, .inl (fun _ => 0)), .inr (9, [.ref (b + 84), .ref (b + 88), .ref (b + 92), .ref (b + 96), .ref (b + 97), .ref (b + 98), .ref (b + 99), .ref (b + 100), .ref (b + 101), .ref (b + 102), .ref (b + 103), .int 0]), .inl (ac 5, 3, .inr (.inr (.inr (.inr (va_up (va_up (va_up (fun _ => none) 0 (some (b + 85))) 1 (some (b + 86))) 2 (some (b + 87))))))), .inl (ac 0, 150, .inl (fun _ => 0)), .inl (ac 0, 150, .inl (fun _ => 0)), .inl (ac 0, 150, .inl (fun _ => 0)), .inl (ac 5, 3, .inr (.inr (.inr (.inr (va_up (va_up (va_up (fun _ => none) 0 (some (b + 89))) 1 (some (b + 90))) 2 (some (b + 91))))))), .inl (ac 0, 150, .inl (fun _ => 0)), .inl (ac 0, 150, .inl (fun _ => 0)), .inl (ac 0, 150, .inl (fun _ => 0)), .inl (ac 5, 3, .inr (.inr (.inr (.inr (va_up (va_up (va_up (fun _ => none) 0 (some (b + 93))) 1 (some (b + 94))) 2 (some (b + 95))))))), .inl (ac 0, 150, .inl (fun _ => 0)), .inl (ac 0, 150, .inl (fun _ => 0)), .inl (ac 0, 150, .inl (fun _ => 0)), .inl (ac 0, 3, .inl (fun _ => 0)), .inl (ac 0, 3, .inl (fun _ => 0)), .inl (ac 0, 150, .inl (fun _ => 0)), .inl (ac 1, 150, .inr (.inl (fun _ => 0))), .inl (ac 1, 150, .inr (.inl (fun _ => 0))), .inl (ac 1, 256, .inr (.inl (fun _ => 0))), .inl (ac 1, 256, .inr (.inl (fun _ => 0))), .inl (ac 0, 257, .inl (fun _ => 0)), .inr (1, [.ref (b + 105), .int 0, .int 0, .int 0]), .inr (6, [.ref (b + 107), .ref (b + 106), .int 1, .int 0]), .inl (ac 1, 4, .inr (.inl (fun _ => 0))), .inl (ac 1, 256, .inr (.inl (fun _ => 0)))])) := by
  refine ⟨rfl, Nat.le_of_ble_eq_true rfl, Nat.le_of_ble_eq_true rfl, fun X hX => xm_run hX 1000 _ _ _ _ _ _ ?_⟩
  conv => whnf
  refine ⟨rfl, Nat.le_of_ble_eq_true rfl, ?_⟩
  conv => whnf
  refine ⟨by decide, by decide, Nat.le_of_ble_eq_true rfl, Nat.le_of_ble_eq_true rfl, ?_⟩
  dsimp only [xm_new]
  rw [H.2.2.1, H.2.1]
  simp only [List.cons_append, List.nil_append, List.length_cons, List.length_nil, Nat.reduceAdd, List.set_cons_zero, List.set_cons_succ, List.take_succ_cons, List.take_zero, Nat.add_assoc, xp_dfl]
  conv => whnf
  rw [H.1]
  conv => whnf
  refine ⟨rfl, Nat.le_trans hb (Nat.le_add_right _ _), Nat.le_of_ble_eq_true rfl, ⟨rfl, rfl⟩, ?_⟩
  rw [H.2.2.2.1 _ _ _ _ _ (Nat.le_of_ble_eq_true rfl)]
  simp only [List.cons_append, List.nil_append, List.length_cons, List.length_nil, Nat.reduceAdd, List.set_cons_zero, List.set_cons_succ, List.take_succ_cons, List.take_zero, Nat.add_assoc, xp_dfl]
  conv => whnf
  refine ⟨Nat.le_of_ble_eq_true rfl, Nat.le_of_ble_eq_true rfl, ?_⟩
  rw [H.2.2.1, H.2.1]
  simp only [List.cons_append, List.nil_append, List.length_cons, List.length_nil, Nat.reduceAdd, List.set_cons_zero, List.set_cons_succ, List.take_succ_cons, List.take_zero, Nat.add_assoc, xp_dfl]
  conv => whnf
  refine ⟨rfl, ?_⟩
  conv => whnf
  refine xw0 6 1520 (Nat.le_of_ble_eq_true rfl) (Nat.le_of_ble_eq_true rfl) (Nat.le_of_ble_eq_true rfl) (by rw [xh_td H 2 (Nat.le_of_ble_eq_true rfl)]; exact ct_X5_init H _ (Nat.le_trans hb (Nat.le_add_right _ _))) ?_
  rw [xh_bk H 2 (Nat.le_of_ble_eq_true rfl)]
  simp only [List.cons_append, List.nil_append, List.length_cons, List.length_nil, Nat.reduceAdd, List.set_cons_zero, List.set_cons_succ, List.take_succ_cons, List.take_zero, Nat.add_assoc, xp_dfl]
  conv => whnf
  rw [H.1]
  conv => whnf
  refine ⟨rfl, Nat.le_trans hb (Nat.le_add_right _ _), Nat.le_of_ble_eq_true rfl, ⟨rfl, rfl⟩, ?_⟩
  rw [H.2.2.2.1 _ _ _ _ _ (Nat.le_of_ble_eq_true rfl)]
  simp only [List.cons_append, List.nil_append, List.length_cons, List.length_nil, Nat.reduceAdd, List.set_cons_zero, List.set_cons_succ, List.take_succ_cons, List.take_zero, Nat.add_assoc, xp_dfl]
  conv => whnf
  refine ⟨Nat.le_of_ble_eq_true rfl, Nat.le_of_ble_eq_true rfl, ?_⟩
  rw [H.2.2.1, H.2.1]
  simp only [List.cons_append, List.nil_append, List.length_cons, List.length_nil, Nat.reduceAdd, List.set_cons_zero, List.set_cons_succ, List.take_succ_cons, List.take_zero, Nat.add_assoc, xp_dfl]
  conv => whnf
  refine ⟨rfl, ?_⟩
  conv => whnf
  refine xw0 7 6668 (Nat.le_of_ble_eq_true rfl) (Nat.le_of_ble_eq_true rfl) (Nat.le_of_ble_eq_true rfl) (by rw [xh_td H 9 (Nat.le_of_ble_eq_true rfl)]; exact ct_X0_init H _ (Nat.le_trans hb (Nat.le_add_right _ _))) ?_
  rw [xh_bk H 9 (Nat.le_of_ble_eq_true rfl)]
  simp only [List.cons_append, List.nil_append, List.length_cons, List.length_nil, Nat.reduceAdd, List.set_cons_zero, List.set_cons_succ, List.take_succ_cons, List.take_zero, Nat.add_assoc, xp_dfl]
  conv => whnf
  rw [H.1]
  conv => whnf
  refine ⟨rfl, Nat.le_trans hb (Nat.le_add_right _ _), Nat.le_of_ble_eq_true rfl, ⟨rfl, rfl⟩, ?_⟩
  rw [H.2.2.2.1 _ _ _ _ _ (Nat.le_of_ble_eq_true rfl)]
  simp only [List.cons_append, List.nil_append, List.length_cons, List.length_nil, Nat.reduceAdd, List.set_cons_zero, List.set_cons_succ, List.take_succ_cons, List.take_zero, Nat.add_assoc, xp_dfl]
  conv => whnf
  refine ⟨Nat.le_of_ble_eq_true rfl, Nat.le_of_ble_eq_true rfl, ?_⟩
  rw [H.2.2.1, H.2.1]
  simp only [List.cons_append, List.nil_append, List.length_cons, List.length_nil, Nat.reduceAdd, List.set_cons_zero, List.set_cons_succ, List.take_succ_cons, List.take_zero, Nat.add_assoc, xp_dfl]
  conv => whnf
  refine ⟨rfl, ?_⟩
  conv => whnf
  refine xw0 7 1576 (Nat.le_of_ble_eq_true rfl) (Nat.le_of_ble_eq_true rfl) (Nat.le_of_ble_eq_true rfl) (by rw [xh_td H 17 (Nat.le_of_ble_eq_true rfl)]; exact ct_X4_init H _ (Nat.le_trans hb (Nat.le_add_right _ _))) ?_
  rw [xh_bk H 17 (Nat.le_of_ble_eq_true rfl)]
  simp only [List.cons_append, List.nil_append, List.length_cons, List.length_nil, Nat.reduceAdd, List.set_cons_zero, List.set_cons_succ, List.take_succ_cons, List.take_zero, Nat.add_assoc, xp_dfl]
  conv => whnf
  rw [H.1]
  conv => whnf
  refine ⟨rfl, Nat.le_trans hb (Nat.le_add_right _ _), Nat.le_of_ble_eq_true rfl, ⟨rfl, rfl⟩, ?_⟩
  rw [H.2.2.2.1 _ _ _ _ _ (Nat.le_of_ble_eq_true rfl)]
  simp only [List.cons_append, List.nil_append, List.length_cons, List.length_nil, Nat.reduceAdd, List.set_cons_zero, List.set_cons_succ, List.take_succ_cons, List.take_zero, Nat.add_assoc, xp_dfl]
  conv => whnf
  refine ⟨Nat.le_of_ble_eq_true rfl, Nat.le_of_ble_eq_true rfl, ?_⟩
  rw [H.2.2.1, H.2.1]
  simp only [List.cons_append, List.nil_append, List.length_cons, List.length_nil, Nat.reduceAdd, List.set_cons_zero, List.set_cons_succ, List.take_succ_cons, List.take_zero, Nat.add_assoc, xp_dfl]
  conv => whnf
  refine ⟨rfl, ?_⟩
  conv => whnf
  refine xw0 3 60 (Nat.le_of_ble_eq_true rfl) (Nat.le_of_ble_eq_true rfl) (Nat.le_of_ble_eq_true rfl) (by rw [xh_td H 25 (Nat.le_of_ble_eq_true rfl)]; exact ct_X8_init_20 H _ (Nat.le_trans hb (Nat.le_add_right _ _))) ?_
  rw [xh_bk H 25 (Nat.le_of_ble_eq_true rfl)]
  simp only [List.cons_append, List.nil_append, List.length_cons, List.length_nil, Nat.reduceAdd, List.set_cons_zero, List.set_cons_succ, List.take_succ_cons, List.take_zero, Nat.add_assoc, xp_dfl]
  conv => whnf
  rw [H.1]
  conv => whnf
  refine ⟨rfl, Nat.le_trans hb (Nat.le_add_right _ _), Nat.le_of_ble_eq_true rfl, ⟨rfl, rfl⟩, ?_⟩
  rw [H.2.2.2.1 _ _ _ _ _ (Nat.le_of_ble_eq_true rfl)]
  simp only [List.cons_append, List.nil_append, List.length_cons, List.length_nil, Nat.reduceAdd, List.set_cons_zero, List.set_cons_succ, List.take_succ_cons, List.take_zero, Nat.add_assoc, xp_dfl]
  conv => whnf
  refine ⟨Nat.le_of_ble_eq_true rfl, Nat.le_of_ble_eq_true rfl, ?_⟩
  rw [H.2.2.1, H.2.1]
  simp only [List.cons_append, List.nil_append, List.length_cons, List.length_nil, Nat.reduceAdd, List.set_cons_zero, List.set_cons_succ, List.take_succ_cons, List.take_zero, Nat.add_assoc, xp_dfl]
  conv => whnf
  refine ⟨rfl, ?_⟩
  conv => whnf
  refine xw0 3 3 (Nat.le_of_ble_eq_true rfl) (Nat.le_of_ble_eq_true rfl) (Nat.le_of_ble_eq_true rfl) (by rw [xh_td H 29 (Nat.le_of_ble_eq_true rfl)]; exact ct_X8_init_1 H _ (Nat.le_trans hb (Nat.le_add_right _ _))) ?_
  rw [xh_bk H 29 (Nat.le_of_ble_eq_true rfl)]
  simp only [List.cons_append, List.nil_append, List.length_cons, List.length_nil, Nat.reduceAdd, List.set_cons_zero, List.set_cons_succ, List.take_succ_cons, List.take_zero, Nat.add_assoc, xp_dfl]
  conv => whnf
  rw [H.1]
  conv => whnf
  refine ⟨rfl, Nat.le_trans hb (Nat.le_add_right _ _), Nat.le_of_ble_eq_true rfl, ⟨rfl, rfl⟩, ?_⟩
  rw [H.2.2.2.1 _ _ _ _ _ (Nat.le_of_ble_eq_true rfl)]
  simp only [List.cons_append, List.nil_append, List.length_cons, List.length_nil, Nat.reduceAdd, List.set_cons_zero, List.set_cons_succ, List.take_succ_cons, List.take_zero, Nat.add_assoc, xp_dfl]
  conv => whnf
  refine ⟨Nat.le_of_ble_eq_true rfl, Nat.le_of_ble_eq_true rfl, ?_⟩
  rw [H.2.2.1, H.2.1]
  simp only [List.cons_append, List.nil_append, List.length_cons, List.length_nil, Nat.reduceAdd, List.set_cons_zero, List.set_cons_succ, List.take_succ_cons, List.take_zero, Nat.add_assoc, xp_dfl]
  conv => whnf
  refine ⟨rfl, ?_⟩
  conv => whnf
  refine xw0 2 132 (Nat.le_of_ble_eq_true rfl) (Nat.le_of_ble_eq_true rfl) (Nat.le_of_ble_eq_true rfl) (by rw [xh_td H 33 (Nat.le_of_ble_eq_true rfl)]; exact ct_X6_init_32 H _ (Nat.le_trans hb (Nat.le_add_right _ _))) ?_
  rw [xh_bk H 33 (Nat.le_of_ble_eq_true rfl)]
  simp only [List.cons_append, List.nil_append, List.length_cons, List.length_nil, Nat.reduceAdd, List.set_cons_zero, List.set_cons_succ, List.take_succ_cons, List.take_zero, Nat.add_assoc, xp_dfl]
  conv => whnf
  rw [H.1]
  conv => whnf
  refine ⟨rfl, Nat.le_trans hb (Nat.le_add_right _ _), Nat.le_of_ble_eq_true rfl, ⟨rfl, rfl⟩, ?_⟩
  rw [H.2.2.2.1 _ _ _ _ _ (Nat.le_of_ble_eq_true rfl)]
  simp only [List.cons_append, List.nil_append, List.length_cons, List.length_nil, Nat.reduceAdd, List.set_cons_zero, List.set_cons_succ, List.take_succ_cons, List.take_zero, Nat.add_assoc, xp_dfl]
  conv => whnf
  refine ⟨Nat.le_of_ble_eq_true rfl, Nat.le_of_ble_eq_true rfl, ?_⟩
  rw [H.2.2.1, H.2.1]
  simp only [List.cons_append, List.nil_append, List.length_cons, List.length_nil, Nat.reduceAdd, List.set_cons_zero, List.set_cons_succ, List.take_succ_cons, List.take_zero, Nat.add_assoc, xp_dfl]
  conv => whnf
  refine ⟨rfl, ?_⟩
  conv => whnf
  refine xw0 2 132 (Nat.le_of_ble_eq_true rfl) (Nat.le_of_ble_eq_true rfl) (Nat.le_of_ble_eq_true rfl) (by rw [xh_td H 36 (Nat.le_of_ble_eq_true rfl)]; exact ct_X6_init_32 H _ (Nat.le_trans hb (Nat.le_add_right _ _))) ?_
  rw [xh_bk H 36 (Nat.le_of_ble_eq_true rfl)]
  simp only [List.cons_append, List.nil_append, List.length_cons, List.length_nil, Nat.reduceAdd, List.set_cons_zero, List.set_cons_succ, List.take_succ_cons, List.take_zero, Nat.add_assoc, xp_dfl]
  conv => whnf
  rw [H.1]
  conv => whnf
  refine ⟨rfl, Nat.le_trans hb (Nat.le_add_right _ _), Nat.le_of_ble_eq_true rfl, ⟨rfl, rfl⟩, ?_⟩
  rw [H.2.2.2.1 _ _ _ _ _ (Nat.le_of_ble_eq_true rfl)]
  simp only [List.cons_append, List.nil_append, List.length_cons, List.length_nil, Nat.reduceAdd, List.set_cons_zero, List.set_cons_succ, List.take_succ_cons, List.take_zero, Nat.add_assoc, xp_dfl]
  conv => whnf
  refine ⟨Nat.le_of_ble_eq_true rfl, Nat.le_of_ble_eq_true rfl, ?_⟩
  rw [H.2.2.1, H.2.1]
  simp only [List.cons_append, List.nil_append, List.length_cons, List.length_nil, Nat.reduceAdd, List.set_cons_zero, List.set_cons_succ, List.take_succ_cons, List.take_zero, Nat.add_assoc, xp_dfl]
  conv => whnf
  refine ⟨rfl, ?_⟩
  conv => whnf
  refine xw0 6 248 (Nat.le_of_ble_eq_true rfl) (Nat.le_of_ble_eq_true rfl) (Nat.le_of_ble_eq_true rfl) (by rw [xh_td H 39 (Nat.le_of_ble_eq_true rfl)]; exact ct_X10_init H _ (Nat.le_trans hb (Nat.le_add_right _ _))) ?_
  rw [xh_bk H 39 (Nat.le_of_ble_eq_true rfl)]
  simp only [List.cons_append, List.nil_append, List.length_cons, List.length_nil, Nat.reduceAdd, List.set_cons_zero, List.set_cons_succ, List.take_succ_cons, List.take_zero, Nat.add_assoc, xp_dfl]
  conv => whnf
  rw [H.1]
  conv => whnf
  refine ⟨rfl, Nat.le_trans hb (Nat.le_add_right _ _), Nat.le_of_ble_eq_true rfl, ⟨rfl, rfl⟩, ?_⟩
  rw [H.2.2.2.1 _ _ _ _ _ (Nat.le_of_ble_eq_true rfl)]
  simp only [List.cons_append, List.nil_append, List.length_cons, List.length_nil, Nat.reduceAdd, List.set_cons_zero, List.set_cons_succ, List.take_succ_cons, List.take_zero, Nat.add_assoc, xp_dfl]
  conv => whnf
  refine ⟨Nat.le_of_ble_eq_true rfl, Nat.le_of_ble_eq_true rfl, ?_⟩
  rw [H.2.2.1, H.2.1]
  simp only [List.cons_append, List.nil_append, List.length_cons, List.length_nil, Nat.reduceAdd, List.set_cons_zero, List.set_cons_succ, List.take_succ_cons, List.take_zero, Nat.add_assoc, xp_dfl]
  conv => whnf
  refine ⟨rfl, ?_⟩
  conv => whnf
  refine xw0 10 1339 (Nat.le_of_ble_eq_true rfl) (Nat.le_of_ble_eq_true rfl) (Nat.le_of_ble_eq_true rfl) (by rw [xh_td H 46 (Nat.le_of_ble_eq_true rfl)]; exact ct_X3_init H _ (Nat.le_trans hb (Nat.le_add_right _ _))) ?_
  rw [xh_bk H 46 (Nat.le_of_ble_eq_true rfl)]
  simp only [List.cons_append, List.nil_append, List.length_cons, List.length_nil, Nat.reduceAdd, List.set_cons_zero, List.set_cons_succ, List.take_succ_cons, List.take_zero, Nat.add_assoc, xp_dfl]
  conv => whnf
  rw [H.1]
  conv => whnf
  refine ⟨rfl, Nat.le_trans hb (Nat.le_add_right _ _), Nat.le_of_ble_eq_true rfl, ⟨rfl, rfl⟩, ?_⟩
  rw [H.2.2.2.1 _ _ _ _ _ (Nat.le_of_ble_eq_true rfl)]
  simp only [List.cons_append, List.nil_append, List.length_cons, List.length_nil, Nat.reduceAdd, List.set_cons_zero, List.set_cons_succ, List.take_succ_cons, List.take_zero, Nat.add_assoc, xp_dfl]
  conv => whnf
  refine ⟨Nat.le_of_ble_eq_true rfl, Nat.le_of_ble_eq_true rfl, ?_⟩
  rw [H.2.2.1, H.2.1]
  simp only [List.cons_append, List.nil_append, List.length_cons, List.length_nil, Nat.reduceAdd, List.set_cons_zero, List.set_cons_succ, List.take_succ_cons, List.take_zero, Nat.add_assoc, xp_dfl]
  conv => whnf
  refine ⟨rfl, ?_⟩
  conv => whnf
  refine xw0 12 3026 (Nat.le_of_ble_eq_true rfl) (Nat.le_of_ble_eq_true rfl) (Nat.le_of_ble_eq_true rfl) (by rw [xh_td H 57 (Nat.le_of_ble_eq_true rfl)]; exact ct_X2_init H _ (Nat.le_trans hb (Nat.le_add_right _ _))) ?_
  rw [xh_bk H 57 (Nat.le_of_ble_eq_true rfl)]
  simp only [List.cons_append, List.nil_append, List.length_cons, List.length_nil, Nat.reduceAdd, List.set_cons_zero, List.set_cons_succ, List.take_succ_cons, List.take_zero, Nat.add_assoc, xp_dfl]
  conv => whnf
  rw [H.1]
  conv => whnf
  refine ⟨rfl, Nat.le_trans hb (Nat.le_add_right _ _), Nat.le_of_ble_eq_true rfl, ⟨rfl, rfl⟩, ?_⟩
  rw [H.2.2.2.1 _ _ _ _ _ (Nat.le_of_ble_eq_true rfl)]
  simp only [List.cons_append, List.nil_append, List.length_cons, List.length_nil, Nat.reduceAdd, List.set_cons_zero, List.set_cons_succ, List.take_succ_cons, List.take_zero, Nat.add_assoc, xp_dfl]
  conv => whnf
  refine ⟨Nat.le_of_ble_eq_true rfl, Nat.le_of_ble_eq_true rfl, ?_⟩
  rw [H.2.2.1, H.2.1]
  simp only [List.cons_append, List.nil_append, List.length_cons, List.length_nil, Nat.reduceAdd, List.set_cons_zero, List.set_cons_succ, List.take_succ_cons, List.take_zero, Nat.add_assoc, xp_dfl]
  conv => whnf
  refine ⟨rfl, ?_⟩
  conv => whnf
  refine xw0 12 14912 (Nat.le_of_ble_eq_true rfl) (Nat.le_of_ble_eq_true rfl) (Nat.le_of_ble_eq_true rfl) (by rw [xh_td H 70 (Nat.le_of_ble_eq_true rfl)]; exact ct_X7_init H _ (Nat.le_trans hb (Nat.le_add_right _ _))) ?_
  rw [xh_bk H 70 (Nat.le_of_ble_eq_true rfl)]
  simp only [List.cons_append, List.nil_append, List.length_cons, List.length_nil, Nat.reduceAdd, List.set_cons_zero, List.set_cons_succ, List.take_succ_cons, List.take_zero, Nat.add_assoc, xp_dfl]
  conv => whnf
  rw [H.1]
  conv => whnf
  refine ⟨rfl, Nat.le_trans hb (Nat.le_add_right _ _), Nat.le_of_ble_eq_true rfl, ⟨rfl, rfl⟩, ?_⟩
  rw [H.2.2.2.1 _ _ _ _ _ (Nat.le_of_ble_eq_true rfl)]
  simp only [List.cons_append, List.nil_append, List.length_cons, List.length_nil, Nat.reduceAdd, List.set_cons_zero, List.set_cons_succ, List.take_succ_cons, List.take_zero, Nat.add_assoc, xp_dfl]
  conv => whnf
  refine ⟨Nat.le_of_ble_eq_true rfl, Nat.le_of_ble_eq_true rfl, ?_⟩
  rw [H.2.2.1, H.2.1]
  simp only [List.cons_append, List.nil_append, List.length_cons, List.length_nil, Nat.reduceAdd, List.set_cons_zero, List.set_cons_succ, List.take_succ_cons, List.take_zero, Nat.add_assoc, xp_dfl]
  conv => whnf
  refine ⟨rfl, ?_⟩
  conv => whnf
  refine xw0 20 2584 (Nat.le_of_ble_eq_true rfl) (Nat.le_of_ble_eq_true rfl) (Nat.le_of_ble_eq_true rfl) (by rw [xh_td H 83 (Nat.le_of_ble_eq_true rfl)]; exact ct_X9_init H _ (Nat.le_trans hb (Nat.le_add_right _ _))) ?_
  rw [xh_bk H 83 (Nat.le_of_ble_eq_true rfl)]
  simp only [List.cons_append, List.nil_append, List.length_cons, List.length_nil, Nat.reduceAdd, List.set_cons_zero, List.set_cons_succ, List.take_succ_cons, List.take_zero, Nat.add_assoc, xp_dfl]
  conv => whnf
  rw [H.1]
  conv => whnf
  refine ⟨rfl, Nat.le_trans hb (Nat.le_add_right _ _), Nat.le_of_ble_eq_true rfl, ⟨rfl, rfl⟩, ?_⟩
  rw [H.2.2.2.1 _ _ _ _ _ (Nat.le_of_ble_eq_true rfl)]
  simp only [List.cons_append, List.nil_append, List.length_cons, List.length_nil, Nat.reduceAdd, List.set_cons_zero, List.set_cons_succ, List.take_succ_cons, List.take_zero, Nat.add_assoc, xp_dfl]
  conv => whnf
  refine ⟨Nat.le_of_ble_eq_true rfl, Nat.le_of_ble_eq_true rfl, ?_⟩
  rw [H.2.2.1, H.2.1]
  simp only [List.cons_append, List.nil_append, List.length_cons, List.length_nil, Nat.reduceAdd, List.set_cons_zero, List.set_cons_succ, List.take_succ_cons, List.take_zero, Nat.add_assoc, xp_dfl]
  conv => whnf
  refine ⟨rfl, ?_⟩
  conv => whnf
  refine xw0 3 264 (Nat.le_of_ble_eq_true rfl) (Nat.le_of_ble_eq_true rfl) (Nat.le_of_ble_eq_true rfl) (by rw [xh_td H 104 (Nat.le_of_ble_eq_true rfl)]; exact ct_X1_init H _ (Nat.le_trans hb (Nat.le_add_right _ _))) ?_
  rw [xh_bk H 104 (Nat.le_of_ble_eq_true rfl)]
  simp only [List.cons_append, List.nil_append, List.length_cons, List.length_nil, Nat.reduceAdd, List.set_cons_zero, List.set_cons_succ, List.take_succ_cons, List.take_zero, Nat.add_assoc, xp_dfl]
  conv => whnf
  rw [H.1]
  conv => whnf
  refine ⟨rfl, Nat.le_trans hb (Nat.le_add_right _ _), Nat.le_of_ble_eq_true rfl, ⟨rfl, rfl⟩, ?_⟩
  rw [H.2.2.2.1 _ _ _ _ _ (Nat.le_of_ble_eq_true rfl)]
  simp only [List.cons_append, List.nil_append, List.length_cons, List.length_nil, Nat.reduceAdd, List.set_cons_zero, List.set_cons_succ, List.take_succ_cons, List.take_zero, Nat.add_assoc, xp_dfl]
  conv => whnf
  rw [H.1]
  conv => whnf
  refine ⟨rfl, Nat.le_trans hb (Nat.le_add_right _ _), Nat.le_of_ble_eq_true rfl, ⟨rfl, rfl⟩, ?_⟩
  rw [H.2.2.2.1 _ _ _ _ _ (Nat.le_of_ble_eq_true rfl)]
  simp only [List.cons_append, List.nil_append, List.length_cons, List.length_nil, Nat.reduceAdd, List.set_cons_zero, List.set_cons_succ, List.take_succ_cons, List.take_zero, Nat.add_assoc, xp_dfl]
  conv => whnf
  rw [H.1]
  conv => whnf
  refine ⟨rfl, Nat.le_trans hb (Nat.le_add_right _ _), Nat.le_of_ble_eq_true rfl, ⟨rfl, rfl⟩, ?_⟩
  rw [H.2.2.2.1 _ _ _ _ _ (Nat.le_of_ble_eq_true rfl)]
  simp only [List.cons_append, List.nil_append, List.length_cons, List.length_nil, Nat.reduceAdd, List.set_cons_zero, List.set_cons_succ, List.take_succ_cons, List.take_zero, Nat.add_assoc, xp_dfl]
  conv => whnf
  rw [H.1]
  conv => whnf
  refine ⟨rfl, Nat.le_trans hb (Nat.le_add_right _ _), Nat.le_of_ble_eq_true rfl, ⟨rfl, rfl⟩, ?_⟩
  rw [H.2.2.2.1 _ _ _ _ _ (Nat.le_of_ble_eq_true rfl)]
  simp only [List.cons_append, List.nil_append, List.length_cons, List.length_nil, Nat.reduceAdd, List.set_cons_zero, List.set_cons_succ, List.take_succ_cons, List.take_zero, Nat.add_assoc, xp_dfl]
  conv => whnf
  rw [H.1]
  conv => whnf
  refine ⟨rfl, Nat.le_trans hb (Nat.le_add_right _ _), Nat.le_of_ble_eq_true rfl, ⟨rfl, rfl⟩, ?_⟩
  rw [H.2.2.2.1 _ _ _ _ _ (Nat.le_of_ble_eq_true rfl)]
  simp only [List.cons_append, List.nil_append, List.length_cons, List.length_nil, Nat.reduceAdd, List.set_cons_zero, List.set_cons_succ, List.take_succ_cons, List.take_zero, Nat.add_assoc, xp_dfl]
  conv => whnf
  rw [H.1]
  conv => whnf
  refine ⟨rfl, Nat.le_trans hb (Nat.le_add_right _ _), Nat.le_of_ble_eq_true rfl, ⟨rfl, rfl⟩, ?_⟩
  rw [H.2.2.2.1 _ _ _ _ _ (Nat.le_of_ble_eq_true rfl)]
  simp only [List.cons_append, List.nil_append, List.length_cons, List.length_nil, Nat.reduceAdd, List.set_cons_zero, List.set_cons_succ, List.take_succ_cons, List.take_zero, Nat.add_assoc, xp_dfl]
  conv => whnf
  rw [H.1]
  conv => whnf
  refine ⟨rfl, ?_⟩
  conv => whnf
  refine ⟨xw_O (by rw [H.1]; rfl), xw0 0 0 (Nat.le_of_ble_eq_true rfl) (Nat.le_of_ble_eq_true rfl) (Nat.le_of_ble_eq_true rfl) (ct_X8_setZero_1 H _ hb) ?_⟩
  conv => whnf
  exact ⟨rfl, rfl, rfl⟩
set_option maxRecDepth 100000 in
theorem ct_X12_newTable_1 (H : xh_L hl) (d : Nat) {g : Nat → Option va_E} {b : Nat} (hb : lo ≤ b) : xm_M xp ac lo xp_fty xp_dfl sv (d + 1) nm_X12_newTable [.ref (b + 0), .int 1] (hl g b [.inr (12, [.int 0, .ref (b + 1), .int 0, .int 0, .int 0, .int 0, .int 0, .ref (b + 2), .ref (b + 3), .ref (b + 4), .ref (b + 5), .ref (b + 6), .ref (b + 7), .ref (b + 8), .ref (b + 9), .ref (b + 10), .ref (b + 11), .int 0, .int 0, .int 0, .ref (b + 12), .ref (b + 13), .ref (b + 14), .ref (b + 15), .ref (b + 16), .ref (b + 17), .ref (b + 18), .int 0, .ref (b + 19), .ref (b + 20), .ref (b + 21), .ref (b + 22), .int 0, .int 0, .int 0, .int 0, .int 0, .int 0, .int 0, .ref (b + 23), .int 0, .ref (b + 24), .ref (b + 25), .ref (b + 26), .ref (b + 27), .int 0, .int 0, .int 0, .int 0, .int 0, .ref (b + 28), .ref (b + 29), .ref (b + 30), .ref (b + 31), .ref (b + 32), .ref (b + 33), .ref (b + 34), .ref (b + 35), .ref (b + 36), .ref (b + 37), .ref (b + 38), .ref (b + 39), .ref (b + 40), .ref (b + 41), .int 0, .int 0, .int 0, .int 0, .int 0, .long 0, .int 0, .int 0, .ref (b + 42), .ref (b + 43), .int 0, .ref (b + 44), .ref (b + 45), .int 0, .ref (b + 46), .ref (b + 47), .ref (b + 48), .int 0, .ref (b + 49), .ref (b + 50), .ref (b + 51), .int (-100), .ref (b + 52), .ref (b + 53), .int (-1), .int 0, .int 0, .ref (b + 54), .ref (b + 55), .ref (b + 56), .ref (b + 57), .ref (b + 58), .ref (b + 59), .ref (b + 60), .int 0, .int 0, .int 0, .ref (b + 61), .ref (b + 62), .ref (b + 63), .ref (b + 64), .ref (b + 65), .int 0, .ref (b + 66), .ref (b + 67), .int 0, .int 0, .int 0, .ref (b + 68), .ref (b + 69), .int 0, .int 0, .ref (b + 70), .ref (b + 71), .ref (b + 72), .ref (b + 73), .ref (b + 74), .ref (b + 75), .ref (b + 76), .ref (b + 77), .int 0, .ref (b + 78), .ref (b + 79), .ref (b + 80), .ref (b + 81), .int 0, .int (-1), .int 0, .ref (b + 82), .ref (b + 83), .ref (b + 84), .int 0, .ref (b + 85), .ref (b + 86), .ref (b + 87), .int 0, .ref (b + 88), .ref (b + 89), .ref (b + 90), .ref (b + 91), .ref (b + 92), .ref (b + 93), .int 0, .int (-1)]), .inl (ac 0, 400, .inl (fun _ => 0)), .inl (ac 0, 21, .inl (fun _ => 0)), .inl (ac 0, 21, .inl (fun _ => 0)), .inl (ac 0, 6300, .inl (fun _ => 0)), .inl (ac 0, 6300, .inl (fun _ => 0)), .inl (ac 0, 6300, .inl (fun _ => 0)), .inl (ac 0, 6300, .inl (fun _ => 0)), .inl (ac 0, 6300, .inl (fun _ => 0)), .inl (ac 0, 6300, .inl (fun _ => 0)), .inl (ac 1, 5, .inr (.inl (fun _ => 0))), .inl (ac 1, 5, .inr (.inl (fun _ => 0))), .inl (ac 0, 401, .inl (fun _ => 0)), .inl (ac 0, 401, .inl (fun _ => 0)), .inl (ac 0, 401, .inl (fun _ => 0)), .inl (ac 0, 401, .inl (fun _ => 0)), .inl (ac 2, 401, .inl (fun _ => 0)), .inl (ac 0, 401, .inl (fun _ => 0)), .inl (ac 0, 401, .inl (fun _ => 0)), .inl (ac 0, 401, .inl (fun _ => 0)), .inl (ac 0, 4, .inl (fun _ => 0)), .inl (ac 0, 4, .inl (fun _ => 0)), .inl (ac 0, 4, .inl (fun _ => 0)), .inl (ac 0, 1640, .inl (fun _ => 0)), .inl (ac 0, 18000, .inl (fun _ => 0)), .inl (ac 0, 8, .inl (fun _ => 0)), .inl (ac 2, 8, .inl (fun _ => 0)), .inl (ac 2, 256, .inl (fun _ => 0)), .inl (ac 0, 11520, .inl (fun _ => 0)), .inl (ac 0, 11520, .inl (fun _ => 0)), .inl (ac 3, 11520, .inl (fun _ => 0)), .inl (ac 0, 32768, .inl (fun _ => 0)), .inl (ac 0, 64, .inl (fun _ => 0)), .inl (ac 0, 2, .inl (fun _ => 0)), .inl (ac 0, 2, .inl (fun _ => 0)), .inl (ac 0, 300, .inl (fun _ => 0)), .inl (ac 0, 300, .inl (fun _ => 0)), .inl (ac 0, 300, .inl (fun _ => 0)), .inl (ac 1, 65536, .inr (.inl (fun _ => 0))), .inl (ac 1, 65536, .inr (.inl (fun _ => 0))), .inl (ac 2, 65536, .inl (fun _ => 0)), .inl (ac 0, 22501, .inl (fun _ => 0)), .inl (ac 1, 1280, .inr (.inl (fun _ => 0))), .inl (ac 1, 1280, .inr (.inl (fun _ => 0))), .inl (ac 1, 10, .inr (.inl (fun _ => 0))), .inl (ac 1, 5, .inr (.inl (fun _ => 0))), .inl (ac 0, 16, .inl (fun _ => 0)), .inl (ac 0, 16, .inl (fun _ => 0)), .inl (ac 0, 16, .inl (fun _ => 0)), .inl (ac 0, 20, .inl (fun _ => 0)), .inl (ac 0, 20, .inl (fun _ => 0)), .inl (ac 0, 20, .inl (fun _ => 0)), .inl (ac 1, 320, .inr (.inl (fun _ => 0))), .inl (ac 1, 1280, .inr (.inl (fun _ => 0))), .inl (ac 1, 320, .inr (.inl (fun _ => 0))), .inl (ac 1, 320, .inr (.inl (fun _ => 0))), .inl (ac 2, 32768, .inl (fun _ => 0)), .inl (ac 0, 32768, .inl (fun _ => 0)), .inl (ac 0, 9, .inl (fun _ => 0)), .inl (ac 0, 512, .inl (fun _ => 0)), .inl (ac 0, 512, .inl (fun _ => 0)), .inl (ac 2, 60, .inl (fun _ => 0)), .inl (ac 0, 60, .inl (fun _ => 0)), .inl (ac 0, 3600, .inl (fun _ => 0)), .inl (ac 0, 4, .inl (fun _ => 0)), .inl (ac 2, 4, .inl (fun _ => 0)), .inl (ac 0, 60, .inl (fun _ => 0)), .inl (ac 0, 60, .inl (fun _ => 0)), .inl (ac 0, 8, .inl (fun _ => 0)), .inl (ac 0, 8, .inl (fun _ => 0)), .inl (ac 0, 9, .inl (fun _ => 0)), .inl (ac 0, 9, .inl (fun _ => 0)), .inl (ac 0, 9, .inl (fun _ => 0)), .inl (ac 3, 65536, .inl (fun _ => 0)), .inl (ac 0, 9, .inl (fun _ => 0)), .inl (ac 0, 9, .inl (fun _ => 0)), .inl (ac 0, 9, .inl (fun _ => 0)), .inl (ac 0, 256, .inl (fun _ => 0)), .inl (ac 1, 20, .inr (.inl (fun _ => 0))), .inl (ac 1, 20, .inr (.inl (fun _ => 0))), .inl (ac 1, 20, .inr (.inl (fun _ => 0))), .inl (ac 0, 1300, .inl (fun _ => 0)), .inl (ac 1, 480, .inr (.inl (fun _ => 0))), .inl (ac 0, 480, .inl (fun _ => 0)), .inl (ac 0, 24, .inl (fun _ => 0)), .inl (ac 3, 40320, .inl (fun _ => 0)), .inl (ac 0, 40320, .inl (fun _ => 0)), .inl (ac 2, 36, .inl (fun _ => 0)), .inl (ac 0, 6, .inl (fun _ => 0)), .inl (ac 0, 46656, .inl (fun _ => 0)), .inl (ac 0, 217000, .inl (fun _ => 0)), .inl (ac 0, 217000, .inl (fun _ => 0)), .inl (ac 0, 217000, .inl (fun _ => 0)), .inl (ac 0, 217000, .inl (fun _ => 0))]) 0 0 (xq0 (hl g b [.inr (12, [.int 0, .ref (b + 1), .int 0, .int 0, .int 0, .int 0, .int 0, .ref (b + 2), .ref (b + 3), .ref (b + 4), .ref (b + 5), .ref (b + 6), .ref (b + 7), .ref (b + 8), .ref (b + 9), .ref (b + 10), .ref (b + 11), .int 0, .int 0, .int 0, .ref (b + 12), .ref (b + 13), .ref (b + 14), .ref (b + 15), .ref (b + 16), .ref (b + 17), .ref (b + 18), .int 0, .ref (b + 19), .ref (b + 20), .ref (b + 21), .ref (b + 22), .int 0, .int 0, .int 0, .int 0, .int 0, .int 0, .int 0, .ref (b + 23), .int 0, .ref (b + 24), .ref (b + 25), .ref (b + 26), .ref (b + 27), .int 0, .int 0, .int 0, .int 0, .int 0, .ref (b + 28), .ref (b + 29), .ref (b + 30), .ref (b + 31), .ref (b + 32), .ref (b + 33), .ref (b + 34), .ref (b + 35), .ref (b + 36), .ref (b + 37), .ref (b + 38), .ref (b + 39), .ref (b + 40), .ref (b + 41), .int 0, .int 0, .int 0, .int 0, .int 0, .long 0, .int 0, .int 0, .ref (b + 42), .ref (b + 43), .int 0, .ref (b + 44), .ref (b + 45), .int 0, .ref (b + 46), .ref (b + 47), .ref (b + 48), .int 1, .ref (b + 49), .ref (b + 50), .ref (b + 51), .int (-100), .ref (b + 52), .ref (b + 53), .int (-1), .int 0, .int 0, .ref (b + 54), .ref (b + 55), .ref (b + 56), .ref (b + 57), .ref (b + 58), .ref (b + 59), .ref (b + 60), .int 0, .int 0, .int 0, .ref (b + 61), .ref (b + 62), .ref (b + 63), .ref (b + 64), .ref (b + 65), .int 0, .ref (b + 66), .ref (b + 67), .int 0, .int 0, .int 0, .ref (b + 68), .ref (b + 69), .int 0, .int 0, .ref (b + 70), .ref (b + 71), .ref (b + 72), .ref (b + 73), .ref (b + 74), .ref (b + 75), .ref (b + 76), .ref (b + 77), .int 0, .ref (b + 78), .ref (b + 79), .ref (b + 80), .ref (b + 81), .int 0, .int (-1), .int 0, .ref (b + 82), .ref (b + 83), .ref (b + 84), .int 0, .ref (b + 85), .ref (b + 86), .ref (b + 87), .int 0, .ref (b + 88), .ref (b + 89), .ref (b + 90), .ref (b + 91), .ref (b + 92), .ref (b + 93), .int 0, .int (-1)]), .inl (ac 0, 400, .inl (fun _ => 0)), .inl (ac 0, 21, .inl (fun _ => 0)), .inl (ac 0, 21, .inl (fun _ => 0)), .inl (ac 0, 6300, .inl (fun _ => 0)), .inl (ac 0, 6300, .inl (fun _ => 0)), .inl (ac 0, 6300, .inl (fun _ => 0)), .inl (ac 0, 6300, .inl (fun _ => 0)), .inl (ac 0, 6300, .inl (fun _ => 0)), .inl (ac 0, 6300, .inl (fun _ => 0)), .inl (ac 1, 5, .inr (.inl (fun _ => 0))), .inl (ac 1, 5, .inr (.inl (fun _ => 0))), .inl (ac 0, 401, .inl (fun _ => 0)), .inl (ac 0, 401, .inl (fun _ => 0)), .inl (ac 0, 401, .inl (fun _ => 0)), .inl (ac 0, 401, .inl (fun _ => 0)), .inl (ac 2, 401, .inl (fun _ => 0)), .inl (ac 0, 401, .inl (fun _ => 0)), .inl (ac 0, 401, .inl (fun _ => 0)), .inl (ac 0, 401, .inl (fun _ => 0)), .inl (ac 0, 4, .inl (fun _ => 0)), .inl (ac 0, 4, .inl (fun _ => 0)), .inl (ac 0, 4, .inl (fun _ => 0)), .inl (ac 0, 1640, .inl (fun _ => 0)), .inl (ac 0, 18000, .inl (fun _ => 0)), .inl (ac 0, 8, .inl (fun _ => 0)), .inl (ac 2, 8, .inl (fun _ => 0)), .inl (ac 2, 256, .inl (fun _ => 0)), .inl (ac 0, 11520, .inl (fun _ => 0)), .inl (ac 0, 11520, .inl (fun _ => 0)), .inl (ac 3, 11520, .inl (fun _ => 0)), .inl (ac 0, 32768, .inl (fun _ => 0)), .inl (ac 0, 64, .inl (fun _ => 0)), .inl (ac 0, 2, .inl (fun _ => 0)), .inl (ac 0, 2, .inl (fun _ => 0)), .inl (ac 0, 300, .inl (fun _ => 0)), .inl (ac 0, 300, .inl (fun _ => 0)), .inl (ac 0, 300, .inl (fun _ => 0)), .inl (ac 1, 65536, .inr (.inl (fun _ => 0))), .inl (ac 1, 65536, .inr (.inl (fun _ => 0))), .inl (ac 2, 65536, .inl (fun _ => 0)), .inl (ac 0, 22501, .inl (fun _ => 0)), .inl (ac 1, 1280, .inr (.inl (fun _ => 0))), .inl (ac 1, 1280, .inr (.inl (fun _ => 0))), .inl (ac 1, 10, .inr (.inl (fun _ => 0))), .inl (ac 1, 5, .inr (.inl (fun _ => 0))), .inl (ac 0, 16, .inl (fun _ => 0)), .inl (ac 0, 16, .inl (fun _ => 0)), .inl (ac 0, 16, .inl (fun _ => 0)), .inl (ac 0, 20, .inl (upd (fun _ => 0) 0 0)), .inl (ac 0, 20, .inl (upd (fun _ => 0) 0 1)), .inl (ac 0, 20, .inl (upd (fun _ => 0) 0 0)), .inl (ac 1, 320, .inr (.inl (fun _ => 0))), .inl (ac 1, 1280, .inr (.inl (fun _ => 0))), .inl (ac 1, 320, .inr (.inl (fun _ => 0))), .inl (ac 1, 320, .inr (.inl (fun _ => 0))), .inl (ac 2, 32768, .inl (fun _ => 0)), .inl (ac 0, 32768, .inl (fun _ => 0)), .inl (ac 0, 9, .inl (fun _ => 0)), .inl (ac 0, 512, .inl (fun _ => 0)), .inl (ac 0, 512, .inl (fun _ => 0)), .inl (ac 2, 60, .inl (fun _ => 0)), .inl (ac 0, 60, .inl (fun _ => 0)), .inl (ac 0, 3600, .inl (fun _ => 0)), .inl (ac 0, 4, .inl (fun _ => 0)), .inl (ac 2, 4, .inl (fun _ => 0)), .inl (ac 0, 60, .inl (fun _ => 0)), .inl (ac 0, 60, .inl (fun _ => 0)), .inl (ac 0, 8, .inl (fun _ => 0)), .inl (ac 0, 8, .inl (fun _ => 0)), .inl (ac 0, 9, .inl (fun _ => 0)), .inl (ac 0, 9, .inl (fun _ => 0)), .inl (ac 0, 9, .inl (fun _ => 0)), .inl (ac 3, 65536, .inl (fun _ => 0)), .inl (ac 0, 9, .inl (fun _ => 0)), .inl (ac 0, 9, .inl (fun _ => 0)), .inl (ac 0, 9, .inl (fun _ => 0)), .inl (ac 0, 256, .inl (fun _ => 0)), .inl (ac 1, 20, .inr (.inl (fun _ => 0))), .inl (ac 1, 20, .inr (.inl (fun _ => 0))), .inl (ac 1, 20, .inr (.inl (fun _ => 0))), .inl (ac 0, 1300, .inl (fun _ => 0)), .inl (ac 1, 480, .inr (.inl (fun _ => 0))), .inl (ac 0, 480, .inl (fun _ => 0)), .inl (ac 0, 24, .inl (fun _ => 0)), .inl (ac 3, 40320, .inl (fun _ => 0)), .inl (ac 0, 40320, .inl (fun _ => 0)), .inl (ac 2, 36, .inl (fun _ => 0)), .inl (ac 0, 6, .inl (fun _ => 0)), .inl (ac 0, 46656, .inl (fun _ => 0)), .inl (ac 0, 217000, .inl (fun _ => 0)), .inl (ac 0, 217000, .inl (fun _ => 0)), .inl (ac 0, 217000, .inl (fun _ => 0)), .inl (ac 0, 217000, .inl (fun _ => 0))])) := by
  refine ⟨rfl, Nat.le_of_ble_eq_true rfl, Nat.le_of_ble_eq_true rfl, fun X hX => xm_run hX 1000 _ _ _ _ _ _ ?_⟩
  conv => whnf
  rw [H.1]
  conv => whnf
  refine ⟨rfl, Nat.le_trans hb (Nat.le_add_right _ _), Nat.le_of_ble_eq_true rfl, ⟨rfl, rfl⟩, ?_⟩
  rw [H.2.2.2.1 _ _ _ _ _ (Nat.le_of_ble_eq_true rfl)]
  simp only [List.cons_append, List.nil_append, List.length_cons, List.length_nil, Nat.reduceAdd, List.set_cons_zero, List.set_cons_succ, List.take_succ_cons, List.take_zero, Nat.add_assoc, xp_dfl]
  conv => whnf
  refine ⟨Nat.le_of_ble_eq_true rfl, ?_⟩
  conv => whnf
  refine ⟨fun c => absurd c (by decide), fun c => ?_⟩
  conv => whnf
  rw [H.1]
  conv => whnf
  refine ⟨rfl, ?_⟩
  conv => whnf
  rw [H.1]
  conv => whnf
  refine ⟨rfl, (by unfold vp_in; decide), Nat.le_trans hb (Nat.le_add_right _ _), ?_⟩
  rw [H.2.2.2.1 _ _ _ _ _ (Nat.le_of_ble_eq_true rfl)]
  simp only [List.cons_append, List.nil_append, List.length_cons, List.length_nil, Nat.reduceAdd, List.set_cons_zero, List.set_cons_succ, List.take_succ_cons, List.take_zero, Nat.add_assoc, xp_dfl]
  conv => whnf
  rw [H.1]
  conv => whnf
  refine ⟨rfl, ?_⟩
  conv => whnf
  rw [H.1]
  conv => whnf
  refine ⟨rfl, (by unfold vp_in; decide), Nat.le_trans hb (Nat.le_add_right _ _), ?_⟩
  rw [H.2.2.2.1 _ _ _ _ _ (Nat.le_of_ble_eq_true rfl)]
  simp only [List.cons_append, List.nil_append, List.length_cons, List.length_nil, Nat.reduceAdd, List.set_cons_zero, List.set_cons_succ, List.take_succ_cons, List.take_zero, Nat.add_assoc, xp_dfl]
  conv => whnf
  rw [H.1]
  conv => whnf
  refine ⟨rfl, ?_⟩
  conv => whnf
  rw [H.1]
  conv => whnf
  refine ⟨rfl, (by unfold vp_in; decide), Nat.le_trans hb (Nat.le_add_right _ _), ?_⟩
  rw [H.2.2.2.1 _ _ _ _ _ (Nat.le_of_ble_eq_true rfl)]
  simp only [List.cons_append, List.nil_append, List.length_cons, List.length_nil, Nat.reduceAdd, List.set_cons_zero, List.set_cons_succ, List.take_succ_cons, List.take_zero, Nat.add_assoc, xp_dfl]
  conv => whnf
  refine ⟨Nat.le_of_ble_eq_true rfl, ?_⟩
  conv => whnf
  refine ⟨fun c => ?_, fun c => absurd (by decide) c⟩
  conv => whnf
  exact ⟨rfl, rfl, rfl⟩
set_option maxRecDepth 100000 in
theorem ct_X12_init (H : xh_L hl) (d : Nat) {g : Nat → Option va_E} {b : Nat} (hb : lo ≤ b) : xm_M xp ac lo xp_fty xp_dfl sv (d + 2) nm_X12_init [.ref (b + 0)] (hl g b [.inr (12, [.int 0, .null, .int 0, .int 0, .int 0, .int 0, .int 0, .null, .null, .null, .null, .null, .null, .null, .null, .null, .null, .int 0, .int 0, .int 0, .null, .null, .null, .null, .null, .null, .null, .int 0, .null, .null, .null, .null, .int 0, .int 0, .int 0, .int 0, .int 0, .int 0, .int 0, .null, .int 0, .null, .null, .null, .null, .int 0, .int 0, .int 0, .int 0, .int 0, .null, .null, .null, .null, .null, .null, .null, .null, .null, .null, .null, .null, .null, .null, .int 0, .int 0, .int 0, .int 0, .int 0, .long 0, .int 0, .int 0, .null, .null, .int 0, .null, .null, .int 0, .null, .null, .null, .int 0, .null, .null, .null, .int 0, .null, .null, .int 0, .int 0, .int 0, .null, .null, .null, .null, .null, .null, .null, .int 0, .int 0, .int 0, .null, .null, .null, .null, .null, .int 0, .null, .null, .int 0, .int 0, .int 0, .null, .null, .int 0, .int 0, .null, .null, .null, .null, .null, .null, .null, .null, .int 0, .null, .null, .null, .null, .int 0, .int 0, .int 0, .null, .null, .null, .int 0, .null, .null, .null, .int 0, .null, .null, .null, .null, .null, .null, .int 0, .int 0])]) 93 1487673 (xq0 (hl g b [.inr (12, [.int 0, .ref (b + 1), .int 0, .int 0, .int 0, .int 0, .int 0, .ref (b + 2), .ref (b + 3), .ref (b + 4), .ref (b + 5), .ref (b + 6), .ref (b + 7), .ref (b + 8), .ref (b + 9), .ref (b + 10), .ref (b + 11), .int 0, .int 0, .int 0, .ref (b + 12), .ref (b + 13), .ref (b + 14), .ref (b + 15), .ref (b + 16), .ref (b + 17), .ref (b + 18), .int 0, .ref (b + 19), .ref (b + 20), .ref (b + 21), .ref (b + 22), .int 0, .int 0, .int 0, .int 0, .int 0, .int 0, .int 0, .ref (b + 23), .int 0, .ref (b + 24), .ref (b + 25), .ref (b + 26), .ref (b + 27), .int 0, .int 0, .int 0, .int 0, .int 0, .ref (b + 28), .ref (b + 29), .ref (b + 30), .ref (b + 31), .ref (b + 32), .ref (b + 33), .ref (b + 34), .ref (b + 35), .ref (b + 36), .ref (b + 37), .ref (b + 38), .ref (b + 39), .ref (b + 40), .ref (b + 41), .int 0, .int 0, .int 0, .int 0, .int 0, .long 0, .int 0, .int 0, .ref (b + 42), .ref (b + 43), .int 0, .ref (b + 44), .ref (b + 45), .int 0, .ref (b + 46), .ref (b + 47), .ref (b + 48), .int 1, .ref (b + 49), .ref (b + 50), .ref (b + 51), .int (-100), .ref (b + 52), .ref (b + 53), .int (-1), .int 0, .int 0, .ref (b + 54), .ref (b + 55), .ref (b + 56), .ref (b + 57), .ref (b + 58), .ref (b + 59), .ref (b + 60), .int 0, .int 0, .int 0, .ref (b + 61), .ref (b + 62), .ref (b + 63), .ref (b + 64), .ref (b + 65), .int 0, .ref (b + 66), .ref (b + 67), .int 0, .int 0, .int 0, .ref (b + 68), .ref (b + 69), .int 0, .int 0, .ref (b + 70), .ref (b + 71), .ref (b + 72), .ref (b + 73), .ref (b + 74), .ref (b + 75), .ref (b + 76), .ref (b + 77), .int 0, .ref (b + 78), .ref (b + 79), .ref (b + 80), .ref (b + 81), .int 0, .int (-1), .int 0, .ref (b + 82), .ref (b + 83), .ref (b + 84), .int 0, .ref (b + 85), .ref (b + 86), .ref (b + 87), .int 0, .ref (b + 88), .ref (b + 89), .ref (b + 90), .ref (b + 91), .ref (b + 92), .ref (b + 93), .int 0, .int (-1)]), .inl (ac 0, 400, .inl (fun _ => 0)), .inl (ac 0, 21, .inl (fun _ => 0)), .inl (ac 0, 21, .inl (fun _ => 0)), .inl (ac 0, 6300, .inl (fun _ => 0)), .inl (ac 0, 6300, .inl (fun _ => 0)), .inl (ac 0, 6300, .inl (fun _ => 0)), .inl (ac 0, 6300, .inl (fun _ => 0)), .inl (ac 0, 6300, .inl (fun _ => 0)), .inl (ac 0, 6300, .inl (fun _ => 0)), .inl (ac 1, 5, .inr (.inl (fun _ => 0))), .inl (ac 1, 5, .inr (.inl (fun _ => 0))), .inl (ac 0, 401, .inl (fun _ => 0)), .inl (ac 0, 401, .inl (fun _ => 0)), .inl (ac 0, 401, .inl (fun _ => 0)), .inl (ac 0, 401, .inl (fun _ => 0)), .inl (ac 2, 401, .inl (fun _ => 0)), .inl (ac 0, 401, .inl (fun _ => 0)), .inl (ac 0, 401, .inl (fun _ => 0)), .inl (ac 0, 401, .inl (fun _ => 0)), .inl (ac 0, 4, .inl (fun _ => 0)), .inl (ac 0, 4, .inl (fun _ => 0)), .inl (ac 0, 4, .inl (fun _ => 0)), .inl (ac 0, 1640, .inl (fun _ => 0)), .inl (ac 0, 18000, .inl (fun _ => 0)), .inl (ac 0, 8, .inl (fun _ => 0)), .inl (ac 2, 8, .inl (fun _ => 0)), .inl (ac 2, 256, .inl (fun _ => 0)), .inl (ac 0, 11520, .inl (fun _ => 0)), .inl (ac 0, 11520, .inl (fun _ => 0)), .inl (ac 3, 11520, .inl (fun _ => 0)), .inl (ac 0, 32768, .inl (fun _ => 0)), .inl (ac 0, 64, .inl (fun _ => 0)), .inl (ac 0, 2, .inl (fun _ => 0)), .inl (ac 0, 2, .inl (fun _ => 0)), .inl (ac 0, 300, .inl (fun _ => 0)), .inl (ac 0, 300, .inl (fun _ => 0)), .inl (ac 0, 300, .inl (fun _ => 0)), .inl (ac 1, 65536, .inr (.inl (fun _ => 0))), .inl (ac 1, 65536, .inr (.inl (fun _ => 0))), .inl (ac 2, 65536, .inl (fun _ => 0)), .inl (ac 0, 22501, .inl (fun _ => 0)), .inl (ac 1, 1280, .inr (.inl (fun _ => 0))), .inl (ac 1, 1280, .inr (.inl (fun _ => 0))), .inl (ac 1, 10, .inr (.inl (fun _ => 0))), .inl (ac 1, 5, .inr (.inl (fun _ => 0))), .inl (ac 0, 16, .inl (fun _ => 0)), .inl (ac 0, 16, .inl (fun _ => 0)), .inl (ac 0, 16, .inl (fun _ => 0)), .inl (ac 0, 20, .inl (upd (fun _ => 0) 0 0)), .inl (ac 0, 20, .inl (upd (fun _ => 0) 0 1)), .inl (ac 0, 20, .inl (upd (fun _ => 0) 0 0)), .inl (ac 1, 320, .inr (.inl (fun _ => 0))), .inl (ac 1, 1280, .inr (.inl (fun _ => 0))), .inl (ac 1, 320, .inr (.inl (fun _ => 0))), .inl (ac 1, 320, .inr (.inl (fun _ => 0))), .inl (ac 2, 32768, .inl (fun _ => 0)), .inl (ac 0, 32768, .inl (fun _ => 0)), .inl (ac 0, 9, .inl (fun _ => 0)), .inl (ac 0, 512, .inl (fun _ => 0)), .inl (ac 0, 512, .inl (fun _ => 0)), .inl (ac 2, 60, .inl (fun _ => 0)), .inl (ac 0, 60, .inl (fun _ => 0)), .inl (ac 0, 3600, .inl (fun _ => 0)), .inl (ac 0, 4, .inl (fun _ => 0)), .inl (ac 2, 4, .inl (fun _ => 0)), .inl (ac 0, 60, .inl (fun _ => 0)), .inl (ac 0, 60, .inl (fun _ => 0)), .inl (ac 0, 8, .inl (fun _ => 0)), .inl (ac 0, 8, .inl (fun _ => 0)), .inl (ac 0, 9, .inl (fun _ => 0)), .inl (ac 0, 9, .inl (fun _ => 0)), .inl (ac 0, 9, .inl (fun _ => 0)), .inl (ac 3, 65536, .inl (fun _ => 0)), .inl (ac 0, 9, .inl (fun _ => 0)), .inl (ac 0, 9, .inl (fun _ => 0)), .inl (ac 0, 9, .inl (fun _ => 0)), .inl (ac 0, 256, .inl (fun _ => 0)), .inl (ac 1, 20, .inr (.inl (fun _ => 0))), .inl (ac 1, 20, .inr (.inl (fun _ => 0))), .inl (ac 1, 20, .inr (.inl (fun _ => 0))), .inl (ac 0, 1300, .inl (fun _ => 0)), .inl (ac 1, 480, .inr (.inl (fun _ => 0))), .inl (ac 0, 480, .inl (fun _ => 0)), .inl (ac 0, 24, .inl (fun _ => 0)), .inl (ac 3, 40320, .inl (fun _ => 0)), .inl (ac 0, 40320, .inl (fun _ => 0)), .inl (ac 2, 36, .inl (fun _ => 0)), .inl (ac 0, 6, .inl (fun _ => 0)), .inl (ac 0, 46656, .inl (fun _ => 0)), .inl (ac 0, 217000, .inl (fun _ => 0)), .inl (ac 0, 217000, .inl (fun _ => 0)), .inl (ac 0, 217000, .inl (fun _ => 0)), .inl (ac 0, 217000, .inl (fun _ => 0))])) := by
  refine ⟨rfl, Nat.le_of_ble_eq_true rfl, Nat.le_of_ble_eq_true rfl, fun X hX => xm_run hX 1000 _ _ _ _ _ _ ?_⟩
  conv => whnf
  refine ⟨rfl, Nat.le_of_ble_eq_true rfl, ?_⟩
  conv => whnf
  refine ⟨by decide, by decide, Nat.le_of_ble_eq_true rfl, Nat.le_of_ble_eq_true rfl, ?_⟩
  dsimp only [xm_new]
  rw [H.2.2.1, H.2.1]
  simp only [List.cons_append, List.nil_append, List.length_cons, List.length_nil, Nat.reduceAdd, List.set_cons_zero, List.set_cons_succ, List.take_succ_cons, List.take_zero, Nat.add_assoc, xp_dfl]
  conv => whnf
  rw [H.1]
  conv => whnf
  refine ⟨rfl, Nat.le_trans hb (Nat.le_add_right _ _), Nat.le_of_ble_eq_true rfl, ⟨rfl, rfl⟩, ?_⟩
  rw [H.2.2.2.1 _ _ _ _ _ (Nat.le_of_ble_eq_true rfl)]
  simp only [List.cons_append, List.nil_append, List.length_cons, List.length_nil, Nat.reduceAdd, List.set_cons_zero, List.set_cons_succ, List.take_succ_cons, List.take_zero, Nat.add_assoc, xp_dfl]
  conv => whnf
  refine ⟨by decide, by decide, Nat.le_of_ble_eq_true rfl, Nat.le_of_ble_eq_true rfl, ?_⟩
  dsimp only [xm_new]
  rw [H.2.2.1, H.2.1]
  simp only [List.cons_append, List.nil_append, List.length_cons, List.length_nil, Nat.reduceAdd, List.set_cons_zero, List.set_cons_succ, List.take_succ_cons, List.take_zero, Nat.add_assoc, xp_dfl]
  conv => whnf
  rw [H.1]
  conv => whnf
  refine ⟨rfl, Nat.le_trans hb (Nat.le_add_right _ _), Nat.le_of_ble_eq_true rfl, ⟨rfl, rfl⟩, ?_⟩
  rw [H.2.2.2.1 _ _ _ _ _ (Nat.le_of_ble_eq_true rfl)]
  simp only [List.cons_append, List.nil_append, List.length_cons, List.length_nil, Nat.reduceAdd, List.set_cons_zero, List.set_cons_succ, List.take_succ_cons, List.take_zero, Nat.add_assoc, xp_dfl]
  conv => whnf
  refine ⟨by decide, by decide, Nat.le_of_ble_eq_true rfl, Nat.le_of_ble_eq_true rfl, ?_⟩
  dsimp only [xm_new]
  rw [H.2.2.1, H.2.1]
  simp only [List.cons_append, List.nil_append, List.length_cons, List.length_nil, Nat.reduceAdd, List.set_cons_zero, List.set_cons_succ, List.take_succ_cons, List.take_zero, Nat.add_assoc, xp_dfl]
  conv => whnf
  rw [H.1]
  conv => whnf
  refine ⟨rfl, Nat.le_trans hb (Nat.le_add_right _ _), Nat.le_of_ble_eq_true rfl, ⟨rfl, rfl⟩, ?_⟩
  rw [H.2.2.2.1 _ _ _ _ _ (Nat.le_of_ble_eq_true rfl)]
  simp only [List.cons_append, List.nil_append, List.length_cons, List.length_nil, Nat.reduceAdd, List.set_cons_zero, List.set_cons_succ, List.take_succ_cons, List.take_zero, Nat.add_assoc, xp_dfl]
  conv => whnf
  refine ⟨by decide, by decide, Nat.le_of_ble_eq_true rfl, Nat.le_of_ble_eq_true rfl, ?_⟩
  dsimp only [xm_new]
  rw [H.2.2.1, H.2.1]
  simp only [List.cons_append, List.nil_append, List.length_cons, List.length_nil, Nat.reduceAdd, List.set_cons_zero, List.set_cons_succ, List.take_succ_cons, List.take_zero, Nat.add_assoc, xp_dfl]
  conv => whnf
  rw [H.1]
  conv => whnf
  refine ⟨rfl, Nat.le_trans hb (Nat.le_add_right _ _), Nat.le_of_ble_eq_true rfl, ⟨rfl, rfl⟩, ?_⟩
  rw [H.2.2.2.1 _ _ _ _ _ (Nat.le_of_ble_eq_true rfl)]
  simp only [List.cons_append, List.nil_append, List.length_cons, List.length_nil, Nat.reduceAdd, List.set_cons_zero, List.set_cons_succ, List.take_succ_cons, List.take_zero, Nat.add_assoc, xp_dfl]
  conv => whnf
  refine ⟨by decide, by decide, Nat.le_of_ble_eq_true rfl, Nat.le_of_ble_eq_true rfl, ?_⟩
  dsimp only [xm_new]
  rw [H.2.2.1, H.2.1]
  simp only [List.cons_append, List.nil_append, List.length_cons, List.length_nil, Nat.reduceAdd, List.set_cons_zero, List.set_cons_succ, List.take_succ_cons, List.take_zero, Nat.add_assoc, xp_dfl]
  conv => whnf
  rw [H.1]
  conv => whnf
  refine ⟨rfl, Nat.le_trans hb (Nat.le_add_right _ _), Nat.le_of_ble_eq_true rfl, ⟨rfl, rfl⟩, ?_⟩
  rw [H.2.2.2.1 _ _ _ _ _ (Nat.le_of_ble_eq_true rfl)]
  simp only [List.cons_append, List.nil_append, List.length_cons, List.length_nil, Nat.reduceAdd, List.set_cons_zero, List.set_cons_succ, List.take_succ_cons, List.take_zero, Nat.add_assoc, xp_dfl]
  conv => whnf
  refine ⟨by decide, by decide, Nat.le_of_ble_eq_true rfl, Nat.le_of_ble_eq_true rfl, ?_⟩
  dsimp only [xm_new]
  rw [H.2.2.1, H.2.1]
  simp only [List.cons_append, List.nil_append, List.length_cons, List.length_nil, Nat.reduceAdd, List.set_cons_zero, List.set_cons_succ, List.take_succ_cons, List.take_zero, Nat.add_assoc, xp_dfl]
  conv => whnf
  rw [H.1]
  conv => whnf
  refine ⟨rfl, Nat.le_trans hb (Nat.le_add_right _ _), Nat.le_of_ble_eq_true rfl, ⟨rfl, rfl⟩, ?_⟩
  rw [H.2.2.2.1 _ _ _ _ _ (Nat.le_of_ble_eq_true rfl)]
  simp only [List.cons_append, List.nil_append, List.length_cons, List.length_nil, Nat.reduceAdd, List.set_cons_zero, List.set_cons_succ, List.take_succ_cons, List.take_zero, Nat.add_assoc, xp_dfl]
  conv => whnf
  refine ⟨by decide, by decide, Nat.le_of_ble_eq_true rfl, Nat.le_of_ble_eq_true rfl, ?_⟩
  dsimp only [xm_new]
  rw [H.2.2.1, H.2.1]
  simp only [List.cons_append, List.nil_append, List.length_cons, List.length_nil, Nat.reduceAdd, List.set_cons_zero, List.set_cons_succ, List.take_succ_cons, List.take_zero, Nat.add_assoc, xp_dfl]
  conv => whnf
  rw [H.1]
  conv => whnf
  refine ⟨rfl, Nat.le_trans hb (Nat.le_add_right _ _), Nat.le_of_ble_eq_true rfl, ⟨rfl, rfl⟩, ?_⟩
  rw [H.2.2.2.1 _ _ _ _ _ (Nat.le_of_ble_eq_true rfl)]
  simp only [List.cons_append, List.nil_append, List.length_cons, List.length_nil, Nat.reduceAdd, List.set_cons_zero, List.set_cons_succ, List.take_succ_cons, List.take_zero, Nat.add_assoc, xp_dfl]
  conv => whnf
  refine ⟨by decide, by decide, Nat.le_of_ble_eq_true rfl, Nat.le_of_ble_eq_true rfl, ?_⟩
  dsimp only [xm_new]
  rw [H.2.2.1, H.2.1]
  simp only [List.cons_append, List.nil_append, List.length_cons, List.length_nil, Nat.reduceAdd, List.set_cons_zero, List.set_cons_succ, List.take_succ_cons, List.take_zero, Nat.add_assoc, xp_dfl]
  conv => whnf
  rw [H.1]
  conv => whnf
  refine ⟨rfl, Nat.le_trans hb (Nat.le_add_right _ _), Nat.le_of_ble_eq_true rfl, ⟨rfl, rfl⟩, ?_⟩
  rw [H.2.2.2.1 _ _ _ _ _ (Nat.le_of_ble_eq_true rfl)]
  simp only [List.cons_append, List.nil_append, List.length_cons, List.length_nil, Nat.reduceAdd, List.set_cons_zero, List.set_cons_succ, List.take_succ_cons, List.take_zero, Nat.add_assoc, xp_dfl]
  conv => whnf
  refine ⟨by decide, by decide, Nat.le_of_ble_eq_true rfl, Nat.le_of_ble_eq_true rfl, ?_⟩
  dsimp only [xm_new]
  rw [H.2.2.1, H.2.1]
  simp only [List.cons_append, List.nil_append, List.length_cons, List.length_nil, Nat.reduceAdd, List.set_cons_zero, List.set_cons_succ, List.take_succ_cons, List.take_zero, Nat.add_assoc, xp_dfl]
  conv => whnf
  rw [H.1]
  conv => whnf
  refine ⟨rfl, Nat.le_trans hb (Nat.le_add_right _ _), Nat.le_of_ble_eq_true rfl, ⟨rfl, rfl⟩, ?_⟩
  rw [H.2.2.2.1 _ _ _ _ _ (Nat.le_of_ble_eq_true rfl)]
  simp only [List.cons_append, List.nil_append, List.length_cons, List.length_nil, Nat.reduceAdd, List.set_cons_zero, List.set_cons_succ, List.take_succ_cons, List.take_zero, Nat.add_assoc, xp_dfl]
  conv => whnf
  refine ⟨by decide, by decide, Nat.le_of_ble_eq_true rfl, Nat.le_of_ble_eq_true rfl, ?_⟩
  dsimp only [xm_new]
  rw [H.2.2.1, H.2.1]
  simp only [List.cons_append, List.nil_append, List.length_cons, List.length_nil, Nat.reduceAdd, List.set_cons_zero, List.set_cons_succ, List.take_succ_cons, List.take_zero, Nat.add_assoc, xp_dfl]
  conv => whnf
  rw [H.1]
  conv => whnf
  refine ⟨rfl, Nat.le_trans hb (Nat.le_add_right _ _), Nat.le_of_ble_eq_true rfl, ⟨rfl, rfl⟩, ?_⟩
  rw [H.2.2.2.1 _ _ _ _ _ (Nat.le_of_ble_eq_true rfl)]
  simp only [List.cons_append, List.nil_append, List.length_cons, List.length_nil, Nat.reduceAdd, List.set_cons_zero, List.set_cons_succ, List.take_succ_cons, List.take_zero, Nat.add_assoc, xp_dfl]
  conv => whnf
  refine ⟨by decide, by decide, Nat.le_of_ble_eq_true rfl, Nat.le_of_ble_eq_true rfl, ?_⟩
  dsimp only [xm_new]
  rw [H.2.2.1, H.2.1]
  simp only [List.cons_append, List.nil_append, List.length_cons, List.length_nil, Nat.reduceAdd, List.set_cons_zero, List.set_cons_succ, List.take_succ_cons, List.take_zero, Nat.add_assoc, xp_dfl]
  conv => whnf
  rw [H.1]
  conv => whnf
  refine ⟨rfl, Nat.le_trans hb (Nat.le_add_right _ _), Nat.le_of_ble_eq_true rfl, ⟨rfl, rfl⟩, ?_⟩
  rw [H.2.2.2.1 _ _ _ _ _ (Nat.le_of_ble_eq_true rfl)]
  simp only [List.cons_append, List.nil_append, List.length_cons, List.length_nil, Nat.reduceAdd, List.set_cons_zero, List.set_cons_succ, List.take_succ_cons, List.take_zero, Nat.add_assoc, xp_dfl]
  conv => whnf
  refine ⟨by decide, by decide, Nat.le_of_ble_eq_true rfl, Nat.le_of_ble_eq_true rfl, ?_⟩
  dsimp only [xm_new]
  rw [H.2.2.1, H.2.1]
  simp only [List.cons_append, List.nil_append, List.length_cons, List.length_nil, Nat.reduceAdd, List.set_cons_zero, List.set_cons_succ, List.take_succ_cons, List.take_zero, Nat.add_assoc, xp_dfl]
  conv => whnf
  rw [H.1]
  conv => whnf
  refine ⟨rfl, Nat.le_trans hb (Nat.le_add_right _ _), Nat.le_of_ble_eq_true rfl, ⟨rfl, rfl⟩, ?_⟩
  rw [H.2.2.2.1 _ _ _ _ _ (Nat.le_of_ble_eq_true rfl)]
  simp only [List.cons_append, List.nil_append, List.length_cons, List.length_nil, Nat.reduceAdd, List.set_cons_zero, List.set_cons_succ, List.take_succ_cons, List.take_zero, Nat.add_assoc, xp_dfl]
  conv => whnf
  refine ⟨by decide, by decide, Nat.le_of_ble_eq_true rfl, Nat.le_of_ble_eq_true rfl, ?_⟩
  dsimp only [xm_new]
  rw [H.2.2.1, H.2.1]
  simp only [List.cons_append, List.nil_append, List.length_cons, List.length_nil, Nat.reduceAdd, List.set_cons_zero, List.set_cons_succ, List.take_succ_cons, List.take_zero, Nat.add_assoc, xp_dfl]
  conv => whnf
  rw [H.1]
  conv => whnf
  refine ⟨rfl, Nat.le_trans hb (Nat.le_add_right _ _), Nat.le_of_ble_eq_true rfl, ⟨rfl, rfl⟩, ?_⟩
  rw [H.2.2.2.1 _ _ _ _ _ (Nat.le_of_ble_eq_true rfl)]
  simp only [List.cons_append, List.nil_append, List.length_cons, List.length_nil, Nat.reduceAdd, List.set_cons_zero, List.set_cons_succ, List.take_succ_cons, List.take_zero, Nat.add_assoc, xp_dfl]
  conv => whnf
  refine ⟨by decide, by decide, Nat.le_of_ble_eq_true rfl, Nat.le_of_ble_eq_true rfl, ?_⟩
  dsimp only [xm_new]
  rw [H.2.2.1, H.2.1]
  simp only [List.cons_append, List.nil_append, List.length_cons, List.length_nil, Nat.reduceAdd, List.set_cons_zero, List.set_cons_succ, List.take_succ_cons, List.take_zero, Nat.add_assoc, xp_dfl]
  conv => whnf
  rw [H.1]
  conv => whnf
  refine ⟨rfl, Nat.le_trans hb (Nat.le_add_right _ _), Nat.le_of_ble_eq_true rfl, ⟨rfl, rfl⟩, ?_⟩
  rw [H.2.2.2.1 _ _ _ _ _ (Nat.le_of_ble_eq_true rfl)]
  simp only [List.cons_append, List.nil_append, List.length_cons, List.length_nil, Nat.reduceAdd, List.set_cons_zero, List.set_cons_succ, List.take_succ_cons, List.take_zero, Nat.add_assoc, xp_dfl]
  conv => whnf
  refine ⟨by decide, by decide, Nat.le_of_ble_eq_true rfl, Nat.le_of_ble_eq_true rfl, ?_⟩
  dsimp only [xm_new]
  rw [H.2.2.1, H.2.1]
  simp only [List.cons_append, List.nil_append, List.length_cons, List.length_nil, Nat.reduceAdd, List.set_cons_zero, List.set_cons_succ, List.take_succ_cons, List.take_zero, Nat.add_assoc, xp_dfl]
  conv => whnf
  rw [H.1]
  conv => whnf
  refine ⟨rfl, Nat.le_trans hb (Nat.le_add_right _ _), Nat.le_of_ble_eq_true rfl, ⟨rfl, rfl⟩, ?_⟩
  rw [H.2.2.2.1 _ _ _ _ _ (Nat.le_of_ble_eq_true rfl)]
  simp only [List.cons_append, List.nil_append, List.length_cons, List.length_nil, Nat.reduceAdd, List.set_cons_zero, List.set_cons_succ, List.take_succ_cons, List.take_zero, Nat.add_assoc, xp_dfl]
  conv => whnf
  refine ⟨by decide, by decide, Nat.le_of_ble_eq_true rfl, Nat.le_of_ble_eq_true rfl, ?_⟩
  dsimp only [xm_new]
  rw [H.2.2.1, H.2.1]
  simp only [List.cons_append, List.nil_append, List.length_cons, List.length_nil, Nat.reduceAdd, List.set_cons_zero, List.set_cons_succ, List.take_succ_cons, List.take_zero, Nat.add_assoc, xp_dfl]
  conv => whnf
  rw [H.1]
  conv => whnf
  refine ⟨rfl, Nat.le_trans hb (Nat.le_add_right _ _), Nat.le_of_ble_eq_true rfl, ⟨rfl, rfl⟩, ?_⟩
  rw [H.2.2.2.1 _ _ _ _ _ (Nat.le_of_ble_eq_true rfl)]
  simp only [List.cons_append, List.nil_append, List.length_cons, List.length_nil, Nat.reduceAdd, List.set_cons_zero, List.set_cons_succ, List.take_succ_cons, List.take_zero, Nat.add_assoc, xp_dfl]
  conv => whnf
  refine ⟨by decide, by decide, Nat.le_of_ble_eq_true rfl, Nat.le_of_ble_eq_true rfl, ?_⟩
  dsimp only [xm_new]
  rw [H.2.2.1, H.2.1]
  simp only [List.cons_append, List.nil_append, List.length_cons, List.length_nil, Nat.reduceAdd, List.set_cons_zero, List.set_cons_succ, List.take_succ_cons, List.take_zero, Nat.add_assoc, xp_dfl]
  conv => whnf
  rw [H.1]
  conv => whnf
  refine ⟨rfl, Nat.le_trans hb (Nat.le_add_right _ _), Nat.le_of_ble_eq_true rfl, ⟨rfl, rfl⟩, ?_⟩
  rw [H.2.2.2.1 _ _ _ _ _ (Nat.le_of_ble_eq_true rfl)]
  simp only [List.cons_append, List.nil_append, List.length_cons, List.length_nil, Nat.reduceAdd, List.set_cons_zero, List.set_cons_succ, List.take_succ_cons, List.take_zero, Nat.add_assoc, xp_dfl]
  conv => whnf
  refine ⟨by decide, by decide, Nat.le_of_ble_eq_true rfl, Nat.le_of_ble_eq_true rfl, ?_⟩
  dsimp only [xm_new]
  rw [H.2.2.1, H.2.1]
  simp only [List.cons_append, List.nil_append, List.length_cons, List.length_nil, Nat.reduceAdd, List.set_cons_zero, List.set_cons_succ, List.take_succ_cons, List.take_zero, Nat.add_assoc, xp_dfl]
  conv => whnf
  rw [H.1]
  conv => whnf
  refine ⟨rfl, Nat.le_trans hb (Nat.le_add_right _ _), Nat.le_of_ble_eq_true rfl, ⟨rfl, rfl⟩, ?_⟩
  rw [H.2.2.2.1 _ _ _ _ _ (Nat.le_of_ble_eq_true rfl)]
  simp only [List.cons_append, List.nil_append, List.length_cons, List.length_nil, Nat.reduceAdd, List.set_cons_zero, List.set_cons_succ, List.take_succ_cons, List.take_zero, Nat.add_assoc, xp_dfl]
  conv => whnf
  refine ⟨by decide, by decide, Nat.le_of_ble_eq_true rfl, Nat.le_of_ble_eq_true rfl, ?_⟩
  dsimp only [xm_new]
  rw [H.2.2.1, H.2.1]
  simp only [List.cons_append, List.nil_append, List.length_cons, List.length_nil, Nat.reduceAdd, List.set_cons_zero, List.set_cons_succ, List.take_succ_cons, List.take_zero, Nat.add_assoc, xp_dfl]
  conv => whnf
  rw [H.1]
  conv => whnf
  refine ⟨rfl, Nat.le_trans hb (Nat.le_add_right _ _), Nat.le_of_ble_eq_true rfl, ⟨rfl, rfl⟩, ?_⟩
  rw [H.2.2.2.1 _ _ _ _ _ (Nat.le_of_ble_eq_true rfl)]
  simp only [List.cons_append, List.nil_append, List.length_cons, List.length_nil, Nat.reduceAdd, List.set_cons_zero, List.set_cons_succ, List.take_succ_cons, List.take_zero, Nat.add_assoc, xp_dfl]
  conv => whnf
  refine ⟨by decide, by decide, Nat.le_of_ble_eq_true rfl, Nat.le_of_ble_eq_true rfl, ?_⟩
  dsimp only [xm_new]
  rw [H.2.2.1, H.2.1]
  simp only [List.cons_append, List.nil_append, List.length_cons, List.length_nil, Nat.reduceAdd, List.set_cons_zero, List.set_cons_succ, List.take_succ_cons, List.take_zero, Nat.add_assoc, xp_dfl]
  conv => whnf
  rw [H.1]
  conv => whnf
  refine ⟨rfl, Nat.le_trans hb (Nat.le_add_right _ _), Nat.le_of_ble_eq_true rfl, ⟨rfl, rfl⟩, ?_⟩
  rw [H.2.2.2.1 _ _ _ _ _ (Nat.le_of_ble_eq_true rfl)]
  simp only [List.cons_append, List.nil_append, List.length_cons, List.length_nil, Nat.reduceAdd, List.set_cons_zero, List.set_cons_succ, List.take_succ_cons, List.take_zero, Nat.add_assoc, xp_dfl]
  conv => whnf
  refine ⟨by decide, by decide, Nat.le_of_ble_eq_true rfl, Nat.le_of_ble_eq_true rfl, ?_⟩
  dsimp only [xm_new]
  rw [H.2.2.1, H.2.1]
  simp only [List.cons_append, List.nil_append, List.length_cons, List.length_nil, Nat.reduceAdd, List.set_cons_zero, List.set_cons_succ, List.take_succ_cons, List.take_zero, Nat.add_assoc, xp_dfl]
  conv => whnf
  rw [H.1]
  conv => whnf
  refine ⟨rfl, Nat.le_trans hb (Nat.le_add_right _ _), Nat.le_of_ble_eq_true rfl, ⟨rfl, rfl⟩, ?_⟩
  rw [H.2.2.2.1 _ _ _ _ _ (Nat.le_of_ble_eq_true rfl)]
  simp only [List.cons_append, List.nil_append, List.length_cons, List.length_nil, Nat.reduceAdd, List.set_cons_zero, List.set_cons_succ, List.take_succ_cons, List.take_zero, Nat.add_assoc, xp_dfl]
  conv => whnf
  refine ⟨by decide, by decide, Nat.le_of_ble_eq_true rfl, Nat.le_of_ble_eq_true rfl, ?_⟩
  dsimp only [xm_new]
  rw [H.2.2.1, H.2.1]
  simp only [List.cons_append, List.nil_append, List.length_cons, List.length_nil, Nat.reduceAdd, List.set_cons_zero, List.set_cons_succ, List.take_succ_cons, List.take_zero, Nat.add_assoc, xp_dfl]
  conv => whnf
  rw [H.1]
  conv => whnf
  refine ⟨rfl, Nat.le_trans hb (Nat.le_add_right _ _), Nat.le_of_ble_eq_true rfl, ⟨rfl, rfl⟩, ?_⟩
  rw [H.2.2.2.1 _ _ _ _ _ (Nat.le_of_ble_eq_true rfl)]
  simp only [List.cons_append, List.nil_append, List.length_cons, List.length_nil, Nat.reduceAdd, List.set_cons_zero, List.set_cons_succ, List.take_succ_cons, List.take_zero, Nat.add_assoc, xp_dfl]
  conv => whnf
  refine ⟨by decide, by decide, Nat.le_of_ble_eq_true rfl, Nat.le_of_ble_eq_true rfl, ?_⟩
  dsimp only [xm_new]
  rw [H.2.2.1, H.2.1]
  simp only [List.cons_append, List.nil_append, List.length_cons, List.length_nil, Nat.reduceAdd, List.set_cons_zero, List.set_cons_succ, List.take_succ_cons, List.take_zero, Nat.add_assoc, xp_dfl]
  conv => whnf
  rw [H.1]
  conv => whnf
  refine ⟨rfl, Nat.le_trans hb (Nat.le_add_right _ _), Nat.le_of_ble_eq_true rfl, ⟨rfl, rfl⟩, ?_⟩
  rw [H.2.2.2.1 _ _ _ _ _ (Nat.le_of_ble_eq_true rfl)]
  simp only [List.cons_append, List.nil_append, List.length_cons, List.length_nil, Nat.reduceAdd, List.set_cons_zero, List.set_cons_succ, List.take_succ_cons, List.take_zero, Nat.add_assoc, xp_dfl]
  conv => whnf
  refine ⟨by decide, by decide, Nat.le_of_ble_eq_true rfl, Nat.le_of_ble_eq_true rfl, ?_⟩
  dsimp only [xm_new]
  rw [H.2.2.1, H.2.1]
  simp only [List.cons_append, List.nil_append, List.length_cons, List.length_nil, Nat.reduceAdd, List.set_cons_zero, List.set_cons_succ, List.take_succ_cons, List.take_zero, Nat.add_assoc, xp_dfl]
  conv => whnf
  rw [H.1]
  conv => whnf
  refine ⟨rfl, Nat.le_trans hb (Nat.le_add_right _ _), Nat.le_of_ble_eq_true rfl, ⟨rfl, rfl⟩, ?_⟩
  rw [H.2.2.2.1 _ _ _ _ _ (Nat.le_of_ble_eq_true rfl)]
  simp only [List.cons_append, List.nil_append, List.length_cons, List.length_nil, Nat.reduceAdd, List.set_cons_zero, List.set_cons_succ, List.take_succ_cons, List.take_zero, Nat.add_assoc, xp_dfl]
  conv => whnf
  refine ⟨by decide, by decide, Nat.le_of_ble_eq_true rfl, Nat.le_of_ble_eq_true rfl, ?_⟩
  dsimp only [xm_new]
  rw [H.2.2.1, H.2.1]
  simp only [List.cons_append, List.nil_append, List.length_cons, List.length_nil, Nat.reduceAdd, List.set_cons_zero, List.set_cons_succ, List.take_succ_cons, List.take_zero, Nat.add_assoc, xp_dfl]
  conv => whnf
  rw [H.1]
  conv => whnf
  refine ⟨rfl, Nat.le_trans hb (Nat.le_add_right _ _), Nat.le_of_ble_eq_true rfl, ⟨rfl, rfl⟩, ?_⟩
  rw [H.2.2.2.1 _ _ _ _ _ (Nat.le_of_ble_eq_true rfl)]
  simp only [List.cons_append, List.nil_append, List.length_cons, List.length_nil, Nat.reduceAdd, List.set_cons_zero, List.set_cons_succ, List.take_succ_cons, List.take_zero, Nat.add_assoc, xp_dfl]
  conv => whnf
  refine ⟨by decide, by decide, Nat.le_of_ble_eq_true rfl, Nat.le_of_ble_eq_true rfl, ?_⟩
  dsimp only [xm_new]
  rw [H.2.2.1, H.2.1]
  simp only [List.cons_append, List.nil_append, List.length_cons, List.length_nil, Nat.reduceAdd, List.set_cons_zero, List.set_cons_succ, List.take_succ_cons, List.take_zero, Nat.add_assoc, xp_dfl]
  conv => whnf
  rw [H.1]
  conv => whnf
  refine ⟨rfl, Nat.le_trans hb (Nat.le_add_right _ _), Nat.le_of_ble_eq_true rfl, ⟨rfl, rfl⟩, ?_⟩
  rw [H.2.2.2.1 _ _ _ _ _ (Nat.le_of_ble_eq_true rfl)]
  simp only [List.cons_append, List.nil_append, List.length_cons, List.length_nil, Nat.reduceAdd, List.set_cons_zero, List.set_cons_succ, List.take_succ_cons, List.take_zero, Nat.add_assoc, xp_dfl]
  conv => whnf
  refine ⟨by decide, by decide, Nat.le_of_ble_eq_true rfl, Nat.le_of_ble_eq_true rfl, ?_⟩
  dsimp only [xm_new]
  rw [H.2.2.1, H.2.1]
  simp only [List.cons_append, List.nil_append, List.length_cons, List.length_nil, Nat.reduceAdd, List.set_cons_zero, List.set_cons_succ, List.take_succ_cons, List.take_zero, Nat.add_assoc, xp_dfl]
  conv => whnf
  rw [H.1]
  conv => whnf
  refine ⟨rfl, Nat.le_trans hb (Nat.le_add_right _ _), Nat.le_of_ble_eq_true rfl, ⟨rfl, rfl⟩, ?_⟩
  rw [H.2.2.2.1 _ _ _ _ _ (Nat.le_of_ble_eq_true rfl)]
  simp only [List.cons_append, List.nil_append, List.length_cons, List.length_nil, Nat.reduceAdd, List.set_cons_zero, List.set_cons_succ, List.take_succ_cons, List.take_zero, Nat.add_assoc, xp_dfl]
  conv => whnf
  refine ⟨by decide, by decide, Nat.le_of_ble_eq_true rfl, Nat.le_of_ble_eq_true rfl, ?_⟩
  dsimp only [xm_new]
  rw [H.2.2.1, H.2.1]
  simp only [List.cons_append, List.nil_append, List.length_cons, List.length_nil, Nat.reduceAdd, List.set_cons_zero, List.set_cons_succ, List.take_succ_cons, List.take_zero, Nat.add_assoc, xp_dfl]
  conv => whnf
  rw [H.1]
  conv => whnf
  refine ⟨rfl, Nat.le_trans hb (Nat.le_add_right _ _), Nat.le_of_ble_eq_true rfl, ⟨rfl, rfl⟩, ?_⟩
  rw [H.2.2.2.1 _ _ _ _ _ (Nat.le_of_ble_eq_true rfl)]
  simp only [List.cons_append, List.nil_append, List.length_cons, List.length_nil, Nat.reduceAdd, List.set_cons_zero, List.set_cons_succ, List.take_succ_cons, List.take_zero, Nat.add_assoc, xp_dfl]
  conv => whnf
  refine ⟨by decide, by decide, Nat.le_of_ble_eq_true rfl, Nat.le_of_ble_eq_true rfl, ?_⟩
  dsimp only [xm_new]
  rw [H.2.2.1, H.2.1]
  simp only [List.cons_append, List.nil_append, List.length_cons, List.length_nil, Nat.reduceAdd, List.set_cons_zero, List.set_cons_succ, List.take_succ_cons, List.take_zero, Nat.add_assoc, xp_dfl]
  conv => whnf
  rw [H.1]
  conv => whnf
  refine ⟨rfl, Nat.le_trans hb (Nat.le_add_right _ _), Nat.le_of_ble_eq_true rfl, ⟨rfl, rfl⟩, ?_⟩
  rw [H.2.2.2.1 _ _ _ _ _ (Nat.le_of_ble_eq_true rfl)]
  simp only [List.cons_append, List.nil_append, List.length_cons, List.length_nil, Nat.reduceAdd, List.set_cons_zero, List.set_cons_succ, List.take_succ_cons, List.take_zero, Nat.add_assoc, xp_dfl]
  conv => whnf
  refine ⟨by decide, by decide, Nat.le_of_ble_eq_true rfl, Nat.le_of_ble_eq_true rfl, ?_⟩
  dsimp only [xm_new]
  rw [H.2.2.1, H.2.1]
  simp only [List.cons_append, List.nil_append, List.length_cons, List.length_nil, Nat.reduceAdd, List.set_cons_zero, List.set_cons_succ, List.take_succ_cons, List.take_zero, Nat.add_assoc, xp_dfl]
  conv => whnf
  rw [H.1]
  conv => whnf
  refine ⟨rfl, Nat.le_trans hb (Nat.le_add_right _ _), Nat.le_of_ble_eq_true rfl, ⟨rfl, rfl⟩, ?_⟩
  rw [H.2.2.2.1 _ _ _ _ _ (Nat.le_of_ble_eq_true rfl)]
  simp only [List.cons_append, List.nil_append, List.length_cons, List.length_nil, Nat.reduceAdd, List.set_cons_zero, List.set_cons_succ, List.take_succ_cons, List.take_zero, Nat.add_assoc, xp_dfl]
  conv => whnf
  refine ⟨by decide, by decide, Nat.le_of_ble_eq_true rfl, Nat.le_of_ble_eq_true rfl, ?_⟩
  dsimp only [xm_new]
  rw [H.2.2.1, H.2.1]
  simp only [List.cons_append, List.nil_append, List.length_cons, List.length_nil, Nat.reduceAdd, List.set_cons_zero, List.set_cons_succ, List.take_succ_cons, List.take_zero, Nat.add_assoc, xp_dfl]
  conv => whnf
  rw [H.1]
  conv => whnf
  refine ⟨rfl, Nat.le_trans hb (Nat.le_add_right _ _), Nat.le_of_ble_eq_true rfl, ⟨rfl, rfl⟩, ?_⟩
  rw [H.2.2.2.1 _ _ _ _ _ (Nat.le_of_ble_eq_true rfl)]
  simp only [List.cons_append, List.nil_append, List.length_cons, List.length_nil, Nat.reduceAdd, List.set_cons_zero, List.set_cons_succ, List.take_succ_cons, List.take_zero, Nat.add_assoc, xp_dfl]
  conv => whnf
  refine ⟨by decide, by decide, Nat.le_of_ble_eq_true rfl, Nat.le_of_ble_eq_true rfl, ?_⟩
  dsimp only [xm_new]
  rw [H.2.2.1, H.2.1]
  simp only [List.cons_append, List.nil_append, List.length_cons, List.length_nil, Nat.reduceAdd, List.set_cons_zero, List.set_cons_succ, List.take_succ_cons, List.take_zero, Nat.add_assoc, xp_dfl]
  conv => whnf
  rw [H.1]
  conv => whnf
  refine ⟨rfl, Nat.le_trans hb (Nat.le_add_right _ _), Nat.le_of_ble_eq_true rfl, ⟨rfl, rfl⟩, ?_⟩
  rw [H.2.2.2.1 _ _ _ _ _ (Nat.le_of_ble_eq_true rfl)]
  simp only [List.cons_append, List.nil_append, List.length_cons, List.length_nil, Nat.reduceAdd, List.set_cons_zero, List.set_cons_succ, List.take_succ_cons, List.take_zero, Nat.add_assoc, xp_dfl]
  conv => whnf
  refine ⟨by decide, by decide, Nat.le_of_ble_eq_true rfl, Nat.le_of_ble_eq_true rfl, ?_⟩
  dsimp only [xm_new]
  rw [H.2.2.1, H.2.1]
  simp only [List.cons_append, List.nil_append, List.length_cons, List.length_nil, Nat.reduceAdd, List.set_cons_zero, List.set_cons_succ, List.take_succ_cons, List.take_zero, Nat.add_assoc, xp_dfl]
  conv => whnf
  rw [H.1]
  conv => whnf
  refine ⟨rfl, Nat.le_trans hb (Nat.le_add_right _ _), Nat.le_of_ble_eq_true rfl, ⟨rfl, rfl⟩, ?_⟩
  rw [H.2.2.2.1 _ _ _ _ _ (Nat.le_of_ble_eq_true rfl)]
  simp only [List.cons_append, List.nil_append, List.length_cons, List.length_nil, Nat.reduceAdd, List.set_cons_zero, List.set_cons_succ, List.take_succ_cons, List.take_zero, Nat.add_assoc, xp_dfl]
  conv => whnf
  refine ⟨by decide, by decide, Nat.le_of_ble_eq_true rfl, Nat.le_of_ble_eq_true rfl, ?_⟩
  dsimp only [xm_new]
  rw [H.2.2.1, H.2.1]
  simp only [List.cons_append, List.nil_append, List.length_cons, List.length_nil, Nat.reduceAdd, List.set_cons_zero, List.set_cons_succ, List.take_succ_cons, List.take_zero, Nat.add_assoc, xp_dfl]
  conv => whnf
  rw [H.1]
  conv => whnf
  refine ⟨rfl, Nat.le_trans hb (Nat.le_add_right _ _), Nat.le_of_ble_eq_true rfl, ⟨rfl, rfl⟩, ?_⟩
  rw [H.2.2.2.1 _ _ _ _ _ (Nat.le_of_ble_eq_true rfl)]
  simp only [List.cons_append, List.nil_append, List.length_cons, List.length_nil, Nat.reduceAdd, List.set_cons_zero, List.set_cons_succ, List.take_succ_cons, List.take_zero, Nat.add_assoc, xp_dfl]
  conv => whnf
  refine ⟨by decide, by decide, Nat.le_of_ble_eq_true rfl, Nat.le_of_ble_eq_true rfl, ?_⟩
  dsimp only [xm_new]
  rw [H.2.2.1, H.2.1]
  simp only [List.cons_append, List.nil_append, List.length_cons, List.length_nil, Nat.reduceAdd, List.set_cons_zero, List.set_cons_succ, List.take_succ_cons, List.take_zero, Nat.add_assoc, xp_dfl]
  conv => whnf
  rw [H.1]
  conv => whnf
  refine ⟨rfl, Nat.le_trans hb (Nat.le_add_right _ _), Nat.le_of_ble_eq_true rfl, ⟨rfl, rfl⟩, ?_⟩
  rw [H.2.2.2.1 _ _ _ _ _ (Nat.le_of_ble_eq_true rfl)]
  simp only [List.cons_append, List.nil_append, List.length_cons, List.length_nil, Nat.reduceAdd, List.set_cons_zero, List.set_cons_succ, List.take_succ_cons, List.take_zero, Nat.add_assoc, xp_dfl]
  conv => whnf
  refine ⟨by decide, by decide, Nat.le_of_ble_eq_true rfl, Nat.le_of_ble_eq_true rfl, ?_⟩
  dsimp only [xm_new]
  rw [H.2.2.1, H.2.1]
  simp only [List.cons_append, List.nil_append, List.length_cons, List.length_nil, Nat.reduceAdd, List.set_cons_zero, List.set_cons_succ, List.take_succ_cons, List.take_zero, Nat.add_assoc, xp_dfl]
  conv => whnf
  rw [H.1]
  conv => whnf
  refine ⟨rfl, Nat.le_trans hb (Nat.le_add_right _ _), Nat.le_of_ble_eq_true rfl, ⟨rfl, rfl⟩, ?_⟩
  rw [H.2.2.2.1 _ _ _ _ _ (Nat.le_of_ble_eq_true rfl)]
  simp only [List.cons_append, List.nil_append, List.length_cons, List.length_nil, Nat.reduceAdd, List.set_cons_zero, List.set_cons_succ, List.take_succ_cons, List.take_zero, Nat.add_assoc, xp_dfl]
  conv => whnf
  refine ⟨by decide, by decide, Nat.le_of_ble_eq_true rfl, Nat.le_of_ble_eq_true rfl, ?_⟩
  dsimp only [xm_new]
  rw [H.2.2.1, H.2.1]
  simp only [List.cons_append, List.nil_append, List.length_cons, List.length_nil, Nat.reduceAdd, List.set_cons_zero, List.set_cons_succ, List.take_succ_cons, List.take_zero, Nat.add_assoc, xp_dfl]
  conv => whnf
  rw [H.1]
  conv => whnf
  refine ⟨rfl, Nat.le_trans hb (Nat.le_add_right _ _), Nat.le_of_ble_eq_true rfl, ⟨rfl, rfl⟩, ?_⟩
  rw [H.2.2.2.1 _ _ _ _ _ (Nat.le_of_ble_eq_true rfl)]
  simp only [List.cons_append, List.nil_append, List.length_cons, List.length_nil, Nat.reduceAdd, List.set_cons_zero, List.set_cons_succ, List.take_succ_cons, List.take_zero, Nat.add_assoc, xp_dfl]
  conv => whnf
  refine ⟨by decide, by decide, Nat.le_of_ble_eq_true rfl, Nat.le_of_ble_eq_true rfl, ?_⟩
  dsimp only [xm_new]
  rw [H.2.2.1, H.2.1]
  simp only [List.cons_append, List.nil_append, List.length_cons, List.length_nil, Nat.reduceAdd, List.set_cons_zero, List.set_cons_succ, List.take_succ_cons, List.take_zero, Nat.add_assoc, xp_dfl]
  conv => whnf
  rw [H.1]
  conv => whnf
  refine ⟨rfl, Nat.le_trans hb (Nat.le_add_right _ _), Nat.le_of_ble_eq_true rfl, ⟨rfl, rfl⟩, ?_⟩
  rw [H.2.2.2.1 _ _ _ _ _ (Nat.le_of_ble_eq_true rfl)]
  simp only [List.cons_append, List.nil_append, List.length_cons, List.length_nil, Nat.reduceAdd, List.set_cons_zero, List.set_cons_succ, List.take_succ_cons, List.take_zero, Nat.add_assoc, xp_dfl]
  conv => whnf
  refine ⟨by decide, by decide, Nat.le_of_ble_eq_true rfl, Nat.le_of_ble_eq_true rfl, ?_⟩
  dsimp only [xm_new]
  rw [H.2.2.1, H.2.1]
  simp only [List.cons_append, List.nil_append, List.length_cons, List.length_nil, Nat.reduceAdd, List.set_cons_zero, List.set_cons_succ, List.take_succ_cons, List.take_zero, Nat.add_assoc, xp_dfl]
  conv => whnf
  rw [H.1]
  conv => whnf
  refine ⟨rfl, Nat.le_trans hb (Nat.le_add_right _ _), Nat.le_of_ble_eq_true rfl, ⟨rfl, rfl⟩, ?_⟩
  rw [H.2.2.2.1 _ _ _ _ _ (Nat.le_of_ble_eq_true rfl)]
  simp only [List.cons_append, List.nil_append, List.length_cons, List.length_nil, Nat.reduceAdd, List.set_cons_zero, List.set_cons_succ, List.take_succ_cons, List.take_zero, Nat.add_assoc, xp_dfl]
  conv => whnf
  refine ⟨by decide, by decide, Nat.le_of_ble_eq_true rfl, Nat.le_of_ble_eq_true rfl, ?_⟩
  dsimp only [xm_new]
  rw [H.2.2.1, H.2.1]
  simp only [List.cons_append, List.nil_append, List.length_cons, List.length_nil, Nat.reduceAdd, List.set_cons_zero, List.set_cons_succ, List.take_succ_cons, List.take_zero, Nat.add_assoc, xp_dfl]
  conv => whnf
  rw [H.1]
  conv => whnf
  refine ⟨rfl, Nat.le_trans hb (Nat.le_add_right _ _), Nat.le_of_ble_eq_true rfl, ⟨rfl, rfl⟩, ?_⟩
  rw [H.2.2.2.1 _ _ _ _ _ (Nat.le_of_ble_eq_true rfl)]
  simp only [List.cons_append, List.nil_append, List.length_cons, List.length_nil, Nat.reduceAdd, List.set_cons_zero, List.set_cons_succ, List.take_succ_cons, List.take_zero, Nat.add_assoc, xp_dfl]
  conv => whnf
  refine ⟨by decide, by decide, Nat.le_of_ble_eq_true rfl, Nat.le_of_ble_eq_true rfl, ?_⟩
  dsimp only [xm_new]
  rw [H.2.2.1, H.2.1]
  simp only [List.cons_append, List.nil_append, List.length_cons, List.length_nil, Nat.reduceAdd, List.set_cons_zero, List.set_cons_succ, List.take_succ_cons, List.take_zero, Nat.add_assoc, xp_dfl]
  conv => whnf
  rw [H.1]
  conv => whnf
  refine ⟨rfl, Nat.le_trans hb (Nat.le_add_right _ _), Nat.le_of_ble_eq_true rfl, ⟨rfl, rfl⟩, ?_⟩
  rw [H.2.2.2.1 _ _ _ _ _ (Nat.le_of_ble_eq_true rfl)]
  simp only [List.cons_append, List.nil_append, List.length_cons, List.length_nil, Nat.reduceAdd, List.set_cons_zero, List.set_cons_succ, List.take_succ_cons, List.take_zero, Nat.add_assoc, xp_dfl]
  conv => whnf
  refine ⟨by decide, by decide, Nat.le_of_ble_eq_true rfl, Nat.le_of_ble_eq_true rfl, ?_⟩
  dsimp only [xm_new]
  rw [H.2.2.1, H.2.1]
  simp only [List.cons_append, List.nil_append, List.length_cons, List.length_nil, Nat.reduceAdd, List.set_cons_zero, List.set_cons_succ, List.take_succ_cons, List.take_zero, Nat.add_assoc, xp_dfl]
  conv => whnf
  rw [H.1]
  conv => whnf
  refine ⟨rfl, Nat.le_trans hb (Nat.le_add_right _ _), Nat.le_of_ble_eq_true rfl, ⟨rfl, rfl⟩, ?_⟩
  rw [H.2.2.2.1 _ _ _ _ _ (Nat.le_of_ble_eq_true rfl)]
  simp only [List.cons_append, List.nil_append, List.length_cons, List.length_nil, Nat.reduceAdd, List.set_cons_zero, List.set_cons_succ, List.take_succ_cons, List.take_zero, Nat.add_assoc, xp_dfl]
  conv => whnf
  refine ⟨by decide, by decide, Nat.le_of_ble_eq_true rfl, Nat.le_of_ble_eq_true rfl, ?_⟩
  dsimp only [xm_new]
  rw [H.2.2.1, H.2.1]
  simp only [List.cons_append, List.nil_append, List.length_cons, List.length_nil, Nat.reduceAdd, List.set_cons_zero, List.set_cons_succ, List.take_succ_cons, List.take_zero, Nat.add_assoc, xp_dfl]
  conv => whnf
  rw [H.1]
  conv => whnf
  refine ⟨rfl, Nat.le_trans hb (Nat.le_add_right _ _), Nat.le_of_ble_eq_true rfl, ⟨rfl, rfl⟩, ?_⟩
  rw [H.2.2.2.1 _ _ _ _ _ (Nat.le_of_ble_eq_true rfl)]
  simp only [List.cons_append, List.nil_append, List.length_cons, List.length_nil, Nat.reduceAdd, List.set_cons_zero, List.set_cons_succ, List.take_succ_cons, List.take_zero, Nat.add_assoc, xp_dfl]
  conv => whnf
  refine ⟨by decide, by decide, Nat.le_of_ble_eq_true rfl, Nat.le_of_ble_eq_true rfl, ?_⟩
  dsimp only [xm_new]
  rw [H.2.2.1, H.2.1]
  simp only [List.cons_append, List.nil_append, List.length_cons, List.length_nil, Nat.reduceAdd, List.set_cons_zero, List.set_cons_succ, List.take_succ_cons, List.take_zero, Nat.add_assoc, xp_dfl]
  conv => whnf
  rw [H.1]
  conv => whnf
  refine ⟨rfl, Nat.le_trans hb (Nat.le_add_right _ _), Nat.le_of_ble_eq_true rfl, ⟨rfl, rfl⟩, ?_⟩
  rw [H.2.2.2.1 _ _ _ _ _ (Nat.le_of_ble_eq_true rfl)]
  simp only [List.cons_append, List.nil_append, List.length_cons, List.length_nil, Nat.reduceAdd, List.set_cons_zero, List.set_cons_succ, List.take_succ_cons, List.take_zero, Nat.add_assoc, xp_dfl]
  conv => whnf
  refine ⟨by decide, by decide, Nat.le_of_ble_eq_true rfl, Nat.le_of_ble_eq_true rfl, ?_⟩
  dsimp only [xm_new]
  rw [H.2.2.1, H.2.1]
  simp only [List.cons_append, List.nil_append, List.length_cons, List.length_nil, Nat.reduceAdd, List.set_cons_zero, List.set_cons_succ, List.take_succ_cons, List.take_zero, Nat.add_assoc, xp_dfl]
  conv => whnf
  rw [H.1]
  conv => whnf
  refine ⟨rfl, Nat.le_trans hb (Nat.le_add_right _ _), Nat.le_of_ble_eq_true rfl, ⟨rfl, rfl⟩, ?_⟩
  rw [H.2.2.2.1 _ _ _ _ _ (Nat.le_of_ble_eq_true rfl)]
  simp only [List.cons_append, List.nil_append, List.length_cons, List.length_nil, Nat.reduceAdd, List.set_cons_zero, List.set_cons_succ, List.take_succ_cons, List.take_zero, Nat.add_assoc, xp_dfl]
  conv => whnf
  refine ⟨by decide, by decide, Nat.le_of_ble_eq_true rfl, Nat.le_of_ble_eq_true rfl, ?_⟩
  dsimp only [xm_new]
  rw [H.2.2.1, H.2.1]
  simp only [List.cons_append, List.nil_append, List.length_cons, List.length_nil, Nat.reduceAdd, List.set_cons_zero, List.set_cons_succ, List.take_succ_cons, List.take_zero, Nat.add_assoc, xp_dfl]
  conv => whnf
  rw [H.1]
  conv => whnf
  refine ⟨rfl, Nat.le_trans hb (Nat.le_add_right _ _), Nat.le_of_ble_eq_true rfl, ⟨rfl, rfl⟩, ?_⟩
  rw [H.2.2.2.1 _ _ _ _ _ (Nat.le_of_ble_eq_true rfl)]
  simp only [List.cons_append, List.nil_append, List.length_cons, List.length_nil, Nat.reduceAdd, List.set_cons_zero, List.set_cons_succ, List.take_succ_cons, List.take_zero, Nat.add_assoc, xp_dfl]
  conv => whnf
  refine ⟨by decide, by decide, Nat.le_of_ble_eq_true rfl, Nat.le_of_ble_eq_true rfl, ?_⟩
  dsimp only [xm_new]
  rw [H.2.2.1, H.2.1]
  simp only [List.cons_append, List.nil_append, List.length_cons, List.length_nil, Nat.reduceAdd, List.set_cons_zero, List.set_cons_succ, List.take_succ_cons, List.take_zero, Nat.add_assoc, xp_dfl]
  conv => whnf
  rw [H.1]
  conv => whnf
  refine ⟨rfl, Nat.le_trans hb (Nat.le_add_right _ _), Nat.le_of_ble_eq_true rfl, ⟨rfl, rfl⟩, ?_⟩
  rw [H.2.2.2.1 _ _ _ _ _ (Nat.le_of_ble_eq_true rfl)]
  simp only [List.cons_append, List.nil_append, List.length_cons, List.length_nil, Nat.reduceAdd, List.set_cons_zero, List.set_cons_succ, List.take_succ_cons, List.take_zero, Nat.add_assoc, xp_dfl]
  conv => whnf
  refine ⟨by decide, by decide, Nat.le_of_ble_eq_true rfl, Nat.le_of_ble_eq_true rfl, ?_⟩
  dsimp only [xm_new]
  rw [H.2.2.1, H.2.1]
  simp only [List.cons_append, List.nil_append, List.length_cons, List.length_nil, Nat.reduceAdd, List.set_cons_zero, List.set_cons_succ, List.take_succ_cons, List.take_zero, Nat.add_assoc, xp_dfl]
  conv => whnf
  rw [H.1]
  conv => whnf
  refine ⟨rfl, Nat.le_trans hb (Nat.le_add_right _ _), Nat.le_of_ble_eq_true rfl, ⟨rfl, rfl⟩, ?_⟩
  rw [H.2.2.2.1 _ _ _ _ _ (Nat.le_of_ble_eq_true rfl)]
  simp only [List.cons_append, List.nil_append, List.length_cons, List.length_nil, Nat.reduceAdd, List.set_cons_zero, List.set_cons_succ, List.take_succ_cons, List.take_zero, Nat.add_assoc, xp_dfl]
  conv => whnf
  refine ⟨by decide, by decide, Nat.le_of_ble_eq_true rfl, Nat.le_of_ble_eq_true rfl, ?_⟩
  dsimp only [xm_new]
  rw [H.2.2.1, H.2.1]
  simp only [List.cons_append, List.nil_append, List.length_cons, List.length_nil, Nat.reduceAdd, List.set_cons_zero, List.set_cons_succ, List.take_succ_cons, List.take_zero, Nat.add_assoc, xp_dfl]
  conv => whnf
  rw [H.1]
  conv => whnf
  refine ⟨rfl, Nat.le_trans hb (Nat.le_add_right _ _), Nat.le_of_ble_eq_true rfl, ⟨rfl, rfl⟩, ?_⟩
  rw [H.2.2.2.1 _ _ _ _ _ (Nat.le_of_ble_eq_true rfl)]
  simp only [List.cons_append, List.nil_append, List.length_cons, List.length_nil, Nat.reduceAdd, List.set_cons_zero, List.set_cons_succ, List.take_succ_cons, List.take_zero, Nat.add_assoc, xp_dfl]
  conv => whnf
  refine ⟨by decide, by decide, Nat.le_of_ble_eq_true rfl, Nat.le_of_ble_eq_true rfl, ?_⟩
  dsimp only [xm_new]
  rw [H.2.2.1, H.2.1]
  simp only [List.cons_append, List.nil_append, List.length_cons, List.length_nil, Nat.reduceAdd, List.set_cons_zero, List.set_cons_succ, List.take_succ_cons, List.take_zero, Nat.add_assoc, xp_dfl]
  conv => whnf
  rw [H.1]
  conv => whnf
  refine ⟨rfl, Nat.le_trans hb (Nat.le_add_right _ _), Nat.le_of_ble_eq_true rfl, ⟨rfl, rfl⟩, ?_⟩
  rw [H.2.2.2.1 _ _ _ _ _ (Nat.le_of_ble_eq_true rfl)]
  simp only [List.cons_append, List.nil_append, List.length_cons, List.length_nil, Nat.reduceAdd, List.set_cons_zero, List.set_cons_succ, List.take_succ_cons, List.take_zero, Nat.add_assoc, xp_dfl]
  conv => whnf
  refine ⟨by decide, by decide, Nat.le_of_ble_eq_true rfl, Nat.le_of_ble_eq_true rfl, ?_⟩
  dsimp only [xm_new]
  rw [H.2.2.1, H.2.1]
  simp only [List.cons_append, List.nil_append, List.length_cons, List.length_nil, Nat.reduceAdd, List.set_cons_zero, List.set_cons_succ, List.take_succ_cons, List.take_zero, Nat.add_assoc, xp_dfl]
  conv => whnf
  rw [H.1]
  conv => whnf
  refine ⟨rfl, Nat.le_trans hb (Nat.le_add_right _ _), Nat.le_of_ble_eq_true rfl, ⟨rfl, rfl⟩, ?_⟩
  rw [H.2.2.2.1 _ _ _ _ _ (Nat.le_of_ble_eq_true rfl)]
  simp only [List.cons_append, List.nil_append, List.length_cons, List.length_nil, Nat.reduceAdd, List.set_cons_zero, List.set_cons_succ, List.take_succ_cons, List.take_zero, Nat.add_assoc, xp_dfl]
  conv => whnf
  rw [H.1]
  conv => whnf
  refine ⟨rfl, Nat.le_trans hb (Nat.le_add_right _ _), Nat.le_of_ble_eq_true rfl, ⟨rfl, rfl⟩, ?_⟩
  rw [H.2.2.2.1 _ _ _ _ _ (Nat.le_of_ble_eq_true rfl)]
  simp only [List.cons_append, List.nil_append, List.length_cons, List.length_nil, Nat.reduceAdd, List.set_cons_zero, List.set_cons_succ, List.take_succ_cons, List.take_zero, Nat.add_assoc, xp_dfl]
  conv => whnf
  refine ⟨by decide, by decide, Nat.le_of_ble_eq_true rfl, Nat.le_of_ble_eq_true rfl, ?_⟩
  dsimp only [xm_new]
  rw [H.2.2.1, H.2.1]
  simp only [List.cons_append, List.nil_append, List.length_cons, List.length_nil, Nat.reduceAdd, List.set_cons_zero, List.set_cons_succ, List.take_succ_cons, List.take_zero, Nat.add_assoc, xp_dfl]
  conv => whnf
  rw [H.1]
  conv => whnf
  refine ⟨rfl, Nat.le_trans hb (Nat.le_add_right _ _), Nat.le_of_ble_eq_true rfl, ⟨rfl, rfl⟩, ?_⟩
  rw [H.2.2.2.1 _ _ _ _ _ (Nat.le_of_ble_eq_true rfl)]
  simp only [List.cons_append, List.nil_append, List.length_cons, List.length_nil, Nat.reduceAdd, List.set_cons_zero, List.set_cons_succ, List.take_succ_cons, List.take_zero, Nat.add_assoc, xp_dfl]
  conv => whnf
  refine ⟨by decide, by decide, Nat.le_of_ble_eq_true rfl, Nat.le_of_ble_eq_true rfl, ?_⟩
  dsimp only [xm_new]
  rw [H.2.2.1, H.2.1]
  simp only [List.cons_append, List.nil_append, List.length_cons, List.length_nil, Nat.reduceAdd, List.set_cons_zero, List.set_cons_succ, List.take_succ_cons, List.take_zero, Nat.add_assoc, xp_dfl]
  conv => whnf
  rw [H.1]
  conv => whnf
  refine ⟨rfl, Nat.le_trans hb (Nat.le_add_right _ _), Nat.le_of_ble_eq_true rfl, ⟨rfl, rfl⟩, ?_⟩
  rw [H.2.2.2.1 _ _ _ _ _ (Nat.le_of_ble_eq_true rfl)]
  simp only [List.cons_append, List.nil_append, List.length_cons, List.length_nil, Nat.reduceAdd, List.set_cons_zero, List.set_cons_succ, List.take_succ_cons, List.take_zero, Nat.add_assoc, xp_dfl]
  conv => whnf
  rw [H.1]
  conv => whnf
  refine ⟨rfl, Nat.le_trans hb (Nat.le_add_right _ _), Nat.le_of_ble_eq_true rfl, ⟨rfl, rfl⟩, ?_⟩
  rw [H.2.2.2.1 _ _ _ _ _ (Nat.le_of_ble_eq_true rfl)]
  simp only [List.cons_append, List.nil_append, List.length_cons, List.length_nil, Nat.reduceAdd, List.set_cons_zero, List.set_cons_succ, List.take_succ_cons, List.take_zero, Nat.add_assoc, xp_dfl]
  conv => whnf
  refine ⟨by decide, by decide, Nat.le_of_ble_eq_true rfl, Nat.le_of_ble_eq_true rfl, ?_⟩
  dsimp only [xm_new]
  rw [H.2.2.1, H.2.1]
  simp only [List.cons_append, List.nil_append, List.length_cons, List.length_nil, Nat.reduceAdd, List.set_cons_zero, List.set_cons_succ, List.take_succ_cons, List.take_zero, Nat.add_assoc, xp_dfl]
  conv => whnf
  rw [H.1]
  conv => whnf
  refine ⟨rfl, Nat.le_trans hb (Nat.le_add_right _ _), Nat.le_of_ble_eq_true rfl, ⟨rfl, rfl⟩, ?_⟩
  rw [H.2.2.2.1 _ _ _ _ _ (Nat.le_of_ble_eq_true rfl)]
  simp only [List.cons_append, List.nil_append, List.length_cons, List.length_nil, Nat.reduceAdd, List.set_cons_zero, List.set_cons_succ, List.take_succ_cons, List.take_zero, Nat.add_assoc, xp_dfl]
  conv => whnf
  refine ⟨by decide, by decide, Nat.le_of_ble_eq_true rfl, Nat.le_of_ble_eq_true rfl, ?_⟩
  dsimp only [xm_new]
  rw [H.2.2.1, H.2.1]
  simp only [List.cons_append, List.nil_append, List.length_cons, List.length_nil, Nat.reduceAdd, List.set_cons_zero, List.set_cons_succ, List.take_succ_cons, List.take_zero, Nat.add_assoc, xp_dfl]
  conv => whnf
  rw [H.1]
  conv => whnf
  refine ⟨rfl, Nat.le_trans hb (Nat.le_add_right _ _), Nat.le_of_ble_eq_true rfl, ⟨rfl, rfl⟩, ?_⟩
  rw [H.2.2.2.1 _ _ _ _ _ (Nat.le_of_ble_eq_true rfl)]
  simp only [List.cons_append, List.nil_append, List.length_cons, List.length_nil, Nat.reduceAdd, List.set_cons_zero, List.set_cons_succ, List.take_succ_cons, List.take_zero, Nat.add_assoc, xp_dfl]
  conv => whnf
  refine ⟨by decide, by decide, Nat.le_of_ble_eq_true rfl, Nat.le_of_ble_eq_true rfl, ?_⟩
  dsimp only [xm_new]
  rw [H.2.2.1, H.2.1]
  simp only [List.cons_append, List.nil_append, List.length_cons, List.length_nil, Nat.reduceAdd, List.set_cons_zero, List.set_cons_succ, List.take_succ_cons, List.take_zero, Nat.add_assoc, xp_dfl]
  conv => whnf
  rw [H.1]
  conv => whnf
  refine ⟨rfl, Nat.le_trans hb (Nat.le_add_right _ _), Nat.le_of_ble_eq_true rfl, ⟨rfl, rfl⟩, ?_⟩
  rw [H.2.2.2.1 _ _ _ _ _ (Nat.le_of_ble_eq_true rfl)]
  simp only [List.cons_append, List.nil_append, List.length_cons, List.length_nil, Nat.reduceAdd, List.set_cons_zero, List.set_cons_succ, List.take_succ_cons, List.take_zero, Nat.add_assoc, xp_dfl]
  conv => whnf
  refine ⟨by decide, by decide, Nat.le_of_ble_eq_true rfl, Nat.le_of_ble_eq_true rfl, ?_⟩
  dsimp only [xm_new]
  rw [H.2.2.1, H.2.1]
  simp only [List.cons_append, List.nil_append, List.length_cons, List.length_nil, Nat.reduceAdd, List.set_cons_zero, List.set_cons_succ, List.take_succ_cons, List.take_zero, Nat.add_assoc, xp_dfl]
  conv => whnf
  rw [H.1]
  conv => whnf
  refine ⟨rfl, Nat.le_trans hb (Nat.le_add_right _ _), Nat.le_of_ble_eq_true rfl, ⟨rfl, rfl⟩, ?_⟩
  rw [H.2.2.2.1 _ _ _ _ _ (Nat.le_of_ble_eq_true rfl)]
  simp only [List.cons_append, List.nil_append, List.length_cons, List.length_nil, Nat.reduceAdd, List.set_cons_zero, List.set_cons_succ, List.take_succ_cons, List.take_zero, Nat.add_assoc, xp_dfl]
  conv => whnf
  refine ⟨by decide, by decide, Nat.le_of_ble_eq_true rfl, Nat.le_of_ble_eq_true rfl, ?_⟩
  dsimp only [xm_new]
  rw [H.2.2.1, H.2.1]
  simp only [List.cons_append, List.nil_append, List.length_cons, List.length_nil, Nat.reduceAdd, List.set_cons_zero, List.set_cons_succ, List.take_succ_cons, List.take_zero, Nat.add_assoc, xp_dfl]
  conv => whnf
  rw [H.1]
  conv => whnf
  refine ⟨rfl, Nat.le_trans hb (Nat.le_add_right _ _), Nat.le_of_ble_eq_true rfl, ⟨rfl, rfl⟩, ?_⟩
  rw [H.2.2.2.1 _ _ _ _ _ (Nat.le_of_ble_eq_true rfl)]
  simp only [List.cons_append, List.nil_append, List.length_cons, List.length_nil, Nat.reduceAdd, List.set_cons_zero, List.set_cons_succ, List.take_succ_cons, List.take_zero, Nat.add_assoc, xp_dfl]
  conv => whnf
  refine ⟨by decide, by decide, Nat.le_of_ble_eq_true rfl, Nat.le_of_ble_eq_true rfl, ?_⟩
  dsimp only [xm_new]
  rw [H.2.2.1, H.2.1]
  simp only [List.cons_append, List.nil_append, List.length_cons, List.length_nil, Nat.reduceAdd, List.set_cons_zero, List.set_cons_succ, List.take_succ_cons, List.take_zero, Nat.add_assoc, xp_dfl]
  conv => whnf
  rw [H.1]
  conv => whnf
  refine ⟨rfl, Nat.le_trans hb (Nat.le_add_right _ _), Nat.le_of_ble_eq_true rfl, ⟨rfl, rfl⟩, ?_⟩
  rw [H.2.2.2.1 _ _ _ _ _ (Nat.le_of_ble_eq_true rfl)]
  simp only [List.cons_append, List.nil_append, List.length_cons, List.length_nil, Nat.reduceAdd, List.set_cons_zero, List.set_cons_succ, List.take_succ_cons, List.take_zero, Nat.add_assoc, xp_dfl]
  conv => whnf
  refine ⟨by decide, by decide, Nat.le_of_ble_eq_true rfl, Nat.le_of_ble_eq_true rfl, ?_⟩
  dsimp only [xm_new]
  rw [H.2.2.1, H.2.1]
  simp only [List.cons_append, List.nil_append, List.length_cons, List.length_nil, Nat.reduceAdd, List.set_cons_zero, List.set_cons_succ, List.take_succ_cons, List.take_zero, Nat.add_assoc, xp_dfl]
  conv => whnf
  rw [H.1]
  conv => whnf
  refine ⟨rfl, Nat.le_trans hb (Nat.le_add_right _ _), Nat.le_of_ble_eq_true rfl, ⟨rfl, rfl⟩, ?_⟩
  rw [H.2.2.2.1 _ _ _ _ _ (Nat.le_of_ble_eq_true rfl)]
  simp only [List.cons_append, List.nil_append, List.length_cons, List.length_nil, Nat.reduceAdd, List.set_cons_zero, List.set_cons_succ, List.take_succ_cons, List.take_zero, Nat.add_assoc, xp_dfl]
  conv => whnf
  refine ⟨by decide, by decide, Nat.le_of_ble_eq_true rfl, Nat.le_of_ble_eq_true rfl, ?_⟩
  dsimp only [xm_new]
  rw [H.2.2.1, H.2.1]
  simp only [List.cons_append, List.nil_append, List.length_cons, List.length_nil, Nat.reduceAdd, List.set_cons_zero, List.set_cons_succ, List.take_succ_cons, List.take_zero, Nat.add_assoc, xp_dfl]
  conv => whnf
  rw [H.1]
  conv => whnf
  refine ⟨rfl, Nat.le_trans hb (Nat.le_add_right _ _), Nat.le_of_ble_eq_true rfl, ⟨rfl, rfl⟩, ?_⟩
  rw [H.2.2.2.1 _ _ _ _ _ (Nat.le_of_ble_eq_true rfl)]
  simp only [List.cons_append, List.nil_append, List.length_cons, List.length_nil, Nat.reduceAdd, List.set_cons_zero, List.set_cons_succ, List.take_succ_cons, List.take_zero, Nat.add_assoc, xp_dfl]
  conv => whnf
  refine ⟨by decide, by decide, Nat.le_of_ble_eq_true rfl, Nat.le_of_ble_eq_true rfl, ?_⟩
  dsimp only [xm_new]
  rw [H.2.2.1, H.2.1]
  simp only [List.cons_append, List.nil_append, List.length_cons, List.length_nil, Nat.reduceAdd, List.set_cons_zero, List.set_cons_succ, List.take_succ_cons, List.take_zero, Nat.add_assoc, xp_dfl]
  conv => whnf
  rw [H.1]
  conv => whnf
  refine ⟨rfl, Nat.le_trans hb (Nat.le_add_right _ _), Nat.le_of_ble_eq_true rfl, ⟨rfl, rfl⟩, ?_⟩
  rw [H.2.2.2.1 _ _ _ _ _ (Nat.le_of_ble_eq_true rfl)]
  simp only [List.cons_append, List.nil_append, List.length_cons, List.length_nil, Nat.reduceAdd, List.set_cons_zero, List.set_cons_succ, List.take_succ_cons, List.take_zero, Nat.add_assoc, xp_dfl]
  conv => whnf
  refine ⟨by decide, by decide, Nat.le_of_ble_eq_true rfl, Nat.le_of_ble_eq_true rfl, ?_⟩
  dsimp only [xm_new]
  rw [H.2.2.1, H.2.1]
  simp only [List.cons_append, List.nil_append, List.length_cons, List.length_nil, Nat.reduceAdd, List.set_cons_zero, List.set_cons_succ, List.take_succ_cons, List.take_zero, Nat.add_assoc, xp_dfl]
  conv => whnf
  rw [H.1]
  conv => whnf
  refine ⟨rfl, Nat.le_trans hb (Nat.le_add_right _ _), Nat.le_of_ble_eq_true rfl, ⟨rfl, rfl⟩, ?_⟩
  rw [H.2.2.2.1 _ _ _ _ _ (Nat.le_of_ble_eq_true rfl)]
  simp only [List.cons_append, List.nil_append, List.length_cons, List.length_nil, Nat.reduceAdd, List.set_cons_zero, List.set_cons_succ, List.take_succ_cons, List.take_zero, Nat.add_assoc, xp_dfl]
  conv => whnf
  refine ⟨by decide, by decide, Nat.le_of_ble_eq_true rfl, Nat.le_of_ble_eq_true rfl, ?_⟩
  dsimp only [xm_new]
  rw [H.2.2.1, H.2.1]
  simp only [List.cons_append, List.nil_append, List.length_cons, List.length_nil, Nat.reduceAdd, List.set_cons_zero, List.set_cons_succ, List.take_succ_cons, List.take_zero, Nat.add_assoc, xp_dfl]
  conv => whnf
  rw [H.1]
  conv => whnf
  refine ⟨rfl, Nat.le_trans hb (Nat.le_add_right _ _), Nat.le_of_ble_eq_true rfl, ⟨rfl, rfl⟩, ?_⟩
  rw [H.2.2.2.1 _ _ _ _ _ (Nat.le_of_ble_eq_true rfl)]
  simp only [List.cons_append, List.nil_append, List.length_cons, List.length_nil, Nat.reduceAdd, List.set_cons_zero, List.set_cons_succ, List.take_succ_cons, List.take_zero, Nat.add_assoc, xp_dfl]
  conv => whnf
  refine ⟨by decide, by decide, Nat.le_of_ble_eq_true rfl, Nat.le_of_ble_eq_true rfl, ?_⟩
  dsimp only [xm_new]
  rw [H.2.2.1, H.2.1]
  simp only [List.cons_append, List.nil_append, List.length_cons, List.length_nil, Nat.reduceAdd, List.set_cons_zero, List.set_cons_succ, List.take_succ_cons, List.take_zero, Nat.add_assoc, xp_dfl]
  conv => whnf
  rw [H.1]
  conv => whnf
  refine ⟨rfl, Nat.le_trans hb (Nat.le_add_right _ _), Nat.le_of_ble_eq_true rfl, ⟨rfl, rfl⟩, ?_⟩
  rw [H.2.2.2.1 _ _ _ _ _ (Nat.le_of_ble_eq_true rfl)]
  simp only [List.cons_append, List.nil_append, List.length_cons, List.length_nil, Nat.reduceAdd, List.set_cons_zero, List.set_cons_succ, List.take_succ_cons, List.take_zero, Nat.add_assoc, xp_dfl]
  conv => whnf
  refine ⟨by decide, by decide, Nat.le_of_ble_eq_true rfl, Nat.le_of_ble_eq_true rfl, ?_⟩
  dsimp only [xm_new]
  rw [H.2.2.1, H.2.1]
  simp only [List.cons_append, List.nil_append, List.length_cons, List.length_nil, Nat.reduceAdd, List.set_cons_zero, List.set_cons_succ, List.take_succ_cons, List.take_zero, Nat.add_assoc, xp_dfl]
  conv => whnf
  rw [H.1]
  conv => whnf
  refine ⟨rfl, Nat.le_trans hb (Nat.le_add_right _ _), Nat.le_of_ble_eq_true rfl, ⟨rfl, rfl⟩, ?_⟩
  rw [H.2.2.2.1 _ _ _ _ _ (Nat.le_of_ble_eq_true rfl)]
  simp only [List.cons_append, List.nil_append, List.length_cons, List.length_nil, Nat.reduceAdd, List.set_cons_zero, List.set_cons_succ, List.take_succ_cons, List.take_zero, Nat.add_assoc, xp_dfl]
  conv => whnf
  refine ⟨by decide, by decide, Nat.le_of_ble_eq_true rfl, Nat.le_of_ble_eq_true rfl, ?_⟩
  dsimp only [xm_new]
  rw [H.2.2.1, H.2.1]
  simp only [List.cons_append, List.nil_append, List.length_cons, List.length_nil, Nat.reduceAdd, List.set_cons_zero, List.set_cons_succ, List.take_succ_cons, List.take_zero, Nat.add_assoc, xp_dfl]
  conv => whnf
  rw [H.1]
  conv => whnf
  refine ⟨rfl, Nat.le_trans hb (Nat.le_add_right _ _), Nat.le_of_ble_eq_true rfl, ⟨rfl, rfl⟩, ?_⟩
  rw [H.2.2.2.1 _ _ _ _ _ (Nat.le_of_ble_eq_true rfl)]
  simp only [List.cons_append, List.nil_append, List.length_cons, List.length_nil, Nat.reduceAdd, List.set_cons_zero, List.set_cons_succ, List.take_succ_cons, List.take_zero, Nat.add_assoc, xp_dfl]
  conv => whnf
  refine ⟨by decide, by decide, Nat.le_of_ble_eq_true rfl, Nat.le_of_ble_eq_true rfl, ?_⟩
  dsimp only [xm_new]
  rw [H.2.2.1, H.2.1]
  simp only [List.cons_append, List.nil_append, List.length_cons, List.length_nil, Nat.reduceAdd, List.set_cons_zero, List.set_cons_succ, List.take_succ_cons, List.take_zero, Nat.add_assoc, xp_dfl]
  conv => whnf
  rw [H.1]
  conv => whnf
  refine ⟨rfl, Nat.le_trans hb (Nat.le_add_right _ _), Nat.le_of_ble_eq_true rfl, ⟨rfl, rfl⟩, ?_⟩
  rw [H.2.2.2.1 _ _ _ _ _ (Nat.le_of_ble_eq_true rfl)]
  simp only [List.cons_append, List.nil_append, List.length_cons, List.length_nil, Nat.reduceAdd, List.set_cons_zero, List.set_cons_succ, List.take_succ_cons, List.take_zero, Nat.add_assoc, xp_dfl]
  conv => whnf
  refine ⟨by decide, by decide, Nat.le_of_ble_eq_true rfl, Nat.le_of_ble_eq_true rfl, ?_⟩
  dsimp only [xm_new]
  rw [H.2.2.1, H.2.1]
  simp only [List.cons_append, List.nil_append, List.length_cons, List.length_nil, Nat.reduceAdd, List.set_cons_zero, List.set_cons_succ, List.take_succ_cons, List.take_zero, Nat.add_assoc, xp_dfl]
  conv => whnf
  rw [H.1]
  conv => whnf
  refine ⟨rfl, Nat.le_trans hb (Nat.le_add_right _ _), Nat.le_of_ble_eq_true rfl, ⟨rfl, rfl⟩, ?_⟩
  rw [H.2.2.2.1 _ _ _ _ _ (Nat.le_of_ble_eq_true rfl)]
  simp only [List.cons_append, List.nil_append, List.length_cons, List.length_nil, Nat.reduceAdd, List.set_cons_zero, List.set_cons_succ, List.take_succ_cons, List.take_zero, Nat.add_assoc, xp_dfl]
  conv => whnf
  refine ⟨by decide, by decide, Nat.le_of_ble_eq_true rfl, Nat.le_of_ble_eq_true rfl, ?_⟩
  dsimp only [xm_new]
  rw [H.2.2.1, H.2.1]
  simp only [List.cons_append, List.nil_append, List.length_cons, List.length_nil, Nat.reduceAdd, List.set_cons_zero, List.set_cons_succ, List.take_succ_cons, List.take_zero, Nat.add_assoc, xp_dfl]
  conv => whnf
  rw [H.1]
  conv => whnf
  refine ⟨rfl, Nat.le_trans hb (Nat.le_add_right _ _), Nat.le_of_ble_eq_true rfl, ⟨rfl, rfl⟩, ?_⟩
  rw [H.2.2.2.1 _ _ _ _ _ (Nat.le_of_ble_eq_true rfl)]
  simp only [List.cons_append, List.nil_append, List.length_cons, List.length_nil, Nat.reduceAdd, List.set_cons_zero, List.set_cons_succ, List.take_succ_cons, List.take_zero, Nat.add_assoc, xp_dfl]
  conv => whnf
  refine ⟨by decide, by decide, Nat.le_of_ble_eq_true rfl, Nat.le_of_ble_eq_true rfl, ?_⟩
  dsimp only [xm_new]
  rw [H.2.2.1, H.2.1]
  simp only [List.cons_append, List.nil_append, List.length_cons, List.length_nil, Nat.reduceAdd, List.set_cons_zero, List.set_cons_succ, List.take_succ_cons, List.take_zero, Nat.add_assoc, xp_dfl]
  conv => whnf
  rw [H.1]
  conv => whnf
  refine ⟨rfl, Nat.le_trans hb (Nat.le_add_right _ _), Nat.le_of_ble_eq_true rfl, ⟨rfl, rfl⟩, ?_⟩
  rw [H.2.2.2.1 _ _ _ _ _ (Nat.le_of_ble_eq_true rfl)]
  simp only [List.cons_append, List.nil_append, List.length_cons, List.length_nil, Nat.reduceAdd, List.set_cons_zero, List.set_cons_succ, List.take_succ_cons, List.take_zero, Nat.add_assoc, xp_dfl]
  conv => whnf
  refine ⟨by decide, by decide, Nat.le_of_ble_eq_true rfl, Nat.le_of_ble_eq_true rfl, ?_⟩
  dsimp only [xm_new]
  rw [H.2.2.1, H.2.1]
  simp only [List.cons_append, List.nil_append, List.length_cons, List.length_nil, Nat.reduceAdd, List.set_cons_zero, List.set_cons_succ, List.take_succ_cons, List.take_zero, Nat.add_assoc, xp_dfl]
  conv => whnf
  rw [H.1]
  conv => whnf
  refine ⟨rfl, Nat.le_trans hb (Nat.le_add_right _ _), Nat.le_of_ble_eq_true rfl, ⟨rfl, rfl⟩, ?_⟩
  rw [H.2.2.2.1 _ _ _ _ _ (Nat.le_of_ble_eq_true rfl)]
  simp only [List.cons_append, List.nil_append, List.length_cons, List.length_nil, Nat.reduceAdd, List.set_cons_zero, List.set_cons_succ, List.take_succ_cons, List.take_zero, Nat.add_assoc, xp_dfl]
  conv => whnf
  refine ⟨by decide, by decide, Nat.le_of_ble_eq_true rfl, Nat.le_of_ble_eq_true rfl, ?_⟩
  dsimp only [xm_new]
  rw [H.2.2.1, H.2.1]
  simp only [List.cons_append, List.nil_append, List.length_cons, List.length_nil, Nat.reduceAdd, List.set_cons_zero, List.set_cons_succ, List.take_succ_cons, List.take_zero, Nat.add_assoc, xp_dfl]
  conv => whnf
  rw [H.1]
  conv => whnf
  refine ⟨rfl, Nat.le_trans hb (Nat.le_add_right _ _), Nat.le_of_ble_eq_true rfl, ⟨rfl, rfl⟩, ?_⟩
  rw [H.2.2.2.1 _ _ _ _ _ (Nat.le_of_ble_eq_true rfl)]
  simp only [List.cons_append, List.nil_append, List.length_cons, List.length_nil, Nat.reduceAdd, List.set_cons_zero, List.set_cons_succ, List.take_succ_cons, List.take_zero, Nat.add_assoc, xp_dfl]
  conv => whnf
  refine ⟨by decide, by decide, Nat.le_of_ble_eq_true rfl, Nat.le_of_ble_eq_true rfl, ?_⟩
  dsimp only [xm_new]
  rw [H.2.2.1, H.2.1]
  simp only [List.cons_append, List.nil_append, List.length_cons, List.length_nil, Nat.reduceAdd, List.set_cons_zero, List.set_cons_succ, List.take_succ_cons, List.take_zero, Nat.add_assoc, xp_dfl]
  conv => whnf
  rw [H.1]
  conv => whnf
  refine ⟨rfl, Nat.le_trans hb (Nat.le_add_right _ _), Nat.le_of_ble_eq_true rfl, ⟨rfl, rfl⟩, ?_⟩
  rw [H.2.2.2.1 _ _ _ _ _ (Nat.le_of_ble_eq_true rfl)]
  simp only [List.cons_append, List.nil_append, List.length_cons, List.length_nil, Nat.reduceAdd, List.set_cons_zero, List.set_cons_succ, List.take_succ_cons, List.take_zero, Nat.add_assoc, xp_dfl]
  conv => whnf
  refine ⟨by decide, by decide, Nat.le_of_ble_eq_true rfl, Nat.le_of_ble_eq_true rfl, ?_⟩
  dsimp only [xm_new]
  rw [H.2.2.1, H.2.1]
  simp only [List.cons_append, List.nil_append, List.length_cons, List.length_nil, Nat.reduceAdd, List.set_cons_zero, List.set_cons_succ, List.take_succ_cons, List.take_zero, Nat.add_assoc, xp_dfl]
  conv => whnf
  rw [H.1]
  conv => whnf
  refine ⟨rfl, Nat.le_trans hb (Nat.le_add_right _ _), Nat.le_of_ble_eq_true rfl, ⟨rfl, rfl⟩, ?_⟩
  rw [H.2.2.2.1 _ _ _ _ _ (Nat.le_of_ble_eq_true rfl)]
  simp only [List.cons_append, List.nil_append, List.length_cons, List.length_nil, Nat.reduceAdd, List.set_cons_zero, List.set_cons_succ, List.take_succ_cons, List.take_zero, Nat.add_assoc, xp_dfl]
  conv => whnf
  refine ⟨by decide, by decide, Nat.le_of_ble_eq_true rfl, Nat.le_of_ble_eq_true rfl, ?_⟩
  dsimp only [xm_new]
  rw [H.2.2.1, H.2.1]
  simp only [List.cons_append, List.nil_append, List.length_cons, List.length_nil, Nat.reduceAdd, List.set_cons_zero, List.set_cons_succ, List.take_succ_cons, List.take_zero, Nat.add_assoc, xp_dfl]
  conv => whnf
  rw [H.1]
  conv => whnf
  refine ⟨rfl, Nat.le_trans hb (Nat.le_add_right _ _), Nat.le_of_ble_eq_true rfl, ⟨rfl, rfl⟩, ?_⟩
  rw [H.2.2.2.1 _ _ _ _ _ (Nat.le_of_ble_eq_true rfl)]
  simp only [List.cons_append, List.nil_append, List.length_cons, List.length_nil, Nat.reduceAdd, List.set_cons_zero, List.set_cons_succ, List.take_succ_cons, List.take_zero, Nat.add_assoc, xp_dfl]
  conv => whnf
  refine ⟨by decide, by decide, Nat.le_of_ble_eq_true rfl, Nat.le_of_ble_eq_true rfl, ?_⟩
  dsimp only [xm_new]
  rw [H.2.2.1, H.2.1]
  simp only [List.cons_append, List.nil_append, List.length_cons, List.length_nil, Nat.reduceAdd, List.set_cons_zero, List.set_cons_succ, List.take_succ_cons, List.take_zero, Nat.add_assoc, xp_dfl]
  conv => whnf
  rw [H.1]
  conv => whnf
  refine ⟨rfl, Nat.le_trans hb (Nat.le_add_right _ _), Nat.le_of_ble_eq_true rfl, ⟨rfl, rfl⟩, ?_⟩
  rw [H.2.2.2.1 _ _ _ _ _ (Nat.le_of_ble_eq_true rfl)]
  simp only [List.cons_append, List.nil_append, List.length_cons, List.length_nil, Nat.reduceAdd, List.set_cons_zero, List.set_cons_succ, List.take_succ_cons, List.take_zero, Nat.add_assoc, xp_dfl]
  conv => whnf
  refine ⟨by decide, by decide, Nat.le_of_ble_eq_true rfl, Nat.le_of_ble_eq_true rfl, ?_⟩
  dsimp only [xm_new]
  rw [H.2.2.1, H.2.1]
  simp only [List.cons_append, List.nil_append, List.length_cons, List.length_nil, Nat.reduceAdd, List.set_cons_zero, List.set_cons_succ, List.take_succ_cons, List.take_zero, Nat.add_assoc, xp_dfl]
  conv => whnf
  rw [H.1]
  conv => whnf
  refine ⟨rfl, Nat.le_trans hb (Nat.le_add_right _ _), Nat.le_of_ble_eq_true rfl, ⟨rfl, rfl⟩, ?_⟩
  rw [H.2.2.2.1 _ _ _ _ _ (Nat.le_of_ble_eq_true rfl)]
  simp only [List.cons_append, List.nil_append, List.length_cons, List.length_nil, Nat.reduceAdd, List.set_cons_zero, List.set_cons_succ, List.take_succ_cons, List.take_zero, Nat.add_assoc, xp_dfl]
  conv => whnf
  refine ⟨by decide, by decide, Nat.le_of_ble_eq_true rfl, Nat.le_of_ble_eq_true rfl, ?_⟩
  dsimp only [xm_new]
  rw [H.2.2.1, H.2.1]
  simp only [List.cons_append, List.nil_append, List.length_cons, List.length_nil, Nat.reduceAdd, List.set_cons_zero, List.set_cons_succ, List.take_succ_cons, List.take_zero, Nat.add_assoc, xp_dfl]
  conv => whnf
  rw [H.1]
  conv => whnf
  refine ⟨rfl, Nat.le_trans hb (Nat.le_add_right _ _), Nat.le_of_ble_eq_true rfl, ⟨rfl, rfl⟩, ?_⟩
  rw [H.2.2.2.1 _ _ _ _ _ (Nat.le_of_ble_eq_true rfl)]
  simp only [List.cons_append, List.nil_append, List.length_cons, List.length_nil, Nat.reduceAdd, List.set_cons_zero, List.set_cons_succ, List.take_succ_cons, List.take_zero, Nat.add_assoc, xp_dfl]
  conv => whnf
  refine ⟨by decide, by decide, Nat.le_of_ble_eq_true rfl, Nat.le_of_ble_eq_true rfl, ?_⟩
  dsimp only [xm_new]
  rw [H.2.2.1, H.2.1]
  simp only [List.cons_append, List.nil_append, List.length_cons, List.length_nil, Nat.reduceAdd, List.set_cons_zero, List.set_cons_succ, List.take_succ_cons, List.take_zero, Nat.add_assoc, xp_dfl]
  conv => whnf
  rw [H.1]
  conv => whnf
  refine ⟨rfl, Nat.le_trans hb (Nat.le_add_right _ _), Nat.le_of_ble_eq_true rfl, ⟨rfl, rfl⟩, ?_⟩
  rw [H.2.2.2.1 _ _ _ _ _ (Nat.le_of_ble_eq_true rfl)]
  simp only [List.cons_append, List.nil_append, List.length_cons, List.length_nil, Nat.reduceAdd, List.set_cons_zero, List.set_cons_succ, List.take_succ_cons, List.take_zero, Nat.add_assoc, xp_dfl]
  conv => whnf
  refine ⟨by decide, by decide, Nat.le_of_ble_eq_true rfl, Nat.le_of_ble_eq_true rfl, ?_⟩
  dsimp only [xm_new]
  rw [H.2.2.1, H.2.1]
  simp only [List.cons_append, List.nil_append, List.length_cons, List.length_nil, Nat.reduceAdd, List.set_cons_zero, List.set_cons_succ, List.take_succ_cons, List.take_zero, Nat.add_assoc, xp_dfl]
  conv => whnf
  rw [H.1]
  conv => whnf
  refine ⟨rfl, Nat.le_trans hb (Nat.le_add_right _ _), Nat.le_of_ble_eq_true rfl, ⟨rfl, rfl⟩, ?_⟩
  rw [H.2.2.2.1 _ _ _ _ _ (Nat.le_of_ble_eq_true rfl)]
  simp only [List.cons_append, List.nil_append, List.length_cons, List.length_nil, Nat.reduceAdd, List.set_cons_zero, List.set_cons_succ, List.take_succ_cons, List.take_zero, Nat.add_assoc, xp_dfl]
  conv => whnf
  rw [H.1]
  conv => whnf
  refine ⟨rfl, Nat.le_trans hb (Nat.le_add_right _ _), Nat.le_of_ble_eq_true rfl, ⟨rfl, rfl⟩, ?_⟩
  rw [H.2.2.2.1 _ _ _ _ _ (Nat.le_of_ble_eq_true rfl)]
  simp only [List.cons_append, List.nil_append, List.length_cons, List.length_nil, Nat.reduceAdd, List.set_cons_zero, List.set_cons_succ, List.take_succ_cons, List.take_zero, Nat.add_assoc, xp_dfl]
  conv => whnf
  refine ⟨by decide, by decide, Nat.le_of_ble_eq_true rfl, Nat.le_of_ble_eq_true rfl, ?_⟩
  dsimp only [xm_new]
  rw [H.2.2.1, H.2.1]
  simp only [List.cons_append, List.nil_append, List.length_cons, List.length_nil, Nat.reduceAdd, List.set_cons_zero, List.set_cons_succ, List.take_succ_cons, List.take_zero, Nat.add_assoc, xp_dfl]
  conv => whnf
  rw [H.1]
  conv => whnf
  refine ⟨rfl, Nat.le_trans hb (Nat.le_add_right _ _), Nat.le_of_ble_eq_true rfl, ⟨rfl, rfl⟩, ?_⟩
  rw [H.2.2.2.1 _ _ _ _ _ (Nat.le_of_ble_eq_true rfl)]
  simp only [List.cons_append, List.nil_append, List.length_cons, List.length_nil, Nat.reduceAdd, List.set_cons_zero, List.set_cons_succ, List.take_succ_cons, List.take_zero, Nat.add_assoc, xp_dfl]
  conv => whnf
  refine ⟨by decide, by decide, Nat.le_of_ble_eq_true rfl, Nat.le_of_ble_eq_true rfl, ?_⟩
  dsimp only [xm_new]
  rw [H.2.2.1, H.2.1]
  simp only [List.cons_append, List.nil_append, List.length_cons, List.length_nil, Nat.reduceAdd, List.set_cons_zero, List.set_cons_succ, List.take_succ_cons, List.take_zero, Nat.add_assoc, xp_dfl]
  conv => whnf
  rw [H.1]
  conv => whnf
  refine ⟨rfl, Nat.le_trans hb (Nat.le_add_right _ _), Nat.le_of_ble_eq_true rfl, ⟨rfl, rfl⟩, ?_⟩
  rw [H.2.2.2.1 _ _ _ _ _ (Nat.le_of_ble_eq_true rfl)]
  simp only [List.cons_append, List.nil_append, List.length_cons, List.length_nil, Nat.reduceAdd, List.set_cons_zero, List.set_cons_succ, List.take_succ_cons, List.take_zero, Nat.add_assoc, xp_dfl]
  conv => whnf
  refine ⟨by decide, by decide, Nat.le_of_ble_eq_true rfl, Nat.le_of_ble_eq_true rfl, ?_⟩
  dsimp only [xm_new]
  rw [H.2.2.1, H.2.1]
  simp only [List.cons_append, List.nil_append, List.length_cons, List.length_nil, Nat.reduceAdd, List.set_cons_zero, List.set_cons_succ, List.take_succ_cons, List.take_zero, Nat.add_assoc, xp_dfl]
  conv => whnf
  rw [H.1]
  conv => whnf
  refine ⟨rfl, Nat.le_trans hb (Nat.le_add_right _ _), Nat.le_of_ble_eq_true rfl, ⟨rfl, rfl⟩, ?_⟩
  rw [H.2.2.2.1 _ _ _ _ _ (Nat.le_of_ble_eq_true rfl)]
  simp only [List.cons_append, List.nil_append, List.length_cons, List.length_nil, Nat.reduceAdd, List.set_cons_zero, List.set_cons_succ, List.take_succ_cons, List.take_zero, Nat.add_assoc, xp_dfl]
  conv => whnf
  refine ⟨by decide, by decide, Nat.le_of_ble_eq_true rfl, Nat.le_of_ble_eq_true rfl, ?_⟩
  dsimp only [xm_new]
  rw [H.2.2.1, H.2.1]
  simp only [List.cons_append, List.nil_append, List.length_cons, List.length_nil, Nat.reduceAdd, List.set_cons_zero, List.set_cons_succ, List.take_succ_cons, List.take_zero, Nat.add_assoc, xp_dfl]
  conv => whnf
  rw [H.1]
  conv => whnf
  refine ⟨rfl, Nat.le_trans hb (Nat.le_add_right _ _), Nat.le_of_ble_eq_true rfl, ⟨rfl, rfl⟩, ?_⟩
  rw [H.2.2.2.1 _ _ _ _ _ (Nat.le_of_ble_eq_true rfl)]
  simp only [List.cons_append, List.nil_append, List.length_cons, List.length_nil, Nat.reduceAdd, List.set_cons_zero, List.set_cons_succ, List.take_succ_cons, List.take_zero, Nat.add_assoc, xp_dfl]
  conv => whnf
  refine ⟨by decide, by decide, Nat.le_of_ble_eq_true rfl, Nat.le_of_ble_eq_true rfl, ?_⟩
  dsimp only [xm_new]
  rw [H.2.2.1, H.2.1]
  simp only [List.cons_append, List.nil_append, List.length_cons, List.length_nil, Nat.reduceAdd, List.set_cons_zero, List.set_cons_succ, List.take_succ_cons, List.take_zero, Nat.add_assoc, xp_dfl]
  conv => whnf
  rw [H.1]
  conv => whnf
  refine ⟨rfl, Nat.le_trans hb (Nat.le_add_right _ _), Nat.le_of_ble_eq_true rfl, ⟨rfl, rfl⟩, ?_⟩
  rw [H.2.2.2.1 _ _ _ _ _ (Nat.le_of_ble_eq_true rfl)]
  simp only [List.cons_append, List.nil_append, List.length_cons, List.length_nil, Nat.reduceAdd, List.set_cons_zero, List.set_cons_succ, List.take_succ_cons, List.take_zero, Nat.add_assoc, xp_dfl]
  conv => whnf
  refine ⟨by decide, by decide, Nat.le_of_ble_eq_true rfl, Nat.le_of_ble_eq_true rfl, ?_⟩
  dsimp only [xm_new]
  rw [H.2.2.1, H.2.1]
  simp only [List.cons_append, List.nil_append, List.length_cons, List.length_nil, Nat.reduceAdd, List.set_cons_zero, List.set_cons_succ, List.take_succ_cons, List.take_zero, Nat.add_assoc, xp_dfl]
  conv => whnf
  rw [H.1]
  conv => whnf
  refine ⟨rfl, Nat.le_trans hb (Nat.le_add_right _ _), Nat.le_of_ble_eq_true rfl, ⟨rfl, rfl⟩, ?_⟩
  rw [H.2.2.2.1 _ _ _ _ _ (Nat.le_of_ble_eq_true rfl)]
  simp only [List.cons_append, List.nil_append, List.length_cons, List.length_nil, Nat.reduceAdd, List.set_cons_zero, List.set_cons_succ, List.take_succ_cons, List.take_zero, Nat.add_assoc, xp_dfl]
  conv => whnf
  refine ⟨by decide, by decide, Nat.le_of_ble_eq_true rfl, Nat.le_of_ble_eq_true rfl, ?_⟩
  dsimp only [xm_new]
  rw [H.2.2.1, H.2.1]
  simp only [List.cons_append, List.nil_append, List.length_cons, List.length_nil, Nat.reduceAdd, List.set_cons_zero, List.set_cons_succ, List.take_succ_cons, List.take_zero, Nat.add_assoc, xp_dfl]
  conv => whnf
  rw [H.1]
  conv => whnf
  refine ⟨rfl, Nat.le_trans hb (Nat.le_add_right _ _), Nat.le_of_ble_eq_true rfl, ⟨rfl, rfl⟩, ?_⟩
  rw [H.2.2.2.1 _ _ _ _ _ (Nat.le_of_ble_eq_true rfl)]
  simp only [List.cons_append, List.nil_append, List.length_cons, List.length_nil, Nat.reduceAdd, List.set_cons_zero, List.set_cons_succ, List.take_succ_cons, List.take_zero, Nat.add_assoc, xp_dfl]
  conv => whnf
  refine ⟨by decide, by decide, Nat.le_of_ble_eq_true rfl, Nat.le_of_ble_eq_true rfl, ?_⟩
  dsimp only [xm_new]
  rw [H.2.2.1, H.2.1]
  simp only [List.cons_append, List.nil_append, List.length_cons, List.length_nil, Nat.reduceAdd, List.set_cons_zero, List.set_cons_succ, List.take_succ_cons, List.take_zero, Nat.add_assoc, xp_dfl]
  conv => whnf
  rw [H.1]
  conv => whnf
  refine ⟨rfl, Nat.le_trans hb (Nat.le_add_right _ _), Nat.le_of_ble_eq_true rfl, ⟨rfl, rfl⟩, ?_⟩
  rw [H.2.2.2.1 _ _ _ _ _ (Nat.le_of_ble_eq_true rfl)]
  simp only [List.cons_append, List.nil_append, List.length_cons, List.length_nil, Nat.reduceAdd, List.set_cons_zero, List.set_cons_succ, List.take_succ_cons, List.take_zero, Nat.add_assoc, xp_dfl]
  conv => whnf
  refine ⟨by decide, by decide, Nat.le_of_ble_eq_true rfl, Nat.le_of_ble_eq_true rfl, ?_⟩
  dsimp only [xm_new]
  rw [H.2.2.1, H.2.1]
  simp only [List.cons_append, List.nil_append, List.length_cons, List.length_nil, Nat.reduceAdd, List.set_cons_zero, List.set_cons_succ, List.take_succ_cons, List.take_zero, Nat.add_assoc, xp_dfl]
  conv => whnf
  rw [H.1]
  conv => whnf
  refine ⟨rfl, Nat.le_trans hb (Nat.le_add_right _ _), Nat.le_of_ble_eq_true rfl, ⟨rfl, rfl⟩, ?_⟩
  rw [H.2.2.2.1 _ _ _ _ _ (Nat.le_of_ble_eq_true rfl)]
  simp only [List.cons_append, List.nil_append, List.length_cons, List.length_nil, Nat.reduceAdd, List.set_cons_zero, List.set_cons_succ, List.take_succ_cons, List.take_zero, Nat.add_assoc, xp_dfl]
  conv => whnf
  refine ⟨by decide, by decide, Nat.le_of_ble_eq_true rfl, Nat.le_of_ble_eq_true rfl, ?_⟩
  dsimp only [xm_new]
  rw [H.2.2.1, H.2.1]
  simp only [List.cons_append, List.nil_append, List.length_cons, List.length_nil, Nat.reduceAdd, List.set_cons_zero, List.set_cons_succ, List.take_succ_cons, List.take_zero, Nat.add_assoc, xp_dfl]
  conv => whnf
  rw [H.1]
  conv => whnf
  refine ⟨rfl, Nat.le_trans hb (Nat.le_add_right _ _), Nat.le_of_ble_eq_true rfl, ⟨rfl, rfl⟩, ?_⟩
  rw [H.2.2.2.1 _ _ _ _ _ (Nat.le_of_ble_eq_true rfl)]
  simp only [List.cons_append, List.nil_append, List.length_cons, List.length_nil, Nat.reduceAdd, List.set_cons_zero, List.set_cons_succ, List.take_succ_cons, List.take_zero, Nat.add_assoc, xp_dfl]
  conv => whnf
  refine ⟨by decide, by decide, Nat.le_of_ble_eq_true rfl, Nat.le_of_ble_eq_true rfl, ?_⟩
  dsimp only [xm_new]
  rw [H.2.2.1, H.2.1]
  simp only [List.cons_append, List.nil_append, List.length_cons, List.length_nil, Nat.reduceAdd, List.set_cons_zero, List.set_cons_succ, List.take_succ_cons, List.take_zero, Nat.add_assoc, xp_dfl]
  conv => whnf
  rw [H.1]
  conv => whnf
  refine ⟨rfl, Nat.le_trans hb (Nat.le_add_right _ _), Nat.le_of_ble_eq_true rfl, ⟨rfl, rfl⟩, ?_⟩
  rw [H.2.2.2.1 _ _ _ _ _ (Nat.le_of_ble_eq_true rfl)]
  simp only [List.cons_append, List.nil_append, List.length_cons, List.length_nil, Nat.reduceAdd, List.set_cons_zero, List.set_cons_succ, List.take_succ_cons, List.take_zero, Nat.add_assoc, xp_dfl]
  conv => whnf
  refine ⟨by decide, by decide, Nat.le_of_ble_eq_true rfl, Nat.le_of_ble_eq_true rfl, ?_⟩
  dsimp only [xm_new]
  rw [H.2.2.1, H.2.1]
  simp only [List.cons_append, List.nil_append, List.length_cons, List.length_nil, Nat.reduceAdd, List.set_cons_zero, List.set_cons_succ, List.take_succ_cons, List.take_zero, Nat.add_assoc, xp_dfl]
  conv => whnf
  rw [H.1]
  conv => whnf
  refine ⟨rfl, Nat.le_trans hb (Nat.le_add_right _ _), Nat.le_of_ble_eq_true rfl, ⟨rfl, rfl⟩, ?_⟩
  rw [H.2.2.2.1 _ _ _ _ _ (Nat.le_of_ble_eq_true rfl)]
  simp only [List.cons_append, List.nil_append, List.length_cons, List.length_nil, Nat.reduceAdd, List.set_cons_zero, List.set_cons_succ, List.take_succ_cons, List.take_zero, Nat.add_assoc, xp_dfl]
  conv => whnf
  rw [H.1]
  conv => whnf
  refine ⟨rfl, Nat.le_trans hb (Nat.le_add_right _ _), Nat.le_of_ble_eq_true rfl, ⟨rfl, rfl⟩, ?_⟩
  rw [H.2.2.2.1 _ _ _ _ _ (Nat.le_of_ble_eq_true rfl)]
  simp only [List.cons_append, List.nil_append, List.length_cons, List.length_nil, Nat.reduceAdd, List.set_cons_zero, List.set_cons_succ, List.take_succ_cons, List.take_zero, Nat.add_assoc, xp_dfl]
  conv => whnf
  refine ⟨xw_O (by rw [H.1]; rfl), xw0 0 0 (Nat.le_of_ble_eq_true rfl) (Nat.le_of_ble_eq_true rfl) (Nat.le_of_ble_eq_true rfl) (ct_X12_newTable_1 H _ hb) ?_⟩
  conv => whnf
  exact ⟨rfl, rfl, rfl⟩
end CT
