/-! gate, on other rows at the reference -/
def tb_a (M : mm_M) (n : Nat) (Y : Nat → RW) : Prop := 1 ≤ n ∧ n ≤ 20 ∧ M.1 25 3 = nI n ∧ True ∧ ∀ j, j < n → rw_ok (Y j) ∧ rA M j (Y j) ∧ True
section GTA
variable {d : Nat} {M : mm_M}
set_option maxRecDepth 100000 in
theorem ct_tb1a {n k a : Nat} {q : Int32} {Y : Nat → RW} (hk : k < 5) (ha : a < 20) (h : tb_a M n Y) : am_M (d + 3) false nm_X8_turnBy [aR 25, aI (nI k), aI (nI a), aI q] M (am_q0 (gt_1 M (fun j => sg k a (Y j)) n)) := by
  obtain ⟨n1, n20, hn, _, hY⟩ := h
  refine ⟨rfl, rfl, rfl, fun X hX => am_run hX 5 _ _ _ _ ?_⟩
  conv => whnf
  refine ⟨⟨rfl, rfl⟩, ?_⟩
  conv => whnf
  have key := tb_l (M := mm_i M 25 (upd (M.1 25) 4 0)) (n := n) (Y := Y) (G := sg k a) (v1 := nI k) (v2 := nI a) (v3 := q) hX n20 hn (fun j hj => ⟨(hY j hj).1, (hY j hj).2.1⟩) (fun N i hi hr ok hK => bo_1 hX hk ha hi hr ok hK) ⟨rfl, rfl⟩ n 0 (by omega)
  rw [gA_0] at key
  exact key
set_option maxRecDepth 100000 in
theorem ct_tb2a {n k a b : Nat} {Y : Nat → RW} (hk : k = 5 ∨ k = 6 ∨ k = 7) (ha : a < 20) (hb : b < 20) (hab : a ≠ b) (h : tb_a M n Y) : am_M (d + 3) false nm_X8_turnBy [aR 25, aI (nI (gk k)), aI (nI b), aI (nI a)] M (am_q0 (gt_1 M (fun j => cpl k a b (Y j)) n)) := by
  obtain ⟨n1, n20, hn, _, hY⟩ := h
  refine ⟨rfl, rfl, rfl, fun X hX => am_run hX 5 _ _ _ _ ?_⟩
  conv => whnf
  refine ⟨⟨rfl, rfl⟩, ?_⟩
  conv => whnf
  have key := tb_l (M := mm_i M 25 (upd (M.1 25) 4 0)) (n := n) (Y := Y) (G := cpl k a b) (v1 := nI (gk k)) (v2 := nI b) (v3 := nI a) hX n20 hn (fun j hj => ⟨(hY j hj).1, (hY j hj).2.1⟩) (fun N i hi hr ok hK => bo_2 hX hk ha hb hab hi hr ok hK) ⟨rfl, rfl⟩ n 0 (by omega)
  rw [gA_0] at key
  exact key
set_option maxRecDepth 100000 in
theorem gt_x1a {n k a : Nat} {q : Int32} {Y : Nat → RW} (hk : k < 5) (ha : a < n) (h : tb_a M n Y) : am_M (d + 4) false nm_X11_gate [aR 0, aI (nI k), aI (nI a), aI q] M (am_q1 (aI 1) (gt_1 M (fun j => sg k a (Y j)) n)) := by
  have n20 := h.2.1
  refine ⟨rfl, rfl, rfl, fun X hX => am_run hX 60 _ _ _ _ ?_⟩
  conv => whnf
  refine ⟨fun c => absurd c (nI_pos (by omega)), fun _ => ?_⟩
  conv => whnf
  refine ⟨fun c => absurd c (nI_nlt (a := 7) (by omega) (by decide)), fun _ => ?_⟩
  conv => whnf
  refine ⟨fun c => absurd c (nI_pos (by omega)), fun _ => ?_⟩
  conv => whnf
  rw [h.2.2.1]
  refine ⟨fun _ => ?_, fun c => absurd (nI_lt ha (by omega)) c⟩
  conv => whnf
  refine ⟨fun c => absurd c (nI_nlt (a := 4) (by omega) (by decide)), fun _ => ?_⟩
  conv => whnf
  refine am_c0 (ct_tb1a (d := d) hk (by omega) h) ?_
  conv => whnf
  exact ⟨rfl, rfl, rfl⟩
set_option maxRecDepth 100000 in
theorem gt_x2a {n k a b : Nat} {Y : Nat → RW} (hk : k = 5 ∨ k = 6 ∨ k = 7) (ha : a < n) (hb : b < n) (hab : a ≠ b) (h : tb_a M n Y) : am_M (d + 4) false nm_X11_gate [aR 0, aI (nI k), aI (nI a), aI (nI b)] M (am_q1 (aI 1) (gt_1 M (fun j => cpl k a b (Y j)) n)) := by
  have n20 := h.2.1
  have key := ct_tb2a (d := d) (k := k) (a := a) (b := b) hk (by omega) (by omega) hab h
  refine ⟨rfl, rfl, rfl, fun X hX => am_run hX 60 _ _ _ _ ?_⟩
  conv => whnf
  refine ⟨fun c => absurd c (nI_pos (by omega)), fun _ => ?_⟩
  conv => whnf
  refine ⟨fun c => absurd c (nI_nlt (a := 7) (by omega) (by decide)), fun _ => ?_⟩
  conv => whnf
  refine ⟨fun c => absurd c (nI_pos (by omega)), fun _ => ?_⟩
  conv => whnf
  rw [h.2.2.1]
  refine ⟨fun _ => ?_, fun c => absurd (nI_lt ha (by omega)) c⟩
  conv => whnf
  refine ⟨fun _ => ?_, fun c => absurd (nI_lt (a := 4) (by omega) (by omega)) c⟩
  conv => whnf
  refine ⟨fun c => absurd c (nI_pos (by omega)), fun _ => ?_⟩
  conv => whnf
  rw [h.2.2.1]
  refine ⟨fun c => absurd c (nI_ge hb (by omega)), fun _ => ?_⟩
  conv => whnf
  refine ⟨fun _ => ?_, fun c => absurd (fun e => hab ((nI_eq (by omega) (by omega)).mp e)) c⟩
  rcases hk with rfl | rfl | rfl
  · conv => whnf
    refine ⟨fun _ => ?_, fun c => absurd (by decide) c⟩
    conv => whnf
    refine ⟨fun c => absurd rfl c, fun _ => ?_⟩
    conv => whnf
    refine am_c0 key ?_
    conv => whnf
    exact ⟨rfl, rfl, rfl⟩
  · conv => whnf
    refine ⟨fun _ => ?_, fun c => absurd (by decide) c⟩
    conv => whnf
    refine ⟨fun _ => ?_, fun c => absurd (by decide) c⟩
    conv => whnf
    refine am_c0 key ?_
    conv => whnf
    exact ⟨rfl, rfl, rfl⟩
  · conv => whnf
    refine ⟨fun c => absurd rfl c, fun _ => ?_⟩
    conv => whnf
    refine am_c0 key ?_
    conv => whnf
    exact ⟨rfl, rfl, rfl⟩
theorem rn_ok {n : Nat} {y : RW} (hn : n ≤ 20) (h : rw_n n y) : rw_ok y := by
  have p : 2 ^ n ≤ 2 ^ 20 := Nat.pow_le_pow_right (by decide) hn
  obtain ⟨a, b, c⟩ := h
  exact ⟨by omega, by omega, c⟩
end GTA
section GTB
variable {ac : Nat → ClassId} {lo : Nat} {ad as : Nat → Nat} {b L : Nat} {xs : Nat → Int32} {hp : mm_M → Nat → xm_H} {I J : mm_M → Prop}
theorem pr_gateG (H : mm_L ac lo hp) (h1 : ∀ M, I M → ∃ n A B, tb_g M n A B) (hJ0 : ∀ M, I M → J (th0 M)) (hJ : ∀ M n A B k a b, I M → tb_g M n A B → a < n → (k < 5 ∨ ((k = 5 ∨ k = 6 ∨ k = 7) ∧ b < n ∧ a ≠ b)) → J (gB (th0 (gt_1 M (fun j => gr k a b (A j)) n)) (fun j => gr k a b (B j)) n)) (p q r : Int32) : la_I ac lo ad as b L xs hp I J nm_X11_gate nm_X12_gate [.int p, .int q, .int r] := by
  refine am_la_I (us := [aI p, aI q, aI r]) H fun M hI => ?_
  obtain ⟨n, A, B, h⟩ := h1 M hI
  have n20 := h.1
  rcases gt_sp n20 p q r with hx | ⟨k, a, b, rfl, rfl, ha, hk⟩
  · refine am_wk (gt_x0 (d := 999) h.2.1 hx) fun r M1 e => ⟨0, e.1, ?_⟩
    rw [e.2]
    exact am_wk (gt_m0 (d := 999) h.2.2.1 hx) fun r M1 e => ⟨e.1, by rw [e.2]; exact hJ0 M hI⟩
  · have hA : tb_a M n A := ⟨by omega, n20, h.2.1, trivial, fun j hj => ⟨rn_ok n20 (h.2.2.2.1 j hj).1, (h.2.2.2.1 j hj).2.2.1, trivial⟩⟩
    have x : am_M 1000 false nm_X11_gate [aR 0, aI (nI k), aI (nI a), aI r] M (am_q1 (aI 1) (gt_1 M (fun j => gr k a b (A j)) n)) := by
      rcases hk with hk | ⟨hk, rfl, hb, hab⟩
      · have := gt_x1a (d := 996) (q := r) hk ha hA
        rw [show (fun j => sg k a (A j)) = fun j => gr k a b (A j) from funext fun j => (if_pos hk).symm] at this
        exact this
      · have := gt_x2a (d := 996) hk ha hb hab hA
        rw [show (fun j => cpl k a b (A j)) = fun j => gr k a b (A j) from funext fun j => (if_neg (by omega)).symm] at this
        exact this
    refine am_wk x fun r M1 e => ⟨1, e.1, ?_⟩
    rw [e.2]
    refine am_wk (gt_m1 (d := 998) (n := n) (Y := B) (b := b) n20 h.2.2.1 (fun j hj => ⟨rn_ok n20 (h.2.2.2.1 j hj).2.1, (h.2.2.2.1 j hj).2.2.2⟩) ha hk) fun r M1 e => ⟨e.1, ?_⟩
    rw [e.2]
    exact hJ M n A B k a b hI h ha (hk.imp id fun e => ⟨e.1, e.2.2⟩)
end GTB
