/-! the pair gate: what it refuses, what it does -/
section GTQ
variable {d : Nat} {M : mm_M}
def gt_no (n : Nat) (p q r : Int32) : Prop := p < 0 ∨ 7 < p ∨ q < 0 ∨ nI n ≤ q ∨ (¬ p ≤ 4 ∧ (r < 0 ∨ nI n ≤ r ∨ q = r))
theorem gt_sp {n : Nat} (hn : n ≤ 20) (p q r : Int32) : gt_no n p q r ∨ ∃ k a b, p = nI k ∧ q = nI a ∧ a < n ∧ (k < 5 ∨ ((k = 5 ∨ k = 6 ∨ k = 7) ∧ r = nI b ∧ b < n ∧ a ≠ b)) := by
  by_cases h : gt_no n p q r
  · exact Or.inl h
  · have p0 : ¬ p < 0 := fun c => h (Or.inl c)
    have p7 : ¬ 7 < p := fun c => h (Or.inr (Or.inl c))
    have q0 : ¬ q < 0 := fun c => h (Or.inr (Or.inr (Or.inl c)))
    have qn : ¬ nI n ≤ q := fun c => h (Or.inr (Or.inr (Or.inr (Or.inl c))))
    have rr : ¬ (¬ p ≤ 4 ∧ (r < 0 ∨ nI n ≤ r ∨ q = r)) := fun c => h (Or.inr (Or.inr (Or.inr (Or.inr c))))
    obtain ⟨k, hk, rfl⟩ := nI_of p0
    obtain ⟨a, ha, rfl⟩ := nI_of q0
    have an : a < n := by
      apply Decidable.byContradiction
      intro hc
      exact qn (nI_le (by omega) ha)
    have k7 : k < 8 := by
      apply Decidable.byContradiction
      intro hc
      exact p7 (nI_lt (a := 7) (by omega) hk)
    by_cases k5 : k < 5
    · exact Or.inr ⟨k, a, 0, rfl, rfl, an, Or.inl k5⟩
    · have np : ¬ nI k ≤ 4 := nI_ge (a := 4) (b := k) (by omega) hk
      have r0 : ¬ r < 0 := fun c => rr ⟨np, Or.inl c⟩
      obtain ⟨b, hb, rfl⟩ := nI_of r0
      refine Or.inr ⟨k, a, b, rfl, rfl, an, Or.inr ⟨by omega, rfl, ?_, ?_⟩⟩
      · apply Decidable.byContradiction
        intro hc
        exact rr ⟨np, Or.inr (Or.inl (nI_le (by omega) hb))⟩
      · intro e
        exact rr ⟨np, Or.inr (Or.inr (by rw [e]))⟩
set_option maxRecDepth 100000 in
theorem gt_x0 {n : Nat} {p q r : Int32} (hn : M.1 25 3 = nI n) (h : gt_no n p q r) : am_M (d + 1) false nm_X11_gate [aR 0, aI p, aI q, aI r] M (am_q1 (aI 0) M) := by
  refine ⟨rfl, rfl, rfl, fun X hX => am_run hX 60 _ _ _ _ ?_⟩
  conv => whnf
  refine ⟨fun _ => by conv => whnf
                      exact ⟨rfl, rfl, rfl⟩, fun c1 => ?_⟩
  conv => whnf
  refine ⟨fun _ => by conv => whnf
                      exact ⟨rfl, rfl, rfl⟩, fun c2 => ?_⟩
  conv => whnf
  refine ⟨fun _ => by conv => whnf
                      exact ⟨rfl, rfl, rfl⟩, fun c3 => ?_⟩
  conv => whnf
  rw [hn]
  refine ⟨fun c4 => ?_, fun _ => by conv => whnf
                                    exact ⟨rfl, rfl, rfl⟩⟩
  have h := (((h.resolve_left c1).resolve_left c2).resolve_left c3).resolve_left (Int32.not_le.mpr c4)
  conv => whnf
  refine ⟨fun _ => ?_, fun c5 => absurd (Int32.not_lt.mp c5) h.1⟩
  conv => whnf
  refine ⟨fun _ => by conv => whnf
                      exact ⟨rfl, rfl, rfl⟩, fun c6 => ?_⟩
  conv => whnf
  rw [hn]
  refine ⟨fun _ => by conv => whnf
                      exact ⟨rfl, rfl, rfl⟩, fun c7 => ?_⟩
  conv => whnf
  refine ⟨fun c8 => absurd ((h.2.resolve_left c6).resolve_left c7) c8, fun _ => ?_⟩
  conv => whnf
  exact ⟨rfl, rfl, rfl⟩
set_option maxRecDepth 100000 in
theorem gt_m0 {n : Nat} {p q r : Int32} (hn : M.1 108 81 = nI n) (h : gt_no n p q r) : am_M (d + 1) false nm_X12_gate [aR 108, aI p, aI q, aI r] M (am_q1 (aI 0) (th0 M)) := by
  have hn2 : (mm_i M 108 (upd (M.1 108) 0 0)).1 108 81 = nI n := hn
  refine ⟨rfl, rfl, rfl, fun X hX => am_run hX 30 _ _ _ _ ?_⟩
  conv => whnf
  refine ⟨fun _ => by conv => whnf
                      exact ⟨rfl, rfl, rfl⟩, fun c1 => ?_⟩
  conv => whnf
  refine ⟨fun _ => by conv => whnf
                      exact ⟨rfl, rfl, rfl⟩, fun c2 => ?_⟩
  conv => whnf
  refine ⟨fun _ => by conv => whnf
                      exact ⟨rfl, rfl, rfl⟩, fun c3 => ?_⟩
  conv => whnf
  rw [hn2]
  refine ⟨fun _ => by conv => whnf
                      exact ⟨rfl, rfl, rfl⟩, fun c4 => ?_⟩
  have h := (((h.resolve_left c1).resolve_left c2).resolve_left c3).resolve_left c4
  conv => whnf
  refine ⟨fun c5 => absurd c5 h.1, fun _ => ?_⟩
  conv => whnf
  refine ⟨fun _ => by conv => whnf
                      exact ⟨rfl, rfl, rfl⟩, fun c6 => ?_⟩
  conv => whnf
  rw [hn2]
  refine ⟨fun _ => by conv => whnf
                      exact ⟨rfl, rfl, rfl⟩, fun c7 => ?_⟩
  conv => whnf
  refine ⟨fun c8 => absurd ((h.2.resolve_left c6).resolve_left c7) c8, fun _ => ?_⟩
  conv => whnf
  exact ⟨rfl, rfl, rfl⟩
set_option maxRecDepth 100000 in
theorem gt_x1 {n k a : Nat} {q : Int32} {Y : Nat → RW} (hk : k < 5) (ha : a < n) (h : tb_s M n Y) : am_M (d + 4) false nm_X11_gate [aR 0, aI (nI k), aI (nI a), aI q] M (am_q1 (aI 1) (gt_1 M (fun j => sg k a (Y j)) n)) := by
  have n20 := h.2.1
  refine ⟨rfl, rfl, rfl, fun X hX => am_run hX 60 _ _ _ _ ?_⟩
  conv => whnf
  refine ⟨fun c => absurd c (nI_pos (by omega)), fun _ => ?_⟩
  conv => whnf
  refine ⟨fun c => absurd c (nI_nlt (a := 7) (by omega) (by decide)), fun _ => ?_⟩
  conv => whnf
  refine ⟨fun c => absurd c (nI_pos (by omega)), fun _ => ?_⟩
  conv => whnf
  rw [h.2.2.1]
  refine ⟨fun _ => ?_, fun c => absurd (nI_lt ha (by omega)) c⟩
  conv => whnf
  refine ⟨fun c => absurd c (nI_nlt (a := 4) (by omega) (by decide)), fun _ => ?_⟩
  conv => whnf
  refine am_c0 (ct_tb1 (d := d) hk (by omega) h) ?_
  conv => whnf
  exact ⟨rfl, rfl, rfl⟩
set_option maxRecDepth 100000 in
theorem gt_x2 {n k a b : Nat} {Y : Nat → RW} (hk : k = 5 ∨ k = 6 ∨ k = 7) (ha : a < n) (hb : b < n) (hab : a ≠ b) (h : tb_s M n Y) : am_M (d + 4) false nm_X11_gate [aR 0, aI (nI k), aI (nI a), aI (nI b)] M (am_q1 (aI 1) (gt_1 M (fun j => cpl k a b (Y j)) n)) := by
  have n20 := h.2.1
  have key := ct_tb2 (d := d) (k := k) (a := a) (b := b) hk (by omega) (by omega) hab h
  refine ⟨rfl, rfl, rfl, fun X hX => am_run hX 60 _ _ _ _ ?_⟩
  conv => whnf
  refine ⟨fun c => absurd c (nI_pos (by omega)), fun _ => ?_⟩
  conv => whnf
  refine ⟨fun c => absurd c (nI_nlt (a := 7) (by omega) (by decide)), fun _ => ?_⟩
  conv => whnf
  refine ⟨fun c => absurd c (nI_pos (by omega)), fun _ => ?_⟩
  conv => whnf
  rw [h.2.2.1]
  refine ⟨fun _ => ?_, fun c => absurd (nI_lt ha (by omega)) c⟩
  conv => whnf
  refine ⟨fun _ => ?_, fun c => absurd (nI_lt (a := 4) (by omega) (by omega)) c⟩
  conv => whnf
  refine ⟨fun c => absurd c (nI_pos (by omega)), fun _ => ?_⟩
  conv => whnf
  rw [h.2.2.1]
  refine ⟨fun c => absurd c (nI_ge hb (by omega)), fun _ => ?_⟩
  conv => whnf
  refine ⟨fun _ => ?_, fun c => absurd (fun e => hab ((nI_eq (by omega) (by omega)).mp e)) c⟩
  rcases hk with rfl | rfl | rfl
  · conv => whnf
    refine ⟨fun _ => ?_, fun c => absurd (by decide) c⟩
    conv => whnf
    refine ⟨fun c => absurd rfl c, fun _ => ?_⟩
    conv => whnf
    refine am_c0 key ?_
    conv => whnf
    exact ⟨rfl, rfl, rfl⟩
  · conv => whnf
    refine ⟨fun _ => ?_, fun c => absurd (by decide) c⟩
    conv => whnf
    refine ⟨fun _ => ?_, fun c => absurd (by decide) c⟩
    conv => whnf
    refine am_c0 key ?_
    conv => whnf
    exact ⟨rfl, rfl, rfl⟩
  · conv => whnf
    refine ⟨fun c => absurd rfl c, fun _ => ?_⟩
    conv => whnf
    refine am_c0 key ?_
    conv => whnf
    exact ⟨rfl, rfl, rfl⟩
set_option maxRecDepth 100000 in
theorem gt_m1 {n k a b : Nat} {q : Int32} {Y : Nat → RW} (n20 : n ≤ 20) (hn : M.1 108 81 = nI n) (hY : ∀ j, j < n → rw_ok (Y j) ∧ rB M j (Y j)) (ha : a < n) (hk : k < 5 ∨ ((k = 5 ∨ k = 6 ∨ k = 7) ∧ q = nI b ∧ b < n ∧ a ≠ b)) : am_M (d + 2) false nm_X12_gate [aR 108, aI (nI k), aI (nI a), aI q] M (am_q1 (aI 1) (gB (th0 M) (fun j => gr k a b (Y j)) n)) := by
  have hn2 : (mm_i M 108 (upd (M.1 108) 0 0)).1 108 81 = nI n := hn
  refine ⟨rfl, rfl, rfl, fun X hX => am_run hX 5 _ _ _ _ ?_⟩
  have go : X 51 [some (aR 108), some (aI (nI k)), some (aI (nI a)), some (aI q), none, none, none] [] (th0 M) := by
    refine am_run hX 2 _ _ _ _ ?_
    conv => whnf
    have key := gt_l (M := th0 M) (n := n) (Y := Y) (b := b) hX n20 hn hY (by omega) (hk.imp id fun e => ⟨e.1, e.2.1, by omega⟩) ⟨rfl, rfl⟩ n 0 none none (by omega)
    rw [gB_0] at key
    exact key
  have k7 : k < 8 := by omega
  conv => whnf
  refine ⟨fun c => absurd c (nI_pos (by omega)), fun _ => ?_⟩
  refine am_run hX 3 _ _ _ _ ?_
  conv => whnf
  refine ⟨fun c => absurd c (nI_nlt (a := 7) (by omega) (by decide)), fun _ => ?_⟩
  refine am_run hX 2 _ _ _ _ ?_
  conv => whnf
  refine ⟨fun c => absurd c (nI_pos (by omega)), fun _ => ?_⟩
  refine am_run hX 4 _ _ _ _ ?_
  conv => whnf
  rw [hn2]
  refine ⟨fun c => absurd c (nI_ge ha (by omega)), fun _ => ?_⟩
  refine am_run hX 3 _ _ _ _ ?_
  conv => whnf
  rcases hk with hk | ⟨hk, rfl, hb, hab⟩
  · exact ⟨fun _ => go, fun c => absurd (nI_le (b := 4) (by omega) (by decide)) c⟩
  · refine ⟨fun _ => go, fun _ => ?_⟩
    refine am_run hX 2 _ _ _ _ ?_
    conv => whnf
    refine ⟨fun c => absurd c (nI_pos (by omega)), fun _ => ?_⟩
    refine am_run hX 4 _ _ _ _ ?_
    conv => whnf
    rw [hn2]
    refine ⟨fun c => absurd c (nI_ge hb (by omega)), fun _ => ?_⟩
    refine am_run hX 3 _ _ _ _ ?_
    conv => whnf
    exact ⟨fun _ => go, fun c => absurd (fun e => hab ((nI_eq (by omega) (by omega)).mp e)) c⟩
end GTQ
section GTR
variable {ac : Nat → ClassId} {lo : Nat} {ad as : Nat → Nat} {b L : Nat} {xs : Nat → Int32} {hp : mm_M → Nat → xm_H} {I J : mm_M → Prop}
theorem pr_gate (H : mm_L ac lo hp) (h1 : ∀ M, I M → ∃ n Y, tb_s M n Y) (hJ0 : ∀ M, I M → J (th0 M)) (hJ : ∀ M n Y k a b, I M → tb_s M n Y → a < n → (k < 5 ∨ ((k = 5 ∨ k = 6 ∨ k = 7) ∧ b < n ∧ a ≠ b)) → J (gB (th0 (gt_1 M (fun j => gr k a b (Y j)) n)) (fun j => gr k a b (Y j)) n)) (p q r : Int32) : la_I ac lo ad as b L xs hp I J nm_X11_gate nm_X12_gate [.int p, .int q, .int r] := by
  refine am_la_I (us := [aI p, aI q, aI r]) H fun M hI => ?_
  obtain ⟨n, Y, h⟩ := h1 M hI
  rcases gt_sp h.2.1 p q r with hx | ⟨k, a, b, rfl, rfl, ha, hk⟩
  · refine am_wk (gt_x0 (d := 999) h.2.2.1 hx) fun r M1 e => ⟨0, e.1, ?_⟩
    rw [e.2]
    exact am_wk (gt_m0 (d := 999) h.2.2.2.1 hx) fun r M1 e => ⟨e.1, by rw [e.2]; exact hJ0 M hI⟩
  · have x : am_M 1000 false nm_X11_gate [aR 0, aI (nI k), aI (nI a), aI r] M (am_q1 (aI 1) (gt_1 M (fun j => gr k a b (Y j)) n)) := by
      rcases hk with hk | ⟨hk, rfl, hb, hab⟩
      · have := gt_x1 (d := 996) (q := r) hk ha h
        rw [show (fun j => sg k a (Y j)) = fun j => gr k a b (Y j) from funext fun j => (if_pos hk).symm] at this
        exact this
      · have := gt_x2 (d := 996) hk ha hb hab h
        rw [show (fun j => cpl k a b (Y j)) = fun j => gr k a b (Y j) from funext fun j => (if_neg (by omega)).symm] at this
        exact this
    refine am_wk x fun r M1 e => ⟨1, e.1, ?_⟩
    rw [e.2]
    refine am_wk (gt_m1 (d := 998) (n := n) (Y := Y) (b := b) h.2.1 h.2.2.2.1 (fun j hj => ⟨(h.2.2.2.2 j hj).1, (h.2.2.2.2 j hj).2.2⟩) ha hk) fun r M1 e => ⟨e.1, ?_⟩
    rw [e.2]
    exact hJ M n Y k a b hI h ha (hk.imp id fun e => ⟨e.1, e.2.2⟩)
end GTR
