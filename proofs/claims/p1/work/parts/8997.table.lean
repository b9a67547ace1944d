/-! the TABLE stays as both have it, behind table and gate -/
section TBI
variable {M : mm_M}
theorem tb_start {n : Nat} (n1 : 1 ≤ n) (n2 : n ≤ 20) : tb_s (tb_2 (tz M n 0) n) n (fun j => (0, 2 ^ j, 0)) := by
  refine ⟨n1, n2, by simp [tb_2, ty, tz, mm_i, upd], by simp [tb_2, ty, tz, mm_i, upd], fun j hj => ⟨⟨show 0 < 2 ^ 20 by decide, pw20 (by omega), show 0 < 2 by decide⟩, ⟨?_, ?_, ?_⟩, ?_, ?_, ?_⟩⟩
  · simp [tb_2, ty, tz, mm_i, hj]; rfl
  · simp [tb_2, ty, tz, mm_i, hj]
  · simp [tb_2, ty, tz, mm_i, hj]; rfl
  · simp [tb_2, ty, tz, mm_i, hj]; rfl
  · simp [tb_2, ty, tz, mm_i, hj]
  · simp [tb_2, ty, tz, mm_i, hj]; rfl
theorem exg20 {a b n : Nat} (ha : a < 20) (hb : b < 20) (h : n < 2 ^ 20) : exg a b n < 2 ^ 20 := by
  have e (m c : Nat) (hc : c < 20) : m % 2 * 2 ^ c < 2 ^ 20 := by
    have h1 : m % 2 < 2 := Nat.mod_lt _ (by decide)
    have h2 := pw20 hc
    have h3 : m % 2 * 2 ^ c ≤ 1 * 2 ^ c := Nat.mul_le_mul (by omega) (Nat.le_refl _)
    omega
  exact Nat.xor_lt_two_pow h (Nat.or_lt_two_pow (e _ _ ha) (e _ _ hb))
theorem ok_gr {k a b : Nat} {y : RW} (ha : a < 20) (hk : k < 5 ∨ ((k = 5 ∨ k = 6 ∨ k = 7) ∧ b < 20 ∧ a ≠ b)) (h : rw_ok y) : rw_ok (gr k a b y) := by
  have x2 : ∀ m n, m < 2 → n < 2 → m ^^^ n < 2 := fun m n h1 h2 => Nat.xor_lt_two_pow (n := 1) h1 h2
  rcases hk with hk | ⟨hk, hb, hab⟩
  · rw [show gr k a b y = sg k a y from if_pos hk]
    rcases (by omega : k = 0 ∨ k = 1 ∨ k = 2 ∨ k = 3 ∨ k = 4) with rfl | rfl | rfl | rfl | rfl
    · exact ⟨h.1, h.2.1, x2 _ _ h.2.2 (bt_lt _ _)⟩
    · exact ⟨h.1, h.2.1, x2 _ _ h.2.2 (x2 _ _ (bt_lt _ _) (bt_lt _ _))⟩
    · exact ⟨h.1, h.2.1, x2 _ _ h.2.2 (bt_lt _ _)⟩
    · rw [← e_H]; exact ok_nH ha h
    · rw [← e_S]; exact ok_nS ha h
  · rw [show gr k a b y = cpl k a b y from if_neg (by omega)]
    rcases hk with rfl | rfl | rfl
    · rw [← e_N hab]; exact ok_nH hb (ok_nC hb ha (ok_nH hb h))
    · rw [← e_Z]; exact ok_nC hb ha h
    · rw [← e_W]; exact ⟨exg20 hb ha h.1, exg20 hb ha h.2.1, h.2.2⟩
theorem tb_gate {n k a b : Nat} {Y : Nat → RW} (h : tb_s M n Y) (ha : a < n) (hk : k < 5 ∨ ((k = 5 ∨ k = 6 ∨ k = 7) ∧ b < n ∧ a ≠ b)) : tb_s (gB (th0 (gt_1 M (fun j => gr k a b (Y j)) n)) (fun j => gr k a b (Y j)) n) n (fun j => gr k a b (Y j)) := by
  obtain ⟨n1, n2, e1, e2, hY⟩ := h
  refine ⟨n1, n2, e1, e2, fun j hj => ⟨ok_gr (by omega) (hk.imp id fun e => ⟨e.1, by omega, e.2.2⟩) (hY j hj).1, ⟨?_, ?_, ?_⟩, ?_, ?_, ?_⟩⟩
  · exact if_pos hj
  · exact if_pos hj
  · exact if_pos hj
  · exact if_pos hj
  · exact if_pos hj
  · exact if_pos hj
end TBI
