/-! what holds at the start, and of a new TABLE -/
section IN0
variable {M : mm_M} {n : Nat} {Y : Nat → RW}
theorem tb_gs (h : tb_s M n Y) (hr : ∀ j, j < n → rw_n n (Y j)) (hc : allc n Y) (h4 : M.1 25 4 = 0) : tb_g M n Y Y := ⟨h.2.1, h.2.2.1, h.2.2.2.1, fun j hj => ⟨hr j hj, hr j hj, (h.2.2.2.2 j hj).2.1, (h.2.2.2.2 j hj).2.2⟩, hc, hc, rfl, Or.inl h4⟩
theorem z_cm {n : Nat} {x y s t : Nat} : cmt n (0, x, s) (0, y, t) := by
  unfold cmt
  have : ∀ m, sm (fun u => bt (0 : Nat) u * bt y u + bt x u * bt (0 : Nat) u) m = 0 := fun m => by
    have e : (fun u => bt (0 : Nat) u * bt y u + bt x u * bt (0 : Nat) u) = fun _ => 0 := funext fun u => by
      have z : bt (0 : Nat) u = 0 := by
        unfold bt
        rw [Nat.zero_div]
      rw [z, Nat.zero_mul, Nat.mul_zero]
    rw [e]
    induction m with
    | zero => rfl
    | succ m ih =>
      show sm (fun _ => 0) m + 0 = 0
      rw [ih]
  show sm (fun u => bt (0 : Nat) u * bt y u + bt x u * bt (0 : Nat) u) n % 2 = 0
  rw [this]
theorem tb_new (n1 : 1 ≤ n) (n2 : n ≤ 20) : tb_g (tb_2 (tz M n 0) n) n (fun j => (0, 2 ^ j, 0)) (fun j => (0, 2 ^ j, 0)) := by
  refine tb_gs (tb_start n1 n2) (fun j hj => ⟨Nat.pow_pos (by decide), Nat.pow_lt_pow_right (by decide) hj, by show 0 < 2; decide⟩) (fun i j _ _ => z_cm) ?_
  simp [tb_2, ty, tz, mm_i, upd]
theorem z_wvJ : wvJ mm_0 := Or.inl ⟨rfl, rfl⟩
theorem z_cdI : cdI mm_0 := Or.inl ⟨rfl, rfl⟩
theorem z_dez : de_z mm_0 := Or.inl ⟨rfl, rfl⟩
theorem z_tbg : tb_g mm_0 1 (fun j => (0, 2 ^ j, 0)) (fun j => (0, 2 ^ j, 0)) := by
  refine ⟨by decide, rfl, rfl, fun j hj => ?_, fun i j _ _ => z_cm, fun i j _ _ => z_cm, rfl, Or.inl rfl⟩
  have e : j = 0 := by omega
  subst e
  exact ⟨⟨by decide, by decide, by decide⟩, ⟨by decide, by decide, by decide⟩, ⟨rfl, rfl, rfl⟩, ⟨rfl, rfl, rfl⟩⟩
theorem z_bk : bk_iv mm_0 0 := ⟨by decide, rfl, rfl, fun i hi => absurd hi (Nat.not_lt_zero _)⟩
theorem z_run : mm_0.1 17 5 = -1 ∧ mm_0.1 108 65 = 0 := ⟨rfl, rfl⟩
theorem z_ty : ty_iv mm_0 0 := ⟨by decide, rfl, rfl, fun j hj => absurd hj (Nat.not_lt_zero _)⟩
theorem z_fm : fm_iv mm_0 := Or.inl ⟨rfl, rfl⟩
theorem z_lef : le_f mm_0 := Or.inl rfl
end IN0
