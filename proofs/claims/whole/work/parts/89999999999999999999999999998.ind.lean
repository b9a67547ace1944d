/-! code: rows that are right are independent: no reducer is 0 -/
theorem deB_e {x z : Nat → Nat} {i e : Nat} (h : pxr x e i = x i ∧ pxr z e i = z i) : ∀ m, e < m → deB x z i m = true
  | 0, hm => absurd hm (Nat.not_lt_zero _)
  | m + 1, hm => by
    show (deB x z i m || (decide (pxr x m i = x i) && decide (pxr z m i = z i))) = true
    by_cases c : e = m
    · subst c
      rw [decide_eq_true h.1, decide_eq_true h.2]
      simp
    · rw [deB_e h m (by omega)]
      rfl
theorem chF_d {x z : Nat → Nat} {n : Nat} (h : (chF x z n).1 = 0) : ∀ i, i < n → deB x z i (2 ^ i) = false := by
  intro i hi
  have h1 : (chF x z i).1 = 0 := by
    apply Classical.byContradiction
    intro c
    have := chF_m (x := x) (z := z) c (n - i)
    rw [show i + (n - i) = n by omega] at this
    rw [this] at h
    exact c h
  have h2 : (chF x z (i + 1)).1 = 0 := by
    apply Classical.byContradiction
    intro c
    have := chF_m (x := x) (z := z) c (n - (i + 1))
    rw [show i + 1 + (n - (i + 1)) = n by omega] at this
    rw [this] at h
    exact c h
  have h3 : chK x z i = 0 := by
    have e : chF x z (i + 1) = (chK x z i, i) := if_pos h1
    rw [e] at h2
    exact h2
  unfold chK at h3
  by_cases c : alQ x z i i = false
  · rw [if_pos c] at h3
    exact absurd h3 (by decide)
  · rw [if_neg c] at h3
    cases q : deB x z i (2 ^ i) with
    | false => rfl
    | true =>
      rw [q] at h3
      exact absurd h3 (by decide)
theorem red_n {x z : Nat → Nat} {s : Nat} (hx : ∀ j, j < s → x j < 256 ∧ z j < 256) (h : (chF x z s).1 = 0) {i : Nat} (hi : i < s) : rdT (fun j => x j + 256 * z j) s i ≠ 0 := by
  intro h0
  have hV6 : ∀ j, j < s → x j + 256 * z j < 65536 := fun j hj => by have := hx j hj; omega
  rw [rdT_r hi] at h0
  have key := (rdV_z (V := fun j => x j + 256 * z j) (R := rdT (fun j => x j + 256 * z j) s) (s := i) (fun j hj => rdT_r (by omega)) (fun j hj => rdT_l hV6 s (Nat.le_refl _) j) (x i + 256 * z i)).mp h0
  obtain ⟨e, he, hv⟩ := key
  rw [pxr_2 (fun j hj => (hx j (by omega)).1)] at hv
  have l1 := (hx i hi).1
  have l2 := pxr_lt (e := e) (i := i) (fun j hj => (hx j (by omega)).1)
  have := deB_e (x := x) (z := z) (i := i) (e := e) ⟨by omega, by omega⟩ (2 ^ i) he
  rw [chF_d h i hi] at this
  cases this
