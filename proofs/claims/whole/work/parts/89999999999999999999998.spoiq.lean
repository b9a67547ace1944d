section SPP
variable {W r y k K b : Nat} {M N : mm_M} {xs : Nat → R4}
theorem sp_d (h : de_d M W K xs) (hr : r < W) (hy : y < 4) (hk : k < 17) (hK : K + spQ y ≤ 120) (hf : soG (spM M (2 ^ (2 * W)) b (K + spQ y) (spN W r y k xs)) N b) (hx : ∀ i j, i < 2 ^ W → j < 2 ^ W → at5 (N.2 162) (5 * (8 * i + j)) (red (K + spQ y) (spN W r y k xs (i + 2 ^ W * j))).1 (red (K + spQ y) (spN W r y k xs (i + 2 ^ W * j))).2) : de_d N W (K + spQ y) (spN W r y k xs) := by
  obtain ⟨h1, h2, h3, h4, h5, h6, h7, h8, h9, h10, h11, h12⟩ := h
  obtain ⟨f1, f2, f3, f4, f5⟩ := hf
  refine ⟨h1, h2, hK, ?_, ?_, ?_, ?_, ?_, ?_, fun c hc => ?_, fun i j hi hj => ?_, ?_⟩
  · rw [f1 104 (by decide)]
    exact h4
  · rw [f2 88 (by decide) (by decide)]
    exact h5
  · rw [f1 105 (by decide)]
    exact h6
  · rw [f1 105 (by decide)]
    rfl
  · rw [f1 104 (by decide), f2 89 (by decide) (by decide)]
    exact h8
  · rw [f1 104 (by decide), f4]
    rfl
  · have e := f5 107 (by decide) (by decide) (by decide) (by decide)
    exact cq_rt (M := N) (c := 107) (e.trans rfl) hc
  · refine (at_rf ?_).mpr (hx i j hi hj)
    have := (vr_red (K + spQ y) (spN W r y k xs (i + 2 ^ W * j))).1
    omega
  · have a := sp_nrm (xs := xs) h2 hr hy hk
    have p : (0 : Int) ≤ 2 ^ spQ y := Int.le_of_lt (Int.pow_pos (by decide))
    have c := Int.mul_le_mul_of_nonneg_left h12 p
    rw [← Int.pow_add, Nat.add_comm] at c
    exact Int.le_trans a c
theorem de_54 (h : de_d M W K xs) (hK : K ≤ 108) {c : Nat} (hc : c < 2 ^ (2 * W)) : bbN 1 (xs c) := by
  have s := h.2.2.2.2.2.2.2.2.2.2.2
  have a : nrm (xs c) ≤ sI (fun c => nrm (xs c)) (2 ^ (2 * W)) := sI_at (F := fun c => nrm (xs c)) (2 ^ (2 * W)) (fun i _ => nrm0 (xs i)) c hc
  have p : (2 : Int) ^ K ≤ 2 ^ 108 := by
    have : (2 : Nat) ^ K ≤ 2 ^ 108 := Nat.pow_le_pow_right (by decide) hK
    have e : ((2 ^ K : Nat) : Int) ≤ ((2 ^ 108 : Nat) : Int) := Int.ofNat_le.mpr this
    rw [Int.natCast_pow, Int.natCast_pow] at e
    exact e
  exact nrm_54 (Int.le_trans a (Int.le_trans s p))
end SPP
section SPQ
variable {ac : Nat → ClassId} {lo : Nat} {ad as : Nat → Nat} {b L : Nat} {xs : Nat → Int32} {hp : mm_M → Nat → xm_H} {I J : mm_M → Prop}
theorem pr_spoil (H : mm_L ac lo hp) (h1 : ∀ M, I M → de_z M) (hJ0 : ∀ M, I M → J (th0 M)) (hJ : ∀ M N W K x r y k b, I M → de_d M W K x → r < W → y < 4 → k < 17 → b < 6 → M.1 104 3 = nI b → soG (spM M (2 ^ (2 * W)) b (K + spQ y) (spN W r y k x)) N b → de_d N W (K + spQ y) (spN W r y k x) → de_k N (K + spQ y) → J N) (p q s : Int32) : la_I ac lo ad as b L xs hp I J nm_X11_spoil nm_X12_spoil [.int p, .int q, .int s] := by
  refine am_la_I (us := [aI p, aI q, aI s]) H fun M hI => ?_
  rcases h1 M hI with ⟨h104, h88⟩ | ⟨W, K, x, h, a, b, a24, b6, ka, kb, kK⟩
  · have no : ¬ okP (M.1 104 1) p q s := fun z => by
      rw [h104] at z
      exact z.1.2 (Int32.not_lt.mp z.1.1)
    refine am_wk (soX_0 (d := 997) (Or.inl no)) fun t M1 e => ⟨_, e.1, ?_⟩
    rw [e.2]
    exact am_wk (soR_0 (d := 999) (Or.inl h88)) fun t M2 e => ⟨e.1, by rw [e.2]; exact hJ0 M hI⟩
  · have e4 := h.2.2.2.1
    have e5 := h.2.2.2.2.1
    have e90 : M.1 108 90 = nI b := h.2.2.2.2.2.2.2.2.1.symm.trans kb
    have hW := h.2.1
    by_cases ok : okP (nI W) p q s ∧ b < 6
    · obtain ⟨ho, b5⟩ := ok
      obtain ⟨r, y, k, rfl, hr, rfl, hy, rfl, hk⟩ := okP_n hW ho
      have q12 : spQ y ≤ 12 := by
        unfold spQ
        by_cases c : y = 0
        · rw [if_pos c]; decide
        · rw [if_neg c]; decide
      refine am_wk (soX_1 (d := 997) h hr hy hk kb b5 ho) fun t M1 e => ⟨_, e.1, ?_⟩
      rw [e.2]
      refine am_wk (soR_1 (d := 995) (M := spM M (2 ^ (2 * W)) b (K + spQ y) (spN W r y k x)) (xs := x) hW hr hy hk (K := K) (by omega) e5 e90 b5 ho (fun c hc => de_54 h (by omega) hc) (fun i j hi hj => ?_)) ?_
      · have := (at_rf (by have := (vr_red K (x (i + 2 ^ W * j))).1; omega)).mp (h.2.2.2.2.2.2.2.2.2.2.1 i j hi hj)
        exact this
      · rintro t M2 ⟨rfl, g1, g2⟩
        have D := sp_d h hr hy hk (by omega) g1 g2
        refine ⟨rfl, hJ M M2 W K x r y k b hI h hr hy hk b5 kb g1 D ⟨a, b + 1, a24, by omega, ?_, ?_, by omega⟩⟩
        · rw [g1.1 104 (by decide)]
          exact ka
        · rw [g1.1 104 (by decide)]
          rfl
    · have no : ¬ okP (M.1 104 1) p q s ∨ M.1 104 3 = nI 6 := by
        rw [e4]
        by_cases c : okP (nI W) p q s
        · refine Or.inr ?_
          rw [kb, show b = 6 by
            have : ¬ b < 6 := fun z => ok ⟨c, z⟩
            omega]
        · exact Or.inl c
      have no2 : M.1 108 88 = -1 ∨ ¬ okP (M.1 108 88) p q s ∨ M.1 108 90 = nI 6 := by
        rw [e4, kb] at no
        rw [e5, e90]
        exact Or.inr no
      refine am_wk (soX_0 (d := 997) no) fun t M1 e => ⟨_, e.1, ?_⟩
      rw [e.2]
      exact am_wk (soR_0 (d := 999) no2) fun t M2 e => ⟨e.1, by rw [e.2]; exact hJ0 M hI⟩
end SPQ
