/-! SHORTEST: the reference walks back to the start -/
def ltF (M N : mm_M) : Prop := (∀ k, k ≠ 140 → N.1 k = M.1 k) ∧ N.2 = M.2
def pth (N : mm_M) (r : List Nat) : Prop := ∀ j, j < r.length → N.1 140 j = nI (r.getD j 0)
theorem gd_l {r : List Nat} {y j : Nat} (h : j < r.length) : (r ++ [y]).getD j 0 = r.getD j 0 := by
  rw [List.getD_eq_getElem?_getD, List.getD_eq_getElem?_getD, List.getElem?_append_left h]
theorem gd_r {r : List Nat} {y : Nat} : (r ++ [y]).getD r.length 0 = y := by
  rw [List.getD_eq_getElem?_getD, List.getElem?_append_right (Nat.le_refl _), Nat.sub_self]
  rfl
section SHM
variable {d : Nat} {M : mm_M} {n : Nat} {T : Nat → K4} {fr yb B : Nat → Nat} {W : List Nat}
set_option maxRecDepth 100000 in
theorem lt_1 {P : am_Q} {X : am_X} {v1 : Int32} (hX : am_K (d + 1) false nm_X12_layTwo P X) (hI : fwI M n T fr yb B n 0) (hW : W.length ≤ 14) (hK : ∀ N r, ltF M N → pth N r → r.reverse = W → X 33 [some (aR 108), some (aI v1), some (aI (nI r.length)), some (aI (nI 0))] [] N) : ∀ (m i : Nat) (r : List Nat) (N : mm_M), i ≤ m → i < n → ltF M N → pth N r → wdB fr yb i i ++ r.reverse = W → X 4 [some (aR 108), some (aI v1), some (aI (nI r.length)), some (aI (nI i))] [] N := by
  have n11 := hI.2.1.2.1
  have h0 : ∀ (r : List Nat) (N : mm_M), ltF M N → pth N r → wdB fr yb 0 0 ++ r.reverse = W → X 4 [some (aR 108), some (aI v1), some (aI (nI r.length)), some (aI (nI 0))] [] N := by
    intro r N hF hp e
    refine am_run hX 2 _ _ _ _ ?_
    conv => whnf
    refine ⟨fun _ => ?_, fun z => absurd (by decide) z⟩
    exact hK N r hF hp e
  intro m
  induction m with
  | zero =>
    intro i r N hi hin hF hp e
    obtain rfl : i = 0 := by omega
    exact h0 r N hF hp e
  | succ m ih =>
    intro i r N hi hin hF hp e
    by_cases i0 : i = 0
    · subst i0
      exact h0 r N hF hp e
    · have fi := bf_f hI.1 i (by omega) hin
      have ew := wd_s (yb := yb) (bf_f hI.1) (show 0 < i by omega) hin
      have hr : r.length < 64 := by
        have := congrArg List.length e
        rw [List.length_append, List.length_reverse] at this
        omega
      have e8 : N.1 138 i = nI (yb i) := by rw [hF.1 138 (by decide)]; exact hI.2.2.2.2.1 i hin
      have e7 : M.1 137 i = nI (fr i) := hI.2.2.2.1 i (by omega) hin
      refine am_run hX 2 _ _ _ _ ?_
      conv => whnf
      refine ⟨fun z => absurd z (nI_ge (a := 0) (b := i) (by omega) (by omega)), fun _ => ?_⟩
      refine am_run hX 8 _ _ _ _ ?_
      conv => whnf
      refine ⟨vp_in_nI (by show i < 11520; omega) (by decide), ?_⟩
      conv => whnf
      rw [nI_clamp (n := i) (by omega), e8]
      refine ⟨vp_in_nI (by show r.length < 64; omega) (by decide), ?_⟩
      rw [nI_clamp (n := r.length) (by omega)]
      generalize hN1 : mm_i N 140 _ = N1
      have f1 : ltF M N1 := ⟨fun k hk => by rw [← hN1, mm_ne _ _ _ _ hk]; exact hF.1 k hk, by rw [← hN1]; exact hF.2⟩
      refine am_run hX 7 _ _ _ _ ?_
      conv => whnf
      refine ⟨vp_in_nI (by show i < 11520; omega) (by decide), ?_⟩
      conv => whnf
      rw [nI_clamp (n := i) (by omega), f1.1 137 (by decide), e7, nI_1]
      have key := ih (fr i) (r ++ [yb i]) N1 (by omega) (by omega) f1 (fun j hj => by
        rw [← hN1, mm_i1]
        rw [List.length_append] at hj
        have hj : j < r.length + 1 := hj
        by_cases q : j = r.length
        · rw [q, gd_r]
          exact up_at
        · rw [up_ne q, gd_l (by omega)]
          exact hp j (by omega)) (by
        rw [List.reverse_append]
        show wdB fr yb (fr i) (fr i) ++ ([yb i] ++ r.reverse) = W
        rw [← List.append_assoc, ← ew]
        exact e)
      rw [List.length_append] at key
      exact key
end SHM
