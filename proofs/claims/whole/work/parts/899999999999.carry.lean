/-! A PAULI CARRIED THROUGH AN OP: the class's carryThrough -/
def stq (x : bk_X) (σ : PZ × Nat) : PZ × Nat := if x.1 < 9 then (fT x σ.1, σ.2) else if x.1 = 10 then ((σ.1.1 ^^^ (σ.1.1 &&& 2 ^ x.2.1), σ.1.2 ^^^ (σ.1.2 &&& 2 ^ x.2.1)), σ.2) else ((σ.1.1, σ.1.2 ^^^ (σ.1.2 &&& 2 ^ x.2.1)), if σ.1.1.testBit x.2.1 = true then σ.2 ||| 2 ^ x.2.2.1 else σ.2 ^^^ (σ.2 &&& 2 ^ x.2.2.1))
theorem an_p (n a : Nat) : n &&& 2 ^ a = 0 ↔ n.testBit a = false := by
  have e : n &&& 2 ^ a = bt n a * 2 ^ a := by
    apply Nat.eq_of_testBit_eq
    intro i
    rw [Nat.testBit_and, tb_p, tb_sh]
    by_cases h : i = a
    · subst h; simp
    · simp [h]
  rw [e, bt_t]
  cases n.testBit a with
  | true =>
    have := Nat.two_pow_pos a
    simp
  | false => simp
theorem p8_T {W : Nat} {x : bk_X} {p : PZ} (hW : W ≤ 8) (ho : ogd W x) (hp : p8 p) : p8 (fT x p) := by
  have ha : x.2.1 < 8 := by have := ho.1.2.1; omega
  have hb := ho.1.2.2.1
  unfold fT
  by_cases h0 : x.2.2.2.1 = 0
  · rw [if_pos h0]
    unfold fk0
    by_cases h3 : x.1 = 3
    · rw [if_pos h3]
      exact p8_H ha hp
    rw [if_neg h3]
    by_cases h4 : x.1 = 4
    · rw [if_pos h4]
      exact p8_S ha hp
    rw [if_neg h4]
    by_cases h6 : x.1 = 6
    · rw [if_pos h6]
      exact p8_S ha hp
    rw [if_neg h6]
    by_cases h8 : x.1 = 8
    · rw [if_pos h8]
      exact p8_W ha hb hp
    rw [if_neg h8]
    exact hp
  · rw [if_neg h0]
    obtain ⟨l8, _⟩ := lw_w hW ho h0
    unfold fk1
    by_cases h1 : x.1 = 0
    · rw [if_pos h1]
      exact p8_C l8 ha hp
    rw [if_neg h1]
    by_cases h2 : x.1 = 1
    · rw [if_pos h2]
      exact p8_S ha (p8_C l8 ha (p8_S ha hp))
    rw [if_neg h2]
    exact p8_H ha (p8_C l8 ha (p8_H ha hp))
theorem p8_s {W : Nat} {x : bk_X} {σ : PZ × Nat} (hW : W ≤ 8) (ho : ogd W x) (hp : p8 σ.1) : p8 (stq x σ).1 := by
  unfold stq
  by_cases h9 : x.1 < 9
  · rw [if_pos h9]
    exact p8_T hW ho hp
  rw [if_neg h9]
  by_cases h10 : x.1 = 10
  · rw [if_pos h10]
    exact ⟨ax_lt hp.1, ax_lt hp.2⟩
  rw [if_neg h10]
  exact ⟨hp.1, ax_lt hp.2⟩
theorem p8_rw {y : RW} (h : p8 (pz y)) (h2 : y.2.2 < 2) : rw_ok y := by
  obtain ⟨a, b⟩ := h
  have a : y.1 < 2 ^ 8 := a
  have b : y.2.1 < 2 ^ 8 := b
  exact ⟨by omega, by omega, h2⟩
theorem okB_p {x : bk_X} (h : okB x = true) (h9 : x.1 < 9) : pln x := by
  unfold okB at h
  rw [decide_eq_false (show ¬ 9 ≤ x.1 by omega), Bool.and_eq_true] at h
  exact plB_p h.2
section CRR
variable {d : Nat} {N : mm_M}
theorem wD_z {y : RW} {z : Nat} : mm_i (wD N 0 y) 31 (upd ((wD N 0 y).1 31) 0 (nI z)) = wD N 0 (y.1, z, y.2.2) := by
  refine wD_of rfl ?_ ?_ ?_ (fun k k6 k7 k8 => by simp [wD, mm_i, k6, k7, k8])
  · simp [wD, mm_i]
  · simp [wD, mm_i, upd_two]
  · simp [wD, mm_i]
theorem wD_x {y : RW} {z : Nat} : mm_i (wD N 0 y) 30 (upd ((wD N 0 y).1 30) 0 (nI z)) = wD N 0 (z, y.2.1, y.2.2) := by
  refine wD_of rfl ?_ ?_ ?_ (fun k k6 k7 k8 => by simp [wD, mm_i, k6, k7, k8])
  · simp [wD, mm_i, upd_two]
  · simp [wD, mm_i]
  · simp [wD, mm_i]
theorem c0_0 : Int32.toNatClampNeg 0 = 0 := rfl
theorem i1_0 : vp_in 0 1 := vp_in_nI (show 0 < 1 by decide) (by decide)
set_option maxRecDepth 100000 in
theorem ct_carry {W o : Nat} {x : bk_X} {y : RW} (hW : W ≤ 8) (ho : ogd W x) (hok : okB x = true) (h3 : N.1 29 3 = nI 1) (h4 : N.1 29 4 = 0) (hy : rw_ok y) : am_M (d + 5) false nm_X11_carryThrough [aR 0, aI (nI (bk_p x)), aI (nI o)] (wD N 0 y) (fun r M' => r = .inl (some (aI (nI (stq x (pz y, o)).2))) ∧ ∃ y', pz y' = (stq x (pz y, o)).1 ∧ y'.2.2 < 2 ∧ M' = wD N 0 y') := by
  have ow := ho.1
  have hk10 := ow.1
  have hw8 := ow.2.1
  have hs8 := ow.2.2.1
  refine ⟨rfl, rfl, rfl, fun X hX => am_run hX 80 _ _ _ _ ?_⟩
  conv => whnf
  refine am_c1 (ct_kind (d := d + 3)) ?_
  rw [bk_k hW ow]
  conv => whnf
  by_cases h9 : x.1 < 9
  · have e : stq x (pz y, o) = (fT x (pz y), o) := by
      unfold stq
      rw [if_pos h9]
    rw [e]
    refine ⟨fun c => absurd c (nI_ge (a := x.1) (b := 9) h9 (by decide)), fun _ => ?_⟩
    conv => whnf
    refine am_cq (ct_tbO (d := d) (N := wD N 0 y) (y := y) hW ho (okB_p hok h9) (show (wD N 0 y).1 29 3 = nI 1 from h3) (show (wD N 0 y).1 29 4 = 0 from h4) rD_w hy) ?_
    rintro r M' ⟨rfl, y', e1, e2, rfl⟩
    refine ⟨none, rfl, ?_⟩
    conv => whnf
    exact ⟨trivial, rfl, y', e1, e2, wD_w⟩
  · refine ⟨fun _ => ?_, fun c => absurd (nI_le (a := 9) (by omega) (by omega)) c⟩
    conv => whnf
    refine am_c1 (ct_wireOf (d := d + 3)) ?_
    rw [bk_wi hW ow]
    conv => whnf
    refine ⟨i1_0, ?_⟩
    conv => whnf
    rw [sh2 _ (by omega)]
    have e0 : (nI y.1 &&& nI (2 ^ x.2.1) = 0) ↔ y.1.testBit x.2.1 = false := by
      rw [nI_and, show (0 : Int32) = nI 0 from rfl, nI_eq (by have : y.1 &&& 2 ^ x.2.1 ≤ y.1 := Nat.and_le_left; have := hy.1; omega) (by decide), an_p]
    rw [c0_0, show (wD N 0 y).1 30 0 = nI y.1 from rD_w.1]
    cases ht : y.1.testBit x.2.1 with
    | false =>
      refine ⟨fun _ => ?_, fun c => absurd (e0.mpr ht) c⟩
      conv => whnf
      refine ⟨i1_0, ?_⟩
      conv => whnf
      refine ⟨i1_0, ?_⟩
      conv => whnf
      rw [c0_0, show (wD N 0 y).1 31 0 = nI y.2.1 from rD_w.2.1, nI_andn, wD_z]
      by_cases h10 : x.1 = 10
      · have e : stq x (pz y, o) = ((y.1 ^^^ (y.1 &&& 2 ^ x.2.1), y.2.1 ^^^ (y.2.1 &&& 2 ^ x.2.1)), o) := by
          unfold stq
          rw [if_neg h9, if_pos h10]
          rfl
        rw [e, h10]
        refine ⟨fun c => absurd rfl c, fun _ => ?_⟩
        conv => whnf
        refine ⟨i1_0, ?_⟩
        conv => whnf
        refine ⟨i1_0, ?_⟩
        conv => whnf
        rw [c0_0, show (wD N 0 (y.1, y.2.1 ^^^ (y.2.1 &&& 2 ^ x.2.1), y.2.2)).1 30 0 = nI y.1 from rD_w.1, nI_andn, wD_x]
        exact ⟨trivial, rfl, (y.1 ^^^ (y.1 &&& 2 ^ x.2.1), y.2.1 ^^^ (y.2.1 &&& 2 ^ x.2.1), y.2.2), rfl, hy.2.2, rfl⟩
      · refine ⟨fun _ => ?_, fun c => absurd ((nI_eq (a := x.1) (b := 10) (by omega) (by decide)).mp (Decidable.byContradiction c)) h10⟩
        conv => whnf
        refine am_c1 (ct_secondOf (d := d + 3)) ?_
        rw [bk_s hW ow]
        conv => whnf
        rw [sh2 _ (by omega)]
        have e : stq x (pz y, o) = ((y.1, y.2.1 ^^^ (y.2.1 &&& 2 ^ x.2.1)), o ^^^ (o &&& 2 ^ x.2.2.1)) := by
          unfold stq
          rw [if_neg h9, if_neg h10, if_neg (show ¬ (pz y).1.testBit x.2.1 = true from fun z => by rw [show (pz y).1 = y.1 from rfl, ht] at z; exact absurd z (by decide))]
          rfl
        rw [e]
        refine ⟨fun _ => ?_, fun c => absurd rfl c⟩
        conv => whnf
        rw [nI_andn]
        exact ⟨trivial, rfl, (y.1, y.2.1 ^^^ (y.2.1 &&& 2 ^ x.2.1), y.2.2), rfl, hy.2.2, rfl⟩
    | true =>
      refine ⟨fun c => absurd (e0.mp c) (by rw [ht]; decide), fun _ => ?_⟩
      conv => whnf
      refine ⟨i1_0, ?_⟩
      conv => whnf
      refine ⟨i1_0, ?_⟩
      conv => whnf
      rw [c0_0, show (wD N 0 y).1 31 0 = nI y.2.1 from rD_w.2.1, nI_andn, wD_z]
      by_cases h10 : x.1 = 10
      · have e : stq x (pz y, o) = ((y.1 ^^^ (y.1 &&& 2 ^ x.2.1), y.2.1 ^^^ (y.2.1 &&& 2 ^ x.2.1)), o) := by
          unfold stq
          rw [if_neg h9, if_pos h10]
          rfl
        rw [e, h10]
        refine ⟨fun c => absurd rfl c, fun _ => ?_⟩
        conv => whnf
        refine ⟨i1_0, ?_⟩
        conv => whnf
        refine ⟨i1_0, ?_⟩
        conv => whnf
        rw [c0_0, show (wD N 0 (y.1, y.2.1 ^^^ (y.2.1 &&& 2 ^ x.2.1), y.2.2)).1 30 0 = nI y.1 from rD_w.1, nI_andn, wD_x]
        exact ⟨trivial, rfl, (y.1 ^^^ (y.1 &&& 2 ^ x.2.1), y.2.1 ^^^ (y.2.1 &&& 2 ^ x.2.1), y.2.2), rfl, hy.2.2, rfl⟩
      · refine ⟨fun _ => ?_, fun c => absurd ((nI_eq (a := x.1) (b := 10) (by omega) (by decide)).mp (Decidable.byContradiction c)) h10⟩
        conv => whnf
        refine am_c1 (ct_secondOf (d := d + 3)) ?_
        rw [bk_s hW ow]
        conv => whnf
        rw [sh2 _ (by omega)]
        have e : stq x (pz y, o) = ((y.1, y.2.1 ^^^ (y.2.1 &&& 2 ^ x.2.1)), o ||| 2 ^ x.2.2.1) := by
          unfold stq
          rw [if_neg h9, if_neg h10, if_pos (show (pz y).1.testBit x.2.1 = true from ht)]
          rfl
        rw [e]
        refine ⟨fun c => absurd c (by decide), fun _ => ?_⟩
        conv => whnf
        rw [nI_or]
        exact ⟨trivial, rfl, (y.1, y.2.1 ^^^ (y.2.1 &&& 2 ^ x.2.1), y.2.2), rfl, hy.2.2, rfl⟩
end CRR
