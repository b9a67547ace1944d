/-! THE REFERENCE'S addSum -/
section ADR
variable {d : Nat} {M : mm_M} {sg : Int32}
/-- the reference finds it too far -/
def farR (A X : SU) : Prop := (0 < A.1 ∧ 21 < max A.2.1 X.2.1 - A.2.1) ∨ (0 < X.1 ∧ 21 < max A.2.1 X.2.1 - X.2.1)
set_option maxRecDepth 100000 in
theorem ct_tooR {x s h m : Nat} (hx : x < 2) (hs : M.1 141 x = nI s) (hh : M.1 142 x = nI h) (s2 : s ≤ 150) (hm : h ≤ m) (m2 : m < 2 ^ 30) : am_M (d + 1) false nm_X12_isTooFar [aR 108, aI (nI x), aI (nI m)] M (am_q1 (aI (b01 (decide (0 < s ∧ 21 < m - h)))) M) := by
  have hin : vp_in (nI x) 2 := vp_in_nI hx (by decide)
  refine ⟨rfl, rfl, rfl, fun X hX => am_run hX 30 _ _ _ _ ?_⟩
  conv => whnf
  refine ⟨hin, ?_⟩
  conv => whnf
  rw [nI_clamp (n := x) (by omega), hs]
  by_cases h0 : 0 < s
  · refine ⟨fun c => absurd c (nI_ge (a := 0) (b := s) h0 (by omega)), fun _ => ?_⟩
    conv => whnf
    refine ⟨hin, ?_⟩
    conv => whnf
    rw [nI_clamp (n := x) (by omega), hh, nI_sub hm]
    by_cases h4 : 21 < m - h
    · refine ⟨fun c => absurd c (nI_ge (a := 21) (b := m - h) h4 (by omega)), fun _ => ?_⟩
      conv => whnf
      rw [decide_eq_true ⟨h0, h4⟩]
      exact ⟨rfl, rfl, rfl⟩
    · refine ⟨fun _ => ?_, fun c => absurd (nI_le (a := m - h) (b := 21) (by omega) (by decide)) c⟩
      conv => whnf
      rw [decide_eq_false (fun z => h4 z.2)]
      exact ⟨rfl, rfl, rfl⟩
  · have e : s = 0 := by omega
    rw [decide_eq_false (fun z => h0 z.1), e]
    refine ⟨fun _ => ?_, fun c => absurd (by decide) c⟩
    conv => whnf
    exact ⟨rfl, rfl, rfl⟩
theorem rs_k {x : Nat} {S : SU} (h : rsS M x S) (o : orS S) : ∀ j, j < S.1 → S.2.2.1 j < 65536 ∧ M.1 143 (150 * x + j) = nI (S.2.2.1 j) ∧ M.1 144 (150 * x + j) = S.2.2.2.1 j ∧ M.1 145 (150 * x + j) = S.2.2.2.2 j := fun j hj => ⟨o.2.2.2 j hj, h.2.2 j hj⟩
set_option maxRecDepth 100000 in
theorem ct_addR {A B : SU} {c : Nat} {κ : Nat → Nat} (h1 : rsS M 0 A) (h2 : rsS M 1 B) (oA : orS A) (oB : orS B) (hw : wkM M) (he : ¬ farR A B → enX (suP (max A.2.1 B.2.1) sg A B) (suQ (max A.2.1 B.2.1) sg A B) c κ) : am_M (d + 4) false nm_X12_addSum [aR 108, aI sg] M (fun r M' => (farR A B ∧ r = .inl (some (aI (-1))) ∧ M' = M) ∨ (¬ farR A B ∧ ssE M (suP (max A.2.1 B.2.1) sg A B) (suQ (max A.2.1 B.2.1) sg A B) (max A.2.1 B.2.1) c κ r M')) := by
  obtain ⟨n0, kk0, hn0, hw⟩ := hw
  have h0 : vp_in 0 2 := vp_in_nI (n := 0) (N := 2) (by decide) (by decide)
  have i1 : vp_in 1 2 := vp_in_nI (n := 1) (N := 2) (by decide) (by decide)
  have u1 := oA.2.1
  have u2 := oB.2.1
  have t1 := oA.1
  have t2 := oB.1
  have f1 : ∀ {s h m : Nat}, decide (0 < s ∧ 21 < m - h) = true ↔ (0 < s ∧ 21 < m - h) := decide_eq_true_iff
  refine ⟨rfl, rfl, rfl, fun X hX => ?_⟩
  -- from 31 on
  have k31 : ∀ m, m = max A.2.1 B.2.1 → X 31 [some (aR 108), some (aI sg), some (aI (nI m))] [] M := by
    intro m hm
    rw [← hm] at hX he
    refine am_run hX 12 _ _ _ _ ?_
    conv => whnf
    refine am_c1 (ct_tooR (d := d + 2) (x := 0) (by decide) h1.1 h1.2.1 t1 (by omega) (by omega)) ?_
    cases k1 : decide (0 < A.1 ∧ 21 < m - A.2.1) with
    | true =>
      conv => whnf
      refine ⟨fun _ => ?_, fun z => absurd (by decide) z⟩
      conv => whnf
      exact ⟨trivial, Or.inl ⟨Or.inl (by rw [← hm]; exact f1.mp k1), rfl, rfl⟩⟩
    | false =>
      conv => whnf
      refine ⟨fun z => absurd rfl z, fun _ => ?_⟩
      conv => whnf
      refine am_c1 (ct_tooR (d := d + 2) (x := 1) (by decide) h2.1 h2.2.1 t2 (by omega) (by omega)) ?_
      cases k2 : decide (0 < B.1 ∧ 21 < m - B.2.1) with
      | true =>
        conv => whnf
        refine ⟨fun z => absurd z (by decide), fun _ => ?_⟩
        conv => whnf
        exact ⟨trivial, Or.inl ⟨Or.inr (by rw [← hm]; exact f1.mp k2), rfl, rfl⟩⟩
      | false =>
        have nf : ¬ farR A B := fun z => by
          unfold farR at z
          rw [← hm] at z
          exact z.elim (fun y => absurd y (of_decide_eq_false k1)) (fun y => absurd y (of_decide_eq_false k2))
        have he := he nf
        -- settle
        have k87 : ∀ n q t f g kk, wkO n q t f g kk → (∀ x, x < 65536 → f x = suP m sg A B x ∧ g x = suQ m sg A B x) → X 87 [some (aR 108), some (aI sg), some (aI (nI m))] [] (wF M n q t f g) := by
          intro n q t f g kk hw hf
          refine am_run hX 20 _ _ _ _ ?_
          conv => whnf
          refine am_cq (ct_ssumR (d := d) (M := M) hw (over := m) (by omega) hf he) ?_
          intro r M' hE
          have hE' := hE
          obtain ⟨_, _, _, h | h⟩ := hE'
          · obtain ⟨_, rfl, _⟩ := h
            refine ⟨_, rfl, ?_⟩
            conv => whnf
            exact ⟨trivial, Or.inr ⟨nf, hE⟩⟩
          · obtain ⟨_, rfl, _⟩ := h
            refine ⟨_, rfl, ?_⟩
            conv => whnf
            exact ⟨trivial, Or.inr ⟨nf, hE⟩⟩
        -- the second is brought
        have k71 : ∀ n q t kk f0 g0, n ≤ A.1 → (∀ x, x < 65536 → f0 x = 0 ∧ g0 x = 0) → wkO n q t (brF A.2.2.1 (shA (m - A.2.1)) A.2.2.2.1 f0 A.1) (brF A.2.2.1 (shA (m - A.2.1)) A.2.2.2.2 g0 A.1) kk → X 71 [some (aR 108), some (aI sg), some (aI (nI m))] [] (wF M n q t (brF A.2.2.1 (shA (m - A.2.1)) A.2.2.2.1 f0 A.1) (brF A.2.2.1 (shA (m - A.2.1)) A.2.2.2.2 g0 A.1)) := by
          intro n q t kk f0 g0 hn hz hw
          have fin : ∀ x, x < 65536 → brF B.2.2.1 (sg.toInt64 <<< ((nI (m - B.2.1)).toInt64 &&& 63)) B.2.2.2.1 (brF A.2.2.1 (shA (m - A.2.1)) A.2.2.2.1 f0 A.1) B.1 x = suP m sg A B x ∧ brF B.2.2.1 (sg.toInt64 <<< ((nI (m - B.2.1)).toInt64 &&& 63)) B.2.2.2.2 (brF A.2.2.1 (shA (m - A.2.1)) A.2.2.2.2 g0 A.1) B.1 x = suQ m sg A B x := fun x hx => by
            rw [brF_l B.1 (ris_i oB.2.2.1), brF_l B.1 (ris_i oB.2.2.1), brF_l A.1 (ris_i oA.2.2.1), brF_l A.1 (ris_i oA.2.2.1), (hz x hx).1, (hz x hx).2, Int64.zero_add, Int64.zero_add]
            exact ⟨rfl, rfl⟩
          refine am_run hX 5 _ _ _ _ ?_
          conv => whnf
          refine ⟨i1, ?_⟩
          conv => whnf
          rw [show (wF M n q t (brF A.2.2.1 (shA (m - A.2.1)) A.2.2.2.1 f0 A.1) (brF A.2.2.1 (shA (m - A.2.1)) A.2.2.2.2 g0 A.1)).1 141 (Int32.toNatClampNeg 1) = nI B.1 from h2.1]
          by_cases hB : 0 < B.1
          · refine ⟨fun c => absurd c (nI_ge (a := 0) (b := B.1) hB (by omega)), fun _ => ?_⟩
            refine am_run hX 5 _ _ _ _ ?_
            conv => whnf
            refine am_cq (ct_bring (d := d + 1) (M := M) (x := 1) (s := B.1) (h := B.2.1) (o := 150 * 1) (κ := B.2.2.1) (R := B.2.2.2.1) (I := B.2.2.2.2) (ov := m) (by decide) t2 rfl h2.1 h2.2.1 (by omega) (by omega) (rs_k h2 oB) (by omega) hw) ?_
            rintro r M' ⟨rfl, n2, q2, t2, kk2, hn2, hw2, rfl⟩
            refine ⟨none, rfl, ?_⟩
            conv => whnf
            exact k87 _ _ _ _ _ _ hw2 fin
          · have e : B.1 = 0 := by omega
            refine ⟨fun _ => ?_, fun c => absurd (by rw [e]; decide) c⟩
            rw [e] at fin
            exact k87 _ _ _ _ _ _ hw fin
        conv => whnf
        refine ⟨fun _ => ?_, fun z => absurd rfl z⟩
        conv => whnf
        have hcl := ct_clrR (d := d + 2) (M := M) hw
        rw [wF_self hn0] at hcl
        refine am_cq hcl ?_
        rintro r M' ⟨rfl, tc, fc, gc, hz, rfl⟩
        refine ⟨none, rfl, ?_⟩
        conv => whnf
        refine am_run hX 5 _ _ _ _ ?_
        conv => whnf
        refine ⟨h0, ?_⟩
        conv => whnf
        rw [show (wF M 0 (M.1 149) tc fc gc).1 141 (Int32.toNatClampNeg 0) = nI A.1 from h1.1]
        by_cases hA : 0 < A.1
        · refine ⟨fun c => absurd c (nI_ge (a := 0) (b := A.1) hA (by omega)), fun _ => ?_⟩
          refine am_run hX 5 _ _ _ _ ?_
          conv => whnf
          refine am_cq (ct_bring (d := d + 1) (M := M) (x := 0) (s := A.1) (h := A.2.1) (o := 150 * 0) (κ := A.2.2.1) (R := A.2.2.2.1) (I := A.2.2.2.2) (ov := m) (kk := fun _ => 0) (by decide) t1 rfl h1.1 h1.2.1 (by omega) (by omega) (rs_k h1 oA) (by omega) (wkO_0 hz)) ?_
          rintro r M' ⟨rfl, n2, q2, t2, kk2, hn2, hw2, rfl⟩
          refine ⟨none, rfl, ?_⟩
          conv => whnf
          exact k71 _ _ _ _ fc gc (by omega) (fun x hx => ⟨(hz x hx).2.1, (hz x hx).2.2⟩) hw2
        · have e : A.1 = 0 := by omega
          have k71' := k71 0 (M.1 149) tc (fun _ => 0) fc gc (by omega) (fun x hx => ⟨(hz x hx).2.1, (hz x hx).2.2⟩)
          rw [e] at k71'
          refine ⟨fun _ => ?_, fun c => absurd (by rw [e]; decide) c⟩
          exact k71' (wkO_0 hz)
  refine am_run hX 9 _ _ _ _ ?_
  conv => whnf
  refine ⟨h0, ?_⟩
  conv => whnf
  refine ⟨i1, ?_⟩
  conv => whnf
  rw [show M.1 142 (Int32.toNatClampNeg 0) = nI A.2.1 from h1.2.1, show M.1 142 (Int32.toNatClampNeg 1) = nI B.2.1 from h2.2.1]
  by_cases c : A.2.1 ≤ B.2.1
  · refine ⟨fun _ => ?_, fun z => absurd (nI_le c (by omega)) z⟩
    refine am_run hX 5 _ _ _ _ ?_
    conv => whnf
    refine ⟨i1, ?_⟩
    conv => whnf
    rw [show M.1 142 (Int32.toNatClampNeg 1) = nI B.2.1 from h2.2.1]
    exact k31 _ (by omega)
  · refine ⟨fun z => absurd z (nI_ge (by omega) (by omega)), fun _ => ?_⟩
    refine am_run hX 6 _ _ _ _ ?_
    conv => whnf
    refine ⟨h0, ?_⟩
    conv => whnf
    rw [show M.1 142 (Int32.toNatClampNeg 0) = nI A.2.1 from h1.2.1]
    exact k31 _ (by omega)
end ADR
