/-! THE CLASS'S merge and add; the pair's tests of what is too far -/
section ADC
variable {d : Nat} {M : mm_M} {a b xr xp sA hA sX hX : Nat} {κA κX : Nat → Nat} {RA IA RX IX : Nat → Int32} {sg : Int32}
theorem fF_self {n : Nat} : mm_i M 83 (upd (M.1 83) 11 (nI n)) = fF M n (M.1 98) (M.2 99) (M.2 100) := by
  refine Prod.ext (funext fun k => ?_) (funext fun k => ?_)
  · by_cases h1 : k = 83
    · subst h1; rfl
    · by_cases h2 : k = 98
      · subst h2; rfl
      · simp [fF, mm_i, mm_l, h1, h2]
  · by_cases h1 : k = 99
    · subst h1; rfl
    · by_cases h2 : k = 100
      · subst h2; rfl
      · simp [fF, mm_i, mm_l, h1, h2]
/-- the numbers of a SUM and another, brought over the same halves -/
def suP (m : Nat) (sg : Int32) (A X : SU) : Nat → Int64 := adP (shA (m - A.2.1)) (sg.toInt64 <<< ((nI (m - X.2.1)).toInt64 &&& 63)) (A.1, A.2.2.1, A.2.2.2.1) (X.1, X.2.2.1, X.2.2.2.1)
def suQ (m : Nat) (sg : Int32) (A X : SU) : Nat → Int64 := adP (shA (m - A.2.1)) (sg.toInt64 <<< ((nI (m - X.2.1)).toInt64 &&& 63)) (A.1, A.2.2.1, A.2.2.2.2) (X.1, X.2.2.1, X.2.2.2.2)
/-- rows in order -/
def orS (S : SU) : Prop := S.1 ≤ 150 ∧ S.2.1 ≤ 60 ∧ (∀ i j, i < j → j < S.1 → S.2.2.1 i < S.2.2.1 j) ∧ ∀ i, i < S.1 → S.2.2.1 i < 65536
theorem okS_or {S : SU} (h : okS S) : orS S := ⟨h.1, h.2.1, h.2.2.1, fun i hi => (h.2.2.2.1 i hi).1⟩
set_option maxRecDepth 100000 in
theorem ct_merge {m : Nat} {A B : SU} (ha : a < 2) (hx : xr = 1 ∧ xp = 0 ∨ xr = 1 ∧ xp = 1 ∨ xr = 2 ∧ xp = 2) (e0 : M.1 84 0 = nI a ∧ M.1 88 0 = nI a ∧ M.1 92 0 = nI a) (ex : M.1 84 xr = nI xp ∧ M.1 88 xr = nI xp ∧ M.1 92 xr = nI xp) (h1 : csS M a 0 A) (h2 : csS M xp xr B) (oA : orS A) (oB : orS B) (m1 : A.2.1 ≤ m) (m2 : B.2.1 ≤ m) : am_M (d + 2) false nm_X9_merge [aR 83, aI (nI xr), aI (nI m), aI sg] M (fun r M' => r = .inl none ∧ ∃ n κ q f g, n ≤ A.1 + B.1 ∧ fnd (suP m sg A B) (suQ m sg A B) 65536 n κ q f g ∧ M' = fF M n q f g) := by
  refine ⟨rfl, rfl, rfl, fun X hX => am_run hX 7 _ _ _ _ ?_⟩
  conv => whnf
  rw [show (0 : Int32) = nI 0 from rfl, fF_self]
  exact mg_l (d := d) (M := M) hX ha hx e0 ex (sA := A.1) (hA := A.2.1) (κA := A.2.2.1) (RA := A.2.2.2.1) (IA := A.2.2.2.2) (sX := B.1) (hX := B.2.1) (κX := B.2.2.1) (RX := B.2.2.2.1) (IX := B.2.2.2.2) h1 h2 oA.1 oB.1 m1 m2 oA.2.2.1 oB.2.2.1 oA.2.2.2 oB.2.2.2 rfl rfl (fun n κ q f g hn hF => ⟨rfl, n, κ, q, f, g, hn, hF, rfl⟩) _ 0 0 0 0 (fun _ => 0) _ _ _ none none none none none none rfl (Nat.zero_le _) (Nat.zero_le _) (Nat.zero_le _) (Nat.zero_le _) fnd_0 (fun b _ _ => Nat.zero_le _) (fun b _ _ => Nat.zero_le _) (fun b hb => absurd hb (Nat.not_lt_zero _)) (fun b hb => absurd hb (Nat.not_lt_zero _))
/-- the class finds it too far -/
def farC (A X : SU) : Prop := (0 < A.1 ∧ 40 < max A.2.1 X.2.1 - A.2.1) ∨ (0 < X.1 ∧ 40 < max A.2.1 X.2.1 - X.2.1)
set_option maxRecDepth 100000 in
theorem ct_addC {A B : SU} (hr : sm_r M a b) (hx : xr = 1 ∧ xp = b ∨ xr = 2 ∧ xp = 2) (h1 : csS M a 0 A) (h2 : csS M xp xr B) (oA : orS A) (oB : orS B) : am_M (d + 4) false nm_X9_add [aR 83, aI (nI xr), aI sg] M (fun r M' => (farC A B ∧ r = .inl (some (aI 0)) ∧ M' = M) ∨ (¬ farC A B ∧ ∃ c κ, enX (suP (max A.2.1 B.2.1) sg A B) (suQ (max A.2.1 B.2.1) sg A B) c κ ∧ csE M a b (suP (max A.2.1 B.2.1) sg A B) (suQ (max A.2.1 B.2.1) sg A B) (max A.2.1 B.2.1) c κ r M')) := by
  have hr0 := hr
  obtain ⟨hab, ⟨a1, a2, a3⟩, ⟨b1, b2, b3⟩, ⟨c1, c2, c3⟩⟩ := hr
  have hx3 : xr < 3 := by omega
  have hx2 : xr = 1 ∧ xp = 0 ∨ xr = 1 ∧ xp = 1 ∨ xr = 2 ∧ xp = 2 := by omega
  have ex : M.1 84 xr = nI xp ∧ M.1 88 xr = nI xp ∧ M.1 92 xr = nI xp := by
    rcases hx with ⟨rfl, rfl⟩ | ⟨rfl, rfl⟩
    · exact ⟨a2, b2, c2⟩
    · exact ⟨a3, b3, c3⟩
  have h0 : vp_in 0 3 := vp_in_nI (n := 0) (N := 3) (by decide) (by decide)
  have hin : vp_in (nI xr) 3 := vp_in_nI hx3 (by decide)
  have u1 := oA.2.1
  have u2 := oB.2.1
  have t1 := oA.1
  have t2 := oB.1
  have f1 : ∀ {s h m : Nat}, decide (0 < s ∧ 40 < m - h) = true ↔ (0 < s ∧ 40 < m - h) := decide_eq_true_iff
  refine ⟨rfl, rfl, rfl, fun X hX => am_run hX 60 _ _ _ _ ?_⟩
  conv => whnf
  refine ⟨h0, ?_⟩
  conv => whnf
  refine ⟨hin, ?_⟩
  conv => whnf
  rw [nI_clamp (n := xr) (by omega), show M.1 97 (Int32.toNatClampNeg 0) = nI A.2.1 from h1.2.1, h2.2.1, nI_max (by omega) (by omega)]
  refine am_c1 (ct_tooFar (d := d + 2) (x := 0) (by decide) h1.1 h1.2.1 t1 (Nat.le_max_left _ _) (by omega)) ?_
  cases k1 : decide (0 < A.1 ∧ 40 < max A.2.1 B.2.1 - A.2.1) with
  | true =>
    conv => whnf
    refine ⟨fun _ => ?_, fun z => absurd (by decide) z⟩
    conv => whnf
    exact ⟨rfl, Or.inl ⟨Or.inl (f1.mp k1), rfl, rfl⟩⟩
  | false =>
    conv => whnf
    refine ⟨fun z => absurd rfl z, fun _ => ?_⟩
    conv => whnf
    refine am_c1 (ct_tooFar (d := d + 2) hx3 h2.1 h2.2.1 t2 (Nat.le_max_right _ _) (by omega)) ?_
    cases k2 : decide (0 < B.1 ∧ 40 < max A.2.1 B.2.1 - B.2.1) with
    | true =>
      conv => whnf
      refine ⟨fun z => absurd z (by decide), fun _ => ?_⟩
      conv => whnf
      exact ⟨rfl, Or.inl ⟨Or.inr (f1.mp k2), rfl, rfl⟩⟩
    | false =>
      have nf : ¬ farC A B := fun z => z.elim (fun y => absurd y (of_decide_eq_false k1)) (fun y => absurd y (of_decide_eq_false k2))
      conv => whnf
      refine ⟨fun _ => ?_, fun z => absurd rfl z⟩
      conv => whnf
      refine am_cq (ct_merge (d := d + 1) (M := M) (A := A) (B := B) (by omega) hx2 ⟨a1, b1, c1⟩ ex h1 h2 oA oB (Nat.le_max_left _ _) (Nat.le_max_right _ _)) ?_
      rintro r M' ⟨rfl, n, κ, q, f, g, hn, hF, rfl⟩
      refine ⟨none, rfl, ?_⟩
      conv => whnf
      refine am_cq (ct_stlR (d := d) (M := M) hr0 (over := max A.2.1 B.2.1) (by omega) (by omega) hF) ?_
      intro r M' hE
      have hE' := hE
      obtain ⟨_, _, _, h | h⟩ := hE'
      · obtain ⟨_, rfl, _⟩ := h
        refine ⟨_, rfl, ?_⟩
        conv => whnf
        exact ⟨rfl, Or.inr ⟨nf, n, κ, fnd_e hF (Nat.le_refl _) (fun _ => rfl), hE⟩⟩
      · obtain ⟨_, rfl, _⟩ := h
        refine ⟨_, rfl, ?_⟩
        conv => whnf
        exact ⟨rfl, Or.inr ⟨nf, n, κ, fnd_e hF (Nat.le_refl _) (fun _ => rfl), hE⟩⟩
end ADC
