/-! circuit: the reference lays STATEMENTS -/
/-- a STATEMENT, STATEMENTS can be laid, with b nodes at most to go through -/
def loC (b : Nat) : Prop := ∀ (M : mm_M) (n tl k : Nat) (Q : Nat → Nat × Tr) (Tw : Nat → Nat) (R : Nat → List bk_X) (bs q : Nat) (S : Ev × Tr) (lv : Nat) (inv : Bool) (h : Nat) (m : Nat × Nat) (f : Nat → Nat) (rb : Bool) (wd : Nat) (O : List bk_X) (D : Nat), lyB M n tl k Q Tw R → trH M tl q (jn S) → q + (jn S).length ≤ 133 → lgE Q Tw rb wd bs S.1 → (S.1.1 < 3 → S.2 = []) → (S.1.1 = 3 → ekB Q Tw rb wd bs S.2) → bs + (jn S).length ≤ b → lv + b ≤ 300 → lvF M lv wd f → (rb = false → lv = 0 ∧ inv = false ∧ h = 0) → 3 * b + 6 ≤ D → am_M D false nm_X12_layOne [aR 108, aI (nI q), aI (nI lv), aI (b01 inv), aI (nI h), aI (nI m.1), aI (nI m.2)] (llM M n O) (lyQ M n lv O (ou1 R f inv h m S))
def laC (b : Nat) : Prop := ∀ (M : mm_M) (n tl k : Nat) (Q : Nat → Nat × Tr) (Tw : Nat → Nat) (R : Nat → List bk_X) (bs p : Nat) (L : Tr) (lv : Nat) (inv : Bool) (h : Nat) (m : Nat × Nat) (f : Nat → Nat) (rb : Bool) (wd : Nat) (O : List bk_X) (D : Nat), lyB M n tl k Q Tw R → trH M tl p L → p + L.length ≤ 133 → ekB Q Tw rb wd bs L → bs + L.length ≤ b → lv + b ≤ 300 → lvF M lv wd f → (rb = false → lv = 0 ∧ inv = false ∧ h = 0) → 3 * b + 7 ≤ D → am_M D false nm_X12_layAll [aR 108, aI (nI p), aI (nI (p + L.length)), aI (nI lv), aI (b01 inv), aI (nI h), aI (nI m.1), aI (nI m.2)] (llM M n O) (lyQ M n lv O (ouF R f inv h m L))
section CSK
variable {d : Nat} {M : mm_M}
theorem lyQ_e {n lv : Nat} {O Y Y' : List bk_X} {r : am_R} {N : mm_M} (h : lyQ M n lv O Y r N) (e : Y = Y') : lyQ M n lv O Y' r N := by
  rw [← e]
  exact h
theorem ly_38 (M : mm_M) (n : Nat) (O : List bk_X) : (llM M n O).1 108 38 = nI (ly3 O).2.2 := by
  rw [ll_108]
  rfl
theorem ly_36 (M : mm_M) (n : Nat) (O : List bk_X) : (llM M n O).1 108 36 = nI (ly3 O).1 := by
  rw [ll_108]
  rfl
set_option maxRecDepth 100000 in
/-- turns -/
theorem ct_lT {q lv n tl k' h wd : Nat} {inv : Bool} {m : Nat × Nat} {qq : Nat} {B : Tr} {f : Nat → Nat} {O : List bk_X} {Q : Nat → Nat × Tr} {Tw : Nat → Nat} {R : Nat → List bk_X} {E : Nat} (q9 : qq ≤ 9) (n5 : M.1 125 q = nI qq) (n6 : M.1 126 q = nI (q + 1 + B.length)) (q4 : q + 1 + B.length ≤ 133) (hB : lyB M n tl k' Q Tw R) (hv : lvF M lv wd f) (hL : ∀ (M' : mm_M) (O' : List bk_X), mpF lv M M' → am_M (E + 1) false nm_X12_layAll [aR 108, aI (nI (q + 1)), aI (nI (q + 1 + B.length)), aI (nI lv), aI (b01 inv), aI (nI h), aI (nI m.1), aI (nI m.2)] (llM M' n O') (lyQ M' n lv O' (ouF R f inv h m B))) : am_M (E + 2) false nm_X12_layTurns [aR 108, aI (nI q), aI (nI lv), aI (b01 inv), aI (nI h), aI (nI m.1), aI (nI m.2)] (llM M n O) (lyQ M n lv O (rpt (ouF R f inv h m B) qq)) := by
  have ix : vp_in (nI q) 401 := vp_in_nI (by omega) (by decide)
  have cl : (nI q).toNatClampNeg = q := nI_clamp (by omega)
  generalize ouF R f inv h m B = Y at *
  refine ⟨rfl, rfl, rfl, fun X hX => ?_⟩
  have z5 : ∀ M' O', mpF lv M M' → (llM M' n O').1 125 q = nI qq := fun M' O' g => by rw [ll_r _ _ _ (by decide) (by decide), g.1 125 (by decide)]; exact n5
  have z6 : ∀ M' O', mpF lv M M' → (llM M' n O').1 126 q = nI (q + 1 + B.length) := fun M' O' g => by rw [ll_r _ _ _ (by decide) (by decide), g.1 126 (by decide)]; exact n6
  -- nothing more comes of it
  have stop : ∀ (j : Nat) (M' : mm_M) (v9 : Option am_V), mpF lv M M' → j ≤ qq → llM M' n (O ++ rpt Y j) = llM M' n (O ++ rpt Y qq) → X 6 [some (aR 108), some (aI (nI q)), some (aI (nI lv)), some (aI (b01 inv)), some (aI (nI h)), some (aI (nI m.1)), some (aI (nI m.2)), some (aI 0), some (aI (nI j)), v9] [] (llM M' n (O ++ rpt Y j)) := by
    intro j M' v9 g hj e
    have ret : X 78 [some (aR 108), some (aI (nI q)), some (aI (nI lv)), some (aI (b01 inv)), some (aI (nI h)), some (aI (nI m.1)), some (aI (nI m.2)), some (aI 0), some (aI (nI j)), v9] [] (llM M' n (O ++ rpt Y j)) := by
      refine am_run hX 1 _ _ _ _ ?_
      conv => whnf
      exact ⟨trivial, rfl, M', g, e⟩
    refine am_run hX 5 _ _ _ _ ?_
    conv => whnf
    refine ⟨ix, ?_⟩
    rw [cl, z5 M' _ g]
    refine am_run hX 1 _ _ _ _ ?_
    conv => whnf
    refine ⟨fun _ => ret, fun _ => ?_⟩
    refine am_run hX 2 _ _ _ _ ?_
    conv => whnf
    exact ⟨fun _ => ret, fun y => absurd rfl y⟩
  have loop : ∀ (u j : Nat) (M' : mm_M) (v9 : Option am_V), j + u = qq → mpF lv M M' → X 6 [some (aR 108), some (aI (nI q)), some (aI (nI lv)), some (aI (b01 inv)), some (aI (nI h)), some (aI (nI m.1)), some (aI (nI m.2)), some (aI 1), some (aI (nI j)), v9] [] (llM M' n (O ++ rpt Y j)) := by
    intro u
    induction u with
    | zero =>
      intro j M' v9 hj g
      obtain rfl : j = qq := by omega
      refine am_run hX 5 _ _ _ _ ?_
      conv => whnf
      refine ⟨ix, ?_⟩
      rw [cl, z5 M' _ g]
      refine am_run hX 1 _ _ _ _ ?_
      conv => whnf
      refine ⟨fun _ => ?_, fun y => absurd (nI_le (Nat.le_refl _) (by omega)) y⟩
      refine am_run hX 1 _ _ _ _ ?_
      conv => whnf
      exact ⟨trivial, rfl, M', g, rfl⟩
    | succ u ih =>
      intro j M' v9 hj g
      refine am_run hX 5 _ _ _ _ ?_
      conv => whnf
      refine ⟨ix, ?_⟩
      rw [cl, z5 M' _ g]
      refine am_run hX 1 _ _ _ _ ?_
      conv => whnf
      refine ⟨fun y => absurd y (nI_ge (by omega) (by omega)), fun _ => ?_⟩
      refine am_run hX 2 _ _ _ _ ?_
      conv => whnf
      refine ⟨fun y => absurd y (by decide), fun _ => ?_⟩
      refine am_run hX 3 _ _ _ _ ?_
      conv => whnf
      rw [ly_36]
      refine am_run hX 8 _ _ _ _ ?_
      conv => whnf
      refine ⟨ix, ?_⟩
      rw [cl, z6 M' _ g]
      refine am_run hX 6 _ _ _ _ ?_
      conv => whnf
      rw [nI_1]
      refine am_cq (hL M' (O ++ rpt Y j) g) ?_
      rintro r N ⟨rfl, M2, g2, rfl⟩
      refine ⟨_, rfl, ?_⟩
      have gg := mpF_t g g2
      rw [List.append_assoc, ← rpt_e]
      have p1 := ly3_p (O ++ rpt Y j)
      have p2 := ly3_p (O ++ rpt Y (j + 1))
      refine am_run hX 4 _ _ _ _ ?_
      conv => whnf
      rw [ly_36]
      have s69 : llM M2 n (O ++ rpt Y (j + 1)) = llM M2 n (O ++ rpt Y qq) → X 69 [some (aR 108), some (aI (nI q)), some (aI (nI lv)), some (aI (b01 inv)), some (aI (nI h)), some (aI (nI m.1)), some (aI (nI m.2)), some (aI 1), some (aI (nI j)), some (aI (nI (ly3 (O ++ rpt Y j)).1))] [] (llM M2 n (O ++ rpt Y (j + 1))) := by
        intro e
        refine am_run hX 4 _ _ _ _ ?_
        conv => whnf
        rw [nI_1]
        exact stop (j + 1) M2 _ gg (by omega) e
      have tm : (ly3 (O ++ rpt Y (j + 1))).2.2 = 1 → llM M2 n (O ++ rpt Y (j + 1)) = llM M2 n (O ++ rpt Y qq) := by
        intro t1
        obtain ⟨w, hw⟩ : ∃ w, qq = j + 1 + w := ⟨qq - (j + 1), by omega⟩
        have er : ∀ w, rpt Y (j + 1 + w) = rpt Y (j + 1) ++ rpt Y w := by
          intro w
          induction w with
          | zero => exact (List.append_nil _).symm
          | succ w ihw =>
            rw [show j + 1 + (w + 1) = (j + 1 + w) + 1 by omega, rpt_e, ihw, List.append_assoc, ← rpt_e]
        rw [hw, er w, ← List.append_assoc, ll_tm t1]
      by_cases le : (ly3 (O ++ rpt Y (j + 1))).1 ≤ (ly3 (O ++ rpt Y j)).1
      · refine ⟨fun _ => s69 ?_, fun y => absurd (nI_le le (by have := p1.1; omega)) y⟩
        rcases ly3_b (O ++ rpt Y (j + 1)) with t0 | t1
        · have e1 := (p2.2.2.2.1 t0).1
          have e0 := p1.2.2.2.2.2
          have l1 : (O ++ rpt Y (j + 1)).length = (O ++ rpt Y j).length + Y.length := by
            rw [rpt_e, ← List.append_assoc, List.length_append]
          have y0 : Y = [] := List.eq_nil_of_length_eq_zero (by omega)
          have ez : ∀ w, rpt Y w = [] := by
            intro w
            induction w with
            | zero => rfl
            | succ w ihw =>
              show Y ++ rpt Y w = []
              rw [ihw, y0]
              rfl
          rw [ez, ez]
        · exact tm t1
      · refine ⟨fun y => absurd y (nI_ge (by omega) (by have := p2.1; omega)), fun _ => ?_⟩
        refine am_run hX 3 _ _ _ _ ?_
        conv => whnf
        rw [ly_38]
        rcases ly3_b (O ++ rpt Y (j + 1)) with t0 | t1
        · rw [t0]
          refine ⟨fun y => absurd rfl y, fun _ => ?_⟩
          refine am_run hX 5 _ _ _ _ ?_
          conv => whnf
          rw [nI_1]
          exact ih (j + 1) M2 _ (by omega) gg
        · exact ⟨fun _ => s69 (tm t1), fun y => absurd (by rw [t1]; decide) y⟩
  refine am_run hX 4 _ _ _ _ ?_
  conv => whnf
  have key := loop qq 0 M none (by omega) (mpF_r lv M)
  rw [show O ++ rpt Y 0 = O from List.append_nil O] at key
  exact key
theorem ouF_a (R : Nat → List bk_X) (f : Nat → Nat) (h : Nat) (m : Nat × Nat) (A B : List (Ev × Tr)) : ouF R f false h m (flT (A ++ B)) = ouF R f false h m (flT A) ++ ouF R f false h m (flT B) := by
  unfold ouF
  rw [jtF_p, ouL_af]
theorem ouF_ab (R : Nat → List bk_X) (f : Nat → Nat) (h : Nat) (m : Nat × Nat) (A B : List (Ev × Tr)) : ouF R f true h m (flT (A ++ B)) = ouF R f true h m (flT B) ++ ouF R f true h m (flT A) := by
  unfold ouF
  rw [jtF_p, ouL_at]
theorem ouF_1 (R : Nat → List bk_X) (f : Nat → Nat) (inv : Bool) (h : Nat) (m : Nat × Nat) (S : Ev × Tr) : ouF R f inv h m (flT [S]) = ou1 R f inv h m S := by
  unfold ouF ou1
  rw [jtF_1]
theorem fl_l (A : List (Ev × Tr)) (S : Ev × Tr) : (flT (A ++ [S])).length = (flT A).length + (jn S).length := by
  rw [fl_a, List.length_append, fl_1]
theorem fl_c (A B : List (Ev × Tr)) (S : Ev × Tr) : (flT (A ++ S :: B)).length = (flT A).length + (jn S).length + (flT B).length := by
  rw [fl_a, List.length_append]
  show _ + (jn S ++ flT B).length = _
  rw [List.length_append]
  omega
variable {n lv p h : Nat} {m : Nat × Nat} {f : Nat → Nat} {R : Nat → List bk_X} {E : Nat} {Ss : List (Ev × Tr)} {O : List bk_X}
set_option maxRecDepth 100000 in
/-- STATEMENTS, forwards -/
theorem ct_laF (h26 : ∀ A S B, Ss = A ++ S :: B → M.1 126 (p + (flT A).length) = nI (p + (flT A).length + (jn S).length)) (pl : p + (flT Ss).length ≤ 133) (hO : ∀ (M' : mm_M) (O' : List bk_X) (A : List (Ev × Tr)) (S : Ev × Tr) (B : List (Ev × Tr)), Ss = A ++ S :: B → mpF lv M M' → am_M (E + 1) false nm_X12_layOne [aR 108, aI (nI (p + (flT A).length)), aI (nI lv), aI 0, aI (nI h), aI (nI m.1), aI (nI m.2)] (llM M' n O') (lyQ M' n lv O' (ou1 R f false h m S))) : am_M (E + 2) false nm_X12_layAll [aR 108, aI (nI p), aI (nI (p + (flT Ss).length)), aI (nI lv), aI 0, aI (nI h), aI (nI m.1), aI (nI m.2)] (llM M n O) (lyQ M n lv O (ouF R f false h m (flT Ss))) := by
  refine ⟨rfl, rfl, rfl, fun X hX => ?_⟩
  have loop : ∀ (B A : List (Ev × Tr)) (M' : mm_M), Ss = A ++ B → mpF lv M M' → X 8 [some (aR 108), some (aI (nI p)), some (aI (nI (p + (flT Ss).length))), some (aI (nI lv)), some (aI 0), some (aI (nI h)), some (aI (nI m.1)), some (aI (nI m.2)), some (aI (nI (p + (flT A).length))), none] [] (llM M' n (O ++ ouF R f false h m (flT A))) := by
    intro B
    induction B with
    | nil =>
      intro A M' e g
      rw [List.append_nil] at e
      subst e
      refine am_run hX 3 _ _ _ _ ?_
      conv => whnf
      refine ⟨fun _ => ?_, fun y => absurd (nI_le (Nat.le_refl _) (by omega)) y⟩
      refine am_run hX 1 _ _ _ _ ?_
      conv => whnf
      exact ⟨trivial, rfl, M', g, rfl⟩
    | cons S B ih =>
      intro A M' e g
      have el : (flT Ss).length = (flT A).length + (jn S).length + (flT B).length := by rw [e]; exact fl_c A B S
      have jl := jn_l S
      refine am_run hX 3 _ _ _ _ ?_
      conv => whnf
      refine ⟨fun y => absurd y (nI_ge (by omega) (by omega)), fun _ => ?_⟩
      refine am_run hX 3 _ _ _ _ ?_
      conv => whnf
      rw [ly_38]
      rcases ly3_b (O ++ ouF R f false h m (flT A)) with t0 | t1
      · rw [t0]
        refine ⟨fun y => absurd rfl y, fun _ => ?_⟩
        refine am_run hX 8 _ _ _ _ ?_
        conv => whnf
        refine am_cq (hO M' _ A S B e g) ?_
        rintro r N ⟨rfl, M2, g2, rfl⟩
        refine ⟨_, rfl, ?_⟩
        have gg := mpF_t g g2
        refine am_run hX 4 _ _ _ _ ?_
        conv => whnf
        refine ⟨vp_in_nI (by show p + (flT A).length < 401; omega) (by decide), ?_⟩
        rw [nI_clamp (n := p + (flT A).length) (by omega), ll_r _ _ _ (by decide) (by decide), gg.1 126 (by decide), h26 A S B e]
        refine am_run hX 2 _ _ _ _ ?_
        conv => whnf
        have key := ih (A ++ [S]) M2 (by rw [e, List.append_assoc]; rfl) gg
        rw [ouF_a, ouF_1, fl_l, ← Nat.add_assoc, ← List.append_assoc] at key
        exact key
      · refine ⟨fun _ => ?_, fun y => absurd (by rw [t1]; decide) y⟩
        refine am_run hX 1 _ _ _ _ ?_
        conv => whnf
        refine ⟨trivial, rfl, M', g, ?_⟩
        rw [e, ouF_a, ← List.append_assoc, ll_tm t1]
  refine am_run hX 2 _ _ _ _ ?_
  conv => whnf
  refine ⟨fun y => absurd rfl y, fun _ => ?_⟩
  refine am_run hX 2 _ _ _ _ ?_
  conv => whnf
  have key := loop Ss [] M rfl (mpF_r lv M)
  rw [show O ++ ouF R f false h m (flT []) = O from List.append_nil O] at key
  exact key
set_option maxRecDepth 100000 in
/-- STATEMENTS, backwards -/
theorem ct_laB (h26 : ∀ A S B, Ss = A ++ S :: B → M.1 126 (p + (flT A).length) = nI (p + (flT A).length + (jn S).length)) (pl : p + (flT Ss).length ≤ 133) (hO : ∀ (M' : mm_M) (O' : List bk_X) (A : List (Ev × Tr)) (S : Ev × Tr) (B : List (Ev × Tr)), Ss = A ++ S :: B → mpF lv M M' → am_M (E + 1) false nm_X12_layOne [aR 108, aI (nI (p + (flT A).length)), aI (nI lv), aI 1, aI (nI h), aI (nI m.1), aI (nI m.2)] (llM M' n O') (lyQ M' n lv O' (ou1 R f true h m S))) : am_M (E + 2) false nm_X12_layAll [aR 108, aI (nI p), aI (nI (p + (flT Ss).length)), aI (nI lv), aI 1, aI (nI h), aI (nI m.1), aI (nI m.2)] (llM M n O) (lyQ M n lv O (ouF R f true h m (flT Ss))) := by
  refine ⟨rfl, rfl, rfl, fun X hX => ?_⟩
  have loop : ∀ (c : Nat) (A B : List (Ev × Tr)) (M' : mm_M) (v9 : Option am_V), A.length = c → Ss = A ++ B → mpF lv M M' → X 51 [some (aR 108), some (aI (nI p)), some (aI (nI (p + (flT Ss).length))), some (aI (nI lv)), some (aI 1), some (aI (nI h)), some (aI (nI m.1)), some (aI (nI m.2)), some (aI (nI (p + (flT A).length))), v9] [] (llM M' n (O ++ ouF R f true h m (flT B))) := by
    intro c
    induction c with
    | zero =>
      intro A B M' v9 hc e g
      have : A = [] := List.eq_nil_of_length_eq_zero hc
      subst this
      have e : Ss = B := e
      subst e
      refine am_run hX 3 _ _ _ _ ?_
      conv => whnf
      refine ⟨fun _ => ?_, fun y => absurd (nI_le (a := p + (flT []).length) (b := p) (Nat.le_refl _) (by omega)) y⟩
      refine am_run hX 1 _ _ _ _ ?_
      conv => whnf
      exact ⟨trivial, rfl, M', g, rfl⟩
    | succ c ih =>
      intro A B M' v9 hc e g
      obtain ⟨A', S, eA⟩ : ∃ A' S, A = A' ++ [S] := by
        rcases List.eq_nil_or_concat A with z | ⟨A', S, z⟩
        · rw [z] at hc
          exact absurd hc (by show ¬ (0 = c + 1); omega)
        · exact ⟨A', S, by rw [z, List.concat_eq_append]⟩
      subst eA
      have hc' : A'.length = c := by
        rw [List.length_append] at hc
        have hc : A'.length + 1 = c + 1 := hc
        omega
      have e2 : Ss = A' ++ S :: B := by rw [e, List.append_assoc]; rfl
      have el : (flT Ss).length = (flT A').length + (jn S).length + (flT B).length := by rw [e2]; exact fl_c A' B S
      have jl := jn_l S
      rw [fl_l]
      refine am_run hX 3 _ _ _ _ ?_
      conv => whnf
      refine ⟨fun y => absurd y (nI_ge (a := p) (by omega) (by omega)), fun _ => ?_⟩
      refine am_run hX 3 _ _ _ _ ?_
      conv => whnf
      rw [ly_38]
      rcases ly3_b (O ++ ouF R f true h m (flT B)) with t0 | t1
      · rw [t0]
        refine ⟨fun y => absurd rfl y, fun _ => ?_⟩
        refine am_run hX 2 _ _ _ _ ?_
        conv => whnf
        -- the last of them
        have find : ∀ (B1 A1 : List (Ev × Tr)), A' = A1 ++ B1 → X 67 [some (aR 108), some (aI (nI p)), some (aI (nI (p + (flT Ss).length))), some (aI (nI lv)), some (aI 1), some (aI (nI h)), some (aI (nI m.1)), some (aI (nI m.2)), some (aI (nI (p + ((flT A').length + (jn S).length)))), some (aI (nI (p + (flT A1).length)))] [] (llM M' n (O ++ ouF R f true h m (flT B))) := by
          intro B1
          induction B1 with
          | nil =>
            intro A1 eA
            rw [List.append_nil] at eA
            subst eA
            refine am_run hX 4 _ _ _ _ ?_
            conv => whnf
            refine ⟨vp_in_nI (by show p + (flT A').length < 401; omega) (by decide), ?_⟩
            rw [nI_clamp (n := p + (flT A').length) (by omega), ll_r _ _ _ (by decide) (by decide), g.1 126 (by decide), h26 A' S B e2]
            refine am_run hX 2 _ _ _ _ ?_
            conv => whnf
            refine ⟨fun _ => ?_, fun y => absurd (nI_le (by omega) (by omega)) y⟩
            refine am_run hX 8 _ _ _ _ ?_
            conv => whnf
            refine am_cq (hO M' _ A' S B e2 g) ?_
            rintro r N ⟨rfl, M2, g2, rfl⟩
            refine ⟨_, rfl, ?_⟩
            have gg := mpF_t g g2
            refine am_run hX 3 _ _ _ _ ?_
            conv => whnf
            have key := ih A' (S :: B) M2 (some (aI (nI (p + (flT A').length)))) hc' e2 gg
            rw [show S :: B = [S] ++ B from rfl, ouF_ab, ouF_1, ← List.append_assoc] at key
            exact key
          | cons S1 B1 ihB =>
            intro A1 eA
            have e3 : Ss = A1 ++ S1 :: (B1 ++ S :: B) := by
              rw [e2, eA, List.append_assoc]
              rfl
            have el1 : (flT A').length = (flT A1).length + (jn S1).length + (flT B1).length := by rw [eA]; exact fl_c A1 B1 S1
            have jl1 := jn_l S1
            refine am_run hX 4 _ _ _ _ ?_
            conv => whnf
            refine ⟨vp_in_nI (by show p + (flT A1).length < 401; omega) (by decide), ?_⟩
            rw [nI_clamp (n := p + (flT A1).length) (by omega), ll_r _ _ _ (by decide) (by decide), g.1 126 (by decide), h26 A1 S1 _ e3]
            refine am_run hX 2 _ _ _ _ ?_
            conv => whnf
            refine ⟨fun y => absurd y (nI_ge (by omega) (by omega)), fun _ => ?_⟩
            refine am_run hX 4 _ _ _ _ ?_
            conv => whnf
            refine ⟨vp_in_nI (by show p + (flT A1).length < 401; omega) (by decide), ?_⟩
            rw [nI_clamp (n := p + (flT A1).length) (by omega), ll_r _ _ _ (by decide) (by decide), g.1 126 (by decide), h26 A1 S1 _ e3]
            refine am_run hX 2 _ _ _ _ ?_
            conv => whnf
            have key := ihB (A1 ++ [S1]) (by rw [eA, List.append_assoc]; rfl)
            rw [fl_l, ← Nat.add_assoc p (flT A1).length] at key
            exact key
        exact find A' [] rfl
      · refine ⟨fun _ => ?_, fun y => absurd (by rw [t1]; decide) y⟩
        refine am_run hX 1 _ _ _ _ ?_
        conv => whnf
        refine ⟨trivial, rfl, M', g, ?_⟩
        rw [e, ouF_ab, ← List.append_assoc, ll_tm t1]
  refine am_run hX 2 _ _ _ _ ?_
  conv => whnf
  refine ⟨fun _ => ?_, fun y => absurd (by decide) y⟩
  refine am_run hX 2 _ _ _ _ ?_
  conv => whnf
  have key := loop Ss.length Ss [] M none rfl (List.append_nil _).symm (mpF_r lv M)
  rw [show O ++ ouF R f true h m (flT []) = O from List.append_nil O] at key
  exact key
theorem tr_26 {tl : Nat} (h : trH M tl p (flT Ss)) (A : List (Ev × Tr)) (S : Ev × Tr) (B : List (Ev × Tr)) (e : Ss = A ++ S :: B) : trH M tl (p + (flT A).length) (jn S) ∧ M.1 126 (p + (flT A).length) = nI (p + (flT A).length + (jn S).length) := by
  rw [e, fl_a] at h
  have h2 := (trH_b h).2
  have h3 : trH M tl (p + (flT A).length) (jn S ++ flT B) := h2
  have h4 := (trH_b h3).1
  refine ⟨h4, ?_⟩
  have h5 := (trH_0 (e := S.1) (B := S.2) h4).1.2.2.2.2.2.2
  rw [h5, jn_l]
  congr 1
  omega
theorem la_1 {b : Nat} (hO : loC b) : laC b := by
  intro M n tl k Q Tw R bs p L lv inv h m f rb wd O D hB hT pl hE hb hl hv hr hD
  obtain ⟨E, rfl⟩ : ∃ E, D = E + 2 := ⟨D - 2, by omega⟩
  obtain ⟨Ss, rfl, hs⟩ : ∃ Ss, L = flT Ss ∧ ∀ S, S ∈ Ss → lgE Q Tw rb wd bs S.1 ∧ (S.1.1 < 3 → S.2 = []) ∧ (S.1.1 = 3 → ekB Q Tw rb wd bs S.2) := by
    obtain ⟨j, hj⟩ := hE
    cases j with
    | zero =>
      have hj : L = [] := hj
      exact ⟨[], hj, fun S hS => absurd hS List.not_mem_nil⟩
    | succ j =>
      obtain ⟨Ss, h1, h2⟩ := hj
      exact ⟨Ss, h1, fun S hS => ⟨(h2 S hS).1, (h2 S hS).2.1, fun y => ⟨j, (h2 S hS).2.2 y⟩⟩⟩
  have one : ∀ (M' : mm_M) (O' : List bk_X) (A : List (Ev × Tr)) (S : Ev × Tr) (B : List (Ev × Tr)), Ss = A ++ S :: B → mpF lv M M' → am_M (E + 1) false nm_X12_layOne [aR 108, aI (nI (p + (flT A).length)), aI (nI lv), aI (b01 inv), aI (nI h), aI (nI m.1), aI (nI m.2)] (llM M' n O') (lyQ M' n lv O' (ou1 R f inv h m S)) := by
    intro M' O' A S B e g
    obtain ⟨s1, s2, s3⟩ := hs S (by rw [e]; exact List.mem_append.mpr (Or.inr List.mem_cons_self))
    have el : (flT Ss).length = (flT A).length + (jn S).length + (flT B).length := by rw [e]; exact fl_c A B S
    exact hO M' n tl k Q Tw R bs _ S lv inv h m f rb wd O' (E + 1) (lyB_m g hB) (trH_m g (tr_26 hT A S B e).1) (by omega) s1 s2 s3 (by omega) hl (lvF_m g hv) hr (by omega)
  cases inv with
  | false => exact ct_laF (fun A S B e => (tr_26 hT A S B e).2) pl one
  | true => exact ct_laB (fun A S B e => (tr_26 hT A S B e).2) pl one
end CSK
