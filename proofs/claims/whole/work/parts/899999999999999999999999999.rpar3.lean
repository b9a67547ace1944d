/-! code: a whole TAPE is read at the reference -/
section RPC
variable {d : Nat} {M : mm_M} {T : Nat → Nat} {t : Nat}
/-- the rows behind this one -/
def crT (M : mm_M) (s : cpS) : Prop := (0 < s.2.1 → M.1 108 114 = nI s.1) ∧ ∀ j, j < s.2.1 → M.1 178 j = nI (s.2.2.2.1 j) ∧ M.1 179 j = nI (s.2.2.2.2.1 j) ∧ M.1 180 j = nI (s.2.2.2.2.2 j)
set_option maxRecDepth 100000 in
theorem ct_readRow {i row : Nat} {s : cpS} (ht : t ≤ 400) (hi : i ≤ t) (e2 : M.1 108 2 = nI t) (hT : ∀ j, j < t → M.1 109 j = nI (T j) ∧ T j < 127) (e3 : M.1 108 3 = nI i) (hR : cpR T i = .inl s) (hr : s.2.1 = row) (h0 : s.2.2.1 = 0) (hS : crT M s) : am_M (d + 3) false nm_X12_readRow [aR 108, aI (nI row)] M (rrQ M T t row) := by
  have g := cpR_g T i (by omega) hR
  have g1 := g.1
  refine ⟨rfl, rfl, rfl, fun X hX => am_run hX 14 _ _ _ _ ?_⟩
  conv => whnf
  refine ⟨vp_in_nI (by show row < 9; omega) (by decide), ?_⟩
  conv => whnf
  refine ⟨vp_in_nI (by show row < 9; omega) (by decide), ?_⟩
  conv => whnf
  rw [nI_clamp (n := row) (by omega)]
  have hg := rrL (d := d) (M := M) (T := T) (t := t) (X := X) (row := row) hX ht e2 hT (t - i) i (mm_i (mm_i M 178 (upd (M.1 178) row 0)) 179 (upd (M.1 179) row 0)) s none none (Nat.le_refl _) hi ⟨fun k a b c e => by rw [mm_ne _ _ _ _ c, mm_ne _ _ _ _ b], rfl, fun y a b c e f => rfl⟩ rfl rfl rfl e3 hR hr ⟨hS.1, fun j hj => ?_, fun _ => ?_⟩
  · rw [h0] at hg
    exact hg
  · rw [hr, h0] at hj
    have hj : j < row := by omega
    have := hS.2 j (by omega)
    show upd (M.1 178) row 0 j = _ ∧ upd (M.1 179) row 0 j = _ ∧ M.1 180 j = _
    unfold upd
    rw [if_neg (by omega), if_neg (by omega)]
    exact this
  · rw [hr]
    show upd (M.1 178) row 0 row = 0 ∧ upd (M.1 179) row 0 row = 0
    unfold upd
    exact ⟨if_pos rfl, if_pos rfl⟩
/-- what reading leaves at the reference -/
def rcQ (M : mm_M) (T : Nat → Nat) (t : Nat) : am_Q := fun r N => crF M N ∧
  ((∃ s, r = .inl (some (aI 1)) ∧ N.1 108 4 = M.1 108 4 ∧ N.1 108 5 = M.1 108 5 ∧ cpE T t = .inl s ∧ N.1 108 114 = nI s.2.2.1 ∧ N.1 108 115 = nI (s.2.1 + 1) ∧ 0 < s.2.2.1 ∧ crS N s) ∨
   (∃ p, r = .inl (some (aI 0)) ∧ N.1 108 4 = 1 ∧ N.1 108 5 = nI p ∧ cpE T t = .inr p))
set_option maxRecDepth 100000 in
theorem rcL {X : am_X} (hX : am_K (d + 3) false nm_X12_readCode (rcQ M T t) X) (ht : t ≤ 400) (e2 : M.1 108 2 = nI t) (hT : ∀ j, j < t → M.1 109 j = nI (T j) ∧ T j < 127) (hT0 : ∀ j, j < t → 0 < T j) : ∀ (m i : Nat) (N : mm_M) (s : cpS), 8 - s.2.1 ≤ m → i ≤ t → crF M N → N.1 108 4 = M.1 108 4 → N.1 108 5 = M.1 108 5 → N.1 108 3 = nI i → N.1 108 115 = nI s.2.1 → cpR T i = .inl s → s.2.2.1 = 0 → crT N s → X 7 [some (aR 108), some (aI 1)] [] N := by
  intro m
  induction m with
  | zero =>
    intro i N s hm hi hF h4 h5 e3 h115 hR h0 hS
    have := (cpR_g T i (by omega) hR).1
    omega
  | succ m ih =>
    intro i N s hm hi hF h4 h5 e3 h115 hR h0 hS
    have n2 : ∀ {K : mm_M}, crF M K → K.1 108 2 = nI t := fun kF => (kF.2.2 2 (by decide) (by decide) (by decide) (by decide) (by decide)).trans e2
    have nT : ∀ {K : mm_M}, crF M K → ∀ j, j < t → K.1 109 j = nI (T j) ∧ T j < 127 := fun kF j hj => by
      rw [kF.1 109 (by decide) (by decide) (by decide) (by decide)]
      exact hT j hj
    refine am_run hX 7 _ _ _ _ ?_
    conv => whnf
    refine ⟨fun c => absurd c (by decide), fun _ => ?_⟩
    conv => whnf
    rw [h115]
    refine am_cq (ct_readRow (d := d) (M := N) (row := s.2.1) ht hi (n2 hF) (nT hF) e3 hR rfl h0 hS) fun r N1 q => ?_
    obtain ⟨q1, q2, q3⟩ := q
    have hF1 := crF_t hF q1
    rcases q3 with ⟨i1, s1, a1, a2, a3, a4, a5, a6, a7, a8, a9, a10, a11, a12, a13⟩ | ⟨p, a1, a2, a3, a4⟩
    · refine ⟨_, a1, ?_⟩
      have g := cpR_g T i1 (by omega) a7
      have g1 := g.1
      have g2 := g.2.1
      conv => whnf
      refine ⟨fun _ => ?_, fun c => absurd (by decide) c⟩
      refine am_run hX 10 _ _ _ _ ?_
      conv => whnf
      rw [show N1.1 108 115 = nI s.2.1 from q2.trans h115, nI_1]
      generalize hN2 : mm_i N1 108 (upd (N1.1 108) 115 (nI (s.2.1 + 1))) = N2
      have b3 : N2.1 108 3 = nI i1 := by rw [← hN2]; exact a4
      have b4 : N2.1 108 4 = M.1 108 4 := by rw [← hN2]; exact a2.trans h4
      have b5 : N2.1 108 5 = M.1 108 5 := by rw [← hN2]; exact a3.trans h5
      have b114 : N2.1 108 114 = nI s1.2.2.1 := by rw [← hN2]; exact a11
      have b115 : N2.1 108 115 = nI (s1.2.1 + 1) := by rw [← hN2, a8]; rfl
      have bS : crS N2 s1 := by rw [← hN2]; exact a13
      have bF : crF M N2 := by
        rw [← hN2]
        refine crF_t hF1 ⟨fun k a b c e => mm_ne _ _ _ _ a, rfl, fun y a b c e f => ?_⟩
        rw [mm_i1]
        unfold upd
        rw [if_neg f]
      have hsee := ct_sees (d := d + 2) (T := T) ht a5 b3 (n2 bF) (nT bF)
      rw [nxQ_s a6, saM_z b3] at hsee
      have hstop : ∀ l : Int32, X 7 [some (aR 108), some (aI 0)] [] N2 → X 58 [some (aR 108), some (aI 1)] [] N2 := by
        intro _ h7
        refine am_run hX 11 _ _ _ _ ?_
        conv => whnf
        rw [b3]
        refine ⟨fun _ => ?_, fun c => absurd rfl c⟩
        conv => whnf
        have e9 : mm_i N2 108 (upd (N2.1 108) 3 (nI i1 + 0)) = N2 := by
          rw [show nI i1 + 0 = nI i1 from nI_add i1 0]
          exact saM_z b3
        rw [e9]
        exact h7
      have h70 : ¬ (T i1 = 44 ∧ cpF s1 = true ∧ s1.2.1 + 1 < s1.2.2.1) ∨ i1 = t → X 7 [some (aR 108), some (aI 0)] [] N2 := by
        intro hno
        refine am_run hX 5 _ _ _ _ ?_
        conv => whnf
        refine ⟨fun _ => ?_, fun c => absurd rfl c⟩
        conv => whnf
        refine am_c1 hsee ?_
        conv => whnf
        by_cases e : i1 = t
        · rw [show seV T t i1 = 0 from if_neg (by omega)]
          refine ⟨fun _ => ?_, fun c => absurd rfl c⟩
          refine am_run hX 3 _ _ _ _ ?_
          conv => whnf
          refine ⟨rfl, bF, Or.inl ⟨s1, rfl, b4, b5, ?_, b114, b115, a9, bS⟩⟩
          unfold cpE
          rw [← e, a7]
          simp only [a10]
          rfl
        · have hlt : i1 < t := by omega
          have hv : seV T t i1 = T i1 := if_pos hlt
          rw [hv]
          refine ⟨fun c => absurd ((nI_eq (b := 0) (by have := (hT i1 hlt).2; omega) (by decide)).mp c) (by have := hT0 i1 hlt; omega), fun _ => ?_⟩
          refine am_run hX 6 _ _ _ _ ?_
          conv => whnf
          refine am_c1 (ct_refu (d := d + 1) (T := T) ht a5 b3 (n2 bF) (nT bF)) ?_
          conv => whnf
          refine ⟨fun _ => ?_, fun c => absurd rfl c⟩
          conv => whnf
          refine ⟨rfl, crF_t bF (crF_rf _ _), Or.inr ⟨nxQ T t i1, rfl, rfl, rfl, ?_⟩⟩
          rw [nxQ_s a6]
          exact crX_b a5 a7 a12 a6 (hno.resolve_right e) (fun y => absurd y e)
      refine am_c1 hsee ?_
      conv => whnf
      by_cases e44 : seV T t i1 = 44
      · rw [e44]
        have hlt : i1 < t := by
          rcases Nat.lt_or_ge i1 t with y | y
          · exact y
          · rw [show seV T t i1 = 0 from if_neg (by omega)] at e44
            exact absurd e44 (by decide)
        have eT : T i1 = 44 := by rw [← e44]; exact (if_pos hlt).symm
        refine ⟨fun c => absurd rfl c, fun _ => ?_⟩
        refine am_run hX 5 _ _ _ _ ?_
        conv => whnf
        rw [b115, b114]
        refine ⟨fun c => ?_, fun c => ?_⟩
        · refine hstop 0 (h70 (Or.inl (fun y => nI_ge y.2.2 (by omega) c)))
        · have hr : s1.2.1 + 1 < s1.2.2.1 := by
            rcases Nat.lt_or_ge (s1.2.1 + 1) s1.2.2.1 with y | y
            · exact y
            · exact absurd (nI_le y (by omega)) c
          refine am_run hX 13 _ _ _ _ ?_
          conv => whnf
          rw [b3]
          refine ⟨fun c => absurd c (by decide), fun _ => ?_⟩
          conv => whnf
          rw [nI_1]
          refine ih (i1 + 1) _ (s1.2.2.1, s1.2.1 + 1, 0, s1.2.2.2) (by simp only; rw [a8]; omega) hlt (crF_t bF (crF_sa N2 (i1 + 1))) b4 b5 rfl b115 (cpR_1 a7 (by rw [eT]; decide) ?_) rfl ⟨fun _ => b114, fun j hj => ?_⟩
          · unfold cpT
            rw [if_pos eT, if_pos ⟨a10, hr⟩]
          · simp only at hj
            exact bS.2.1 j (by omega)
      · refine ⟨fun _ => ?_, fun c => absurd (fun e => e44 ((nI_eq (b := 44) ?_ (by decide)).mp e)) c⟩
        · refine hstop 0 (h70 ?_)
          by_cases e : i1 = t
          · exact Or.inr e
          · refine Or.inl (fun y => e44 ?_)
            rw [← y.1]
            exact if_pos (by omega)
        · unfold seV
          split
          · have := (hT i1 (by omega)).2
            omega
          · decide
    · refine ⟨_, a1, ?_⟩
      conv => whnf
      refine ⟨fun c => absurd rfl c, fun _ => ?_⟩
      refine am_run hX 2 _ _ _ _ ?_
      conv => whnf
      exact ⟨rfl, hF1, Or.inr ⟨p, rfl, a2, a3, a4⟩⟩
set_option maxRecDepth 100000 in
theorem ct_readCode (ht : t ≤ 400) (e2 : M.1 108 2 = nI t) (e3 : M.1 108 3 = 0) (hT : ∀ j, j < t → M.1 109 j = nI (T j) ∧ T j < 127) (hT0 : ∀ j, j < t → 0 < T j) : am_M (d + 4) false nm_X12_readCode [aR 108] M (rcQ M T t) := by
  refine ⟨rfl, rfl, rfl, fun X hX => am_run hX 5 _ _ _ _ ?_⟩
  conv => whnf
  refine rcL (d := d) hX ht e2 hT hT0 8 0 (mm_i M 108 (upd (M.1 108) 115 0)) (0, 0, 0, fun _ => 0, fun _ => 0, fun _ => 0) (by decide) (Nat.zero_le _) ⟨fun k a b c e => mm_ne _ _ _ _ a, rfl, fun y a b c e f => ?_⟩ rfl rfl e3 rfl rfl rfl ⟨fun y => absurd y (by decide), fun j hj => absurd hj (Nat.not_lt_zero _)⟩
  rw [mm_i1]
  unfold upd
  rw [if_neg f]
end RPC
