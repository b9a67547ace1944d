/-! the pairs letter, told -/
/-- THE FORM that was told last, as both have it -/
def fm_iv (M : mm_M) : Prop := (M.1 57 14 = -1 ∧ M.1 108 130 = -1) ∨ ∃ n t, n ≤ 932 ∧ t ≤ 932 ∧ M.1 57 14 = nI n ∧ M.1 108 129 = nI n ∧ M.1 57 15 = nI t ∧ M.1 108 130 = nI t ∧ ∀ j, j < n → M.1 67 j = M.1 189 j
def th1 (M : mm_M) : mm_M := mm_i M 108 (upd (M.1 108) 0 1)
theorem nI_nm {n : Nat} (h : n < 2 ^ 31) : ¬ nI n = -1 := fun q => by
  have := nI_pos h
  rw [q] at this
  exact this (by decide)
section LET
variable {ac : Nat → ClassId} {lo : Nat} {ad as : Nat → Nat} {b L : Nat} {xs : Nat → Int32} {hp : mm_M → Nat → xm_H} {I J : mm_M → Prop}
/-- letter's answer -/
def lt_v (M : mm_M) (p : Int32) : Int32 := if p = -1 then M.1 108 130 else if M.1 108 130 = -1 ∨ p < 0 ∨ M.1 108 129 ≤ p then -1 else M.1 189 p.toNatClampNeg
set_option maxRecDepth 100000 in
theorem lt_x {M : mm_M} {p : Int32} (h : fm_iv M) (d : Nat) : am_M (d + 1) false nm_X11_letter [aR 0, aI p] M (am_q1 (aI (lt_v M p)) M) := by
  unfold lt_v
  refine ⟨rfl, rfl, rfl, fun X hX => am_run hX 60 _ _ _ _ ?_⟩
  rcases h with ⟨e1, e2⟩ | ⟨n, t, hn, ht, e1, e2, e3, e4, e5⟩
  · have hv : (if p = -1 then M.1 108 130 else if M.1 108 130 = -1 ∨ p < 0 ∨ M.1 108 129 ≤ p then -1 else M.1 189 p.toNatClampNeg) = -1 := by
      rw [e2]
      by_cases h : p = -1
      · rw [if_pos h]
      · rw [if_neg h, if_pos (Or.inl rfl)]
    rw [hv]
    conv => whnf
    refine ⟨fun c => ?_, fun c => ?_⟩
    · conv => whnf
      refine ⟨fun c2 => ?_, fun c2 => ?_⟩
      · conv => whnf
        exact ⟨trivial, rfl, rfl⟩
      · conv => whnf
        rw [e1]
        refine ⟨fun _ => ?_, fun c3 => absurd (Int32.le_trans (by decide : (-1 : Int32) ≤ 0) (Int32.not_lt.mp c2)) c3⟩
        conv => whnf
        exact ⟨trivial, rfl, rfl⟩
    · conv => whnf
      rw [e1]
      refine ⟨fun _ => ?_, fun c3 => absurd (by decide) c3⟩
      conv => whnf
      refine ⟨fun c2 => ?_, fun c2 => ?_⟩
      · conv => whnf
        exact ⟨trivial, rfl, rfl⟩
      · conv => whnf
        rw [e1]
        refine ⟨fun _ => ?_, fun c3 => absurd (Int32.le_trans (by decide : (-1 : Int32) ≤ 0) (Int32.not_lt.mp c2)) c3⟩
        conv => whnf
        exact ⟨trivial, rfl, rfl⟩
  · have h23 : ¬ p = -1 → ∀ k, am_go d false (xp_row nm_X11_letter).2.2.2.1 (fun pc => (xp_row nm_X11_letter).2.2.2.2.1.lookup pc) (am_M d false) (am_q1 (aI (if p = -1 then M.1 108 130 else if M.1 108 130 = -1 ∨ p < 0 ∨ M.1 108 129 ≤ p then -1 else M.1 189 p.toNatClampNeg)) M) X (k + 20) 23 [some (aR 0), some (aI p)] [] M := fun hm k => by
      rw [if_neg hm, e2, e4]
      conv => whnf
      refine ⟨fun c2 => ?_, fun c2 => ?_⟩
      · conv => whnf
        exact ⟨trivial, by rw [if_pos (Or.inr (Or.inl c2))], rfl⟩
      · conv => whnf
        rw [e1]
        obtain ⟨j, hj, rfl⟩ := nI_of c2
        refine ⟨fun c3 => ?_, fun c3 => ?_⟩
        · conv => whnf
          exact ⟨trivial, by rw [if_pos (Or.inr (Or.inr c3))], rfl⟩
        · have hjn : j < n := by
            apply Decidable.byContradiction
            intro hc
            exact c3 (nI_le (by omega) hj)
          conv => whnf
          refine ⟨vp_in_nI (by show j < 932; omega) (by decide), ?_⟩
          conv => whnf
          refine ⟨trivial, ?_, rfl⟩
          rw [if_neg (by
            rintro (q | q | q)
            · exact nI_nm (by omega) q
            · exact c2 q
            · exact c3 q), nI_clamp hj, e5 j hjn]
    conv => whnf
    refine ⟨fun c => ?_, fun c => ?_⟩
    · exact h23 c _
    · have c : p = -1 := Decidable.byContradiction c
      conv => whnf
      rw [e1]
      refine ⟨fun c3 => absurd c3 (nI_pos (by omega)), fun _ => ?_⟩
      conv => whnf
      exact ⟨trivial, by rw [if_pos c, e3, e4], rfl⟩
set_option maxRecDepth 100000 in
theorem lt_m {M : mm_M} {p : Int32} (h : fm_iv M) (d : Nat) : am_M (d + 1) false nm_X12_letter [aR 108, aI p] M (am_q1 (aI (lt_v M p)) (th0 M)) := by
  unfold lt_v
  refine ⟨rfl, rfl, rfl, fun X hX => am_run hX 60 _ _ _ _ ?_⟩
  conv => whnf
  refine ⟨fun c => ?_, fun c => ?_⟩
  · rw [if_neg c]
    conv => whnf
    refine ⟨fun c1 => ?_, fun c1 => ?_⟩
    · have c1 : M.1 108 130 = -1 := c1
      conv => whnf
      exact ⟨trivial, by rw [if_pos (Or.inl c1)], rfl⟩
    · have c1 : ¬ M.1 108 130 = -1 := c1
      conv => whnf
      refine ⟨fun c2 => ?_, fun c2 => ?_⟩
      · conv => whnf
        exact ⟨trivial, by rw [if_pos (Or.inr (Or.inl c2))], rfl⟩
      · conv => whnf
        refine ⟨fun c3 => ?_, fun c3 => ?_⟩
        · have c3 : p < M.1 108 129 := c3
          rcases h with ⟨e1, e2⟩ | ⟨n, t, hn, ht, e1, e2, e3, e4, e5⟩
          · exact absurd e2 c1
          · obtain ⟨j, hj, rfl⟩ := nI_of c2
            have hjn : j < n := by
              apply Decidable.byContradiction
              intro hc
              rw [e2] at c3
              exact nI_nlt (a := j) (b := n) (by omega) hj c3
            conv => whnf
            refine ⟨vp_in_nI (by show j < 1300; omega) (by decide), ?_⟩
            conv => whnf
            refine ⟨trivial, ?_, rfl⟩
            rw [if_neg (by
              rintro (q | q | q)
              · exact c1 q
              · exact c2 q
              · exact Int32.not_le.mpr c3 q)]
            rfl
        · have c3 : ¬ p < M.1 108 129 := c3
          conv => whnf
          exact ⟨trivial, by rw [if_pos (Or.inr (Or.inr (Int32.not_lt.mp c3)))], rfl⟩
  · have c : p = -1 := Decidable.byContradiction c
    conv => whnf
    exact ⟨trivial, by rw [if_pos c]; rfl, rfl⟩
theorem pr_letter (H : mm_L ac lo hp) (h1 : ∀ M, I M → fm_iv M) (hJ : ∀ M, I M → J (th0 M)) (p : Int32) : la_I ac lo ad as b L xs hp I J nm_X11_letter nm_X12_letter [.int p] := by
  refine am_la_I (us := [aI p]) H fun M hI => ?_
  refine am_wk (lt_x (h1 M hI) 999) fun r M1 e => ⟨_, e.1, ?_⟩
  rw [e.2]
  exact am_wk (lt_m (h1 M hI) 999) fun r M1 e => ⟨e.1, by rw [e.2]; exact hJ M hI⟩
/-- the rows of SUMS: which one is A's, B's; how many; over what -/
def sm_r (M : mm_M) (a b : Nat) : Prop := (a = 0 ∧ b = 1 ∨ a = 1 ∧ b = 0) ∧ (M.1 84 0 = nI a ∧ M.1 84 1 = nI b ∧ M.1 84 2 = 2) ∧ (M.1 88 0 = nI a ∧ M.1 88 1 = nI b ∧ M.1 88 2 = 2) ∧ (M.1 92 0 = nI a ∧ M.1 92 1 = nI b ∧ M.1 92 2 = 2)
/-- one SUM: its row in the class, its place in the reference -/
def sm_s (M : mm_M) (a o s h x : Nat) : Prop := s ≤ 150 ∧ h ≤ 60 ∧ M.1 96 x = nI s ∧ M.1 141 x = nI s ∧ M.1 97 x = nI h ∧ M.1 142 x = nI h ∧ ∀ i, i < s → M.1 (85 + a) i = M.1 143 (o + i) ∧ M.1 (89 + a) i = M.1 144 (o + i) ∧ M.1 (93 + a) i = M.1 145 (o + i)
end LET
