/-! the DENSITY as both have it; the pairs entry, density -/
def de_s (M : mm_M) (w k : Nat) : Prop := 1 ≤ w ∧ w ≤ 3 ∧ k ≤ 120 ∧ M.1 104 1 = nI w ∧ M.1 108 88 = nI w ∧ M.1 105 2 = nI (2 ^ (2 * w)) ∧ M.1 105 3 = nI k ∧ M.1 104 2 = M.1 108 89 ∧ M.1 104 3 = M.1 108 90 ∧ ∀ i j, i < 2 ^ w → j < 2 ^ w → ∃ x, bd x ∧ rt_at M 107 (i + 2 ^ w * j) x ∧ rf_at M 162 (8 * i + j) (red k x)
def de_iv (M : mm_M) : Prop := (M.1 104 1 = 0 ∧ M.1 108 88 = -1) ∨ ∃ w k, de_s M w k
set_option maxRecDepth 100000 in
theorem fl_l107 {d : Nat} {M : mm_M} {v : Int64} {P : am_Q} {X : am_X} (hX : am_K d false nm_J7_fill_d0a16 P X) (hP : P (.inl none) (mm_l M 107 (fun j => if j < 256 then v else M.2 107 j))) : ∀ (m i : Nat), i + m = 256 → X 6 [some (aR 107), some (aJ v), none, some (aI (nI i)), some (aI (nI 256))] [] (mm_l M 107 (fun j => if j < i then v else M.2 107 j)) := by
  intro m
  induction m with
  | zero =>
    intro i hi
    have hi : i = 256 := by omega
    subst hi
    refine am_run hX 4 _ _ _ _ ?_
    conv => whnf
    refine ⟨fun _ => ?_, fun c => absurd (by decide) c⟩
    conv => whnf
    exact ⟨trivial, hP⟩
  | succ m ih =>
    intro i hi
    refine am_run hX 3 _ _ _ _ ?_
    conv => whnf
    refine ⟨fun c => absurd c (nI_ge (by omega) (by decide)), fun _ => ?_⟩
    refine am_run hX 6 _ _ _ _ ?_
    conv => whnf
    refine ⟨vp_in_nI (by show _ < 256; omega) (by decide), ?_⟩
    conv => whnf
    rw [nI_clamp (n := i) (by omega), nI_1, mm_l2, mm_ll]
    have e : vp_updL (fun j => if j < i then v else M.2 107 j) i v = fun j => if j < i + 1 then v else M.2 107 j := by
      funext j
      unfold vp_updL
      by_cases h : j = i
      · rw [if_pos h, if_pos (by omega)]
      · rw [if_neg h]
        dsimp only
        by_cases h2 : j < i
        · rw [if_pos h2, if_pos (by omega)]
        · rw [if_neg h2, if_neg (by omega)]
    rw [e]
    exact ih (i + 1) (by omega)
set_option maxRecDepth 100000 in
theorem ct_fill107 {d : Nat} {M : mm_M} {v : Int64} : am_M (d + 1) false nm_J7_fill_d0a16 [aR 107, aJ v] M (am_q0 (mm_l M 107 (fun j => if j < 256 then v else M.2 107 j))) := by
  refine ⟨rfl, rfl, rfl, fun X hX => am_run hX 5 _ _ _ _ ?_⟩
  conv => whnf
  have key := fl_l107 (M := M) (v := v) hX ⟨rfl, rfl⟩ 256 0 (by omega)
  have e : (fun j => if j < 0 then v else M.2 107 j) = M.2 107 := by
    funext j
    rw [if_neg (by omega)]
  rw [e, mm_lz] at key
  exact key
set_option maxRecDepth 100000 in
theorem fl_l20 {d : Nat} {M : mm_M} {v : Int64} {P : am_Q} {X : am_X} (hX : am_K d false nm_J7_fill_d0a16 P X) (hP : P (.inl none) (mm_l M 20 (fun j => if j < 1024 then v else M.2 20 j))) : ∀ (m i : Nat), i + m = 1024 → X 6 [some (aR 20), some (aJ v), none, some (aI (nI i)), some (aI (nI 1024))] [] (mm_l M 20 (fun j => if j < i then v else M.2 20 j)) := by
  intro m
  induction m with
  | zero =>
    intro i hi
    have hi : i = 1024 := by omega
    subst hi
    refine am_run hX 4 _ _ _ _ ?_
    conv => whnf
    refine ⟨fun _ => ?_, fun c => absurd (by decide) c⟩
    conv => whnf
    exact ⟨trivial, hP⟩
  | succ m ih =>
    intro i hi
    refine am_run hX 3 _ _ _ _ ?_
    conv => whnf
    refine ⟨fun c => absurd c (nI_ge (by omega) (by decide)), fun _ => ?_⟩
    refine am_run hX 6 _ _ _ _ ?_
    conv => whnf
    refine ⟨vp_in_nI (by show _ < 1024; omega) (by decide), ?_⟩
    conv => whnf
    rw [nI_clamp (n := i) (by omega), nI_1, mm_l2, mm_ll]
    have e : vp_updL (fun j => if j < i then v else M.2 20 j) i v = fun j => if j < i + 1 then v else M.2 20 j := by
      funext j
      unfold vp_updL
      by_cases h : j = i
      · rw [if_pos h, if_pos (by omega)]
      · rw [if_neg h]
        dsimp only
        by_cases h2 : j < i
        · rw [if_pos h2, if_pos (by omega)]
        · rw [if_neg h2, if_neg (by omega)]
    rw [e]
    exact ih (i + 1) (by omega)
set_option maxRecDepth 100000 in
theorem ct_fill20 {d : Nat} {M : mm_M} {v : Int64} : am_M (d + 1) false nm_J7_fill_d0a16 [aR 20, aJ v] M (am_q0 (mm_l M 20 (fun j => if j < 1024 then v else M.2 20 j))) := by
  refine ⟨rfl, rfl, rfl, fun X hX => am_run hX 5 _ _ _ _ ?_⟩
  conv => whnf
  have key := fl_l20 (M := M) (v := v) hX ⟨rfl, rfl⟩ 1024 0 (by omega)
  have e : (fun j => if j < 0 then v else M.2 20 j) = M.2 20 := by
    funext j
    rw [if_neg (by omega)]
  rw [e, mm_lz] at key
  exact key
section DEN
variable {d : Nat} {M : mm_M}
theorem w8 {w : Nat} (h : w ≤ 3) : 2 ^ w ≤ 8 := by
  have : 2 ^ w ≤ 2 ^ 3 := Nat.pow_le_pow_right (by decide) h
  omega
theorem ij64 {w i j : Nat} (h : w ≤ 3) (hi : i < 2 ^ w) (hj : j < 2 ^ w) : i + 2 ^ w * j < 64 := by
  have h8 := w8 h
  have : 2 ^ w * j ≤ 8 * 7 := Nat.mul_le_mul h8 (by omega)
  omega
set_option maxRecDepth 100000 in
theorem en_x1 {w k i j : Nat} {x : R4} {q : Int32} (h : de_s M w k) (hi : i < 2 ^ w) (hj : j < 2 ^ w) (hb : bd x) (hx : rt_at M 107 (i + 2 ^ w * j) x) (q0 : ¬ q < 0) (q4 : q ≤ 4) (t : Bool) : am_M (d + 3) t nm_X11_entry [aR 0, aI (nI i), aI (nI j), aI q] M (am_q1 (aJ (rp (red k x) q)) M) := by
  obtain ⟨w1, w3, k120, e1, e2, e3, e4, _⟩ := h
  have h8 := w8 w3
  have h64 := ij64 w3 hi hj
  refine ⟨rfl, rfl, rfl, fun X hX => am_run hX 60 _ _ _ _ ?_⟩
  conv => whnf
  rw [e1, sh2 w (by omega)]
  refine ⟨fun c => absurd c (nI_ne0 (by omega) (by omega)), fun _ => ?_⟩
  conv => whnf
  refine ⟨fun c => absurd c (nI_pos (by omega)), fun _ => ?_⟩
  conv => whnf
  refine ⟨fun c => absurd c (nI_ge hi (by omega)), fun _ => ?_⟩
  conv => whnf
  refine ⟨fun c => absurd c (nI_pos (by omega)), fun _ => ?_⟩
  conv => whnf
  refine ⟨fun c => absurd c (nI_ge hj (by omega)), fun _ => ?_⟩
  conv => whnf
  refine ⟨fun c => absurd c q0, fun _ => ?_⟩
  conv => whnf
  refine ⟨fun _ => ?_, fun c => absurd q4 c⟩
  conv => whnf
  rw [nI_mul, nI_add]
  refine am_c1 (ct_part105 (d := d) (i := i + 2 ^ w * j) q h64 hx hb e4 (by omega)) ?_
  conv => whnf
  exact ⟨trivial, rfl, rfl⟩
/-- what entry refuses -/
def en_no (M : mm_M) (p1 p2 q : Int32) : Prop := (M.1 104 1 = 0 ∧ M.1 108 88 = -1) ∨ ∃ w k, de_s M w k ∧ ((p1 < 0 ∨ nI (2 ^ w) ≤ p1) ∨ (p2 < 0 ∨ nI (2 ^ w) ≤ p2) ∨ q < 0 ∨ ¬ q ≤ 4)
set_option maxRecDepth 100000 in
theorem en_x0 {p1 p2 q : Int32} (h : en_no M p1 p2 q) : am_M 999 true nm_X11_entry [aR 0, aI p1, aI p2, aI q] M (fun r M' => r = .inr "java/util/NoSuchElementException" ∧ M' = M) := by
  refine ⟨rfl, rfl, rfl, fun X hX => am_run hX 60 _ _ _ _ ?_⟩
  conv => whnf
  refine ⟨fun c => ?_, fun c => ?_⟩
  · conv => whnf
    exact ⟨⟨by decide, rfl⟩, rfl, rfl⟩
  · rcases h with h | ⟨w, k, h, hx⟩
    · exact absurd h.1 c
    · have h3 := h.2.1
      rw [h.2.2.2.1, sh2 w (by omega)]
      conv => whnf
      refine ⟨fun c1 => ?_, fun c1 => ?_⟩
      · conv => whnf
        exact ⟨⟨by decide, rfl⟩, rfl, rfl⟩
      · conv => whnf
        refine ⟨fun c2 => ?_, fun c2 => ?_⟩
        · conv => whnf
          exact ⟨⟨by decide, rfl⟩, rfl, rfl⟩
        · conv => whnf
          refine ⟨fun c3 => ?_, fun c3 => ?_⟩
          · conv => whnf
            exact ⟨⟨by decide, rfl⟩, rfl, rfl⟩
          · conv => whnf
            refine ⟨fun c4 => ?_, fun c4 => ?_⟩
            · conv => whnf
              exact ⟨⟨by decide, rfl⟩, rfl, rfl⟩
            · conv => whnf
              refine ⟨fun c5 => ?_, fun c5 => ?_⟩
              · conv => whnf
                exact ⟨⟨by decide, rfl⟩, rfl, rfl⟩
              · conv => whnf
                refine ⟨fun c6 => ?_, fun c6 => ?_⟩
                · rcases hx with (hx | hx) | (hx | hx) | hx | hx
                  · exact absurd hx c1
                  · exact absurd hx c2
                  · exact absurd hx c3
                  · exact absurd hx c4
                  · exact absurd hx c5
                  · exact absurd c6 hx
                · conv => whnf
                  exact ⟨⟨by decide, rfl⟩, rfl, rfl⟩
theorem ce_e (i j : Nat) : (5 : Int32) * (8 * nI i + nI j) = nI (5 * (8 * i + j)) := by
  rw [show (5 : Int32) = nI 5 from rfl, show (8 : Int32) = nI 8 from rfl, nI_mul, nI_add, nI_mul]
set_option maxRecDepth 100000 in
theorem ct_cell (i j : Nat) : am_M (d + 1) false nm_X12_cellOf [aI (nI i), aI (nI j)] M (am_q1 (aI (nI (5 * (8 * i + j)))) M) := by
  rw [← ce_e]
  refine ⟨rfl, rfl, rfl, fun X hX => am_run hX 20 _ _ _ _ ?_⟩
  conv => whnf
  exact ⟨trivial, rfl, rfl⟩
set_option maxRecDepth 100000 in
theorem en_m1 {w k i j : Nat} {x : R4} {q : Int32} (h : de_s M w k) (hi : i < 2 ^ w) (hj : j < 2 ^ w) (hx : rf_at M 162 (8 * i + j) (red k x)) (q0 : ¬ q < 0) (q4 : q ≤ 4) : am_M (d + 2) false nm_X12_entry [aR 108, aI (nI i), aI (nI j), aI q] M (fun r M' => r = .inl (some (aJ (rp (red k x) q))) ∧ ∃ f, M' = th0 (mm_l M 118 f)) := by
  obtain ⟨w1, w3, k120, e1, e2, e3, e4, _⟩ := h
  have h8 := w8 w3
  refine ⟨rfl, rfl, rfl, fun X hX => am_run hX 60 _ _ _ _ ?_⟩
  conv => whnf
  rw [e2]
  refine ⟨fun c => absurd c (nI_nm (by omega)), fun _ => ?_⟩
  conv => whnf
  refine ⟨fun c => absurd c (nI_pos (by omega)), fun _ => ?_⟩
  conv => whnf
  refine ⟨fun c => absurd c (nI_pos (by omega)), fun _ => ?_⟩
  conv => whnf
  rw [e2, sh2 w (by omega)]
  refine ⟨fun c => absurd c (nI_ge hi (by omega)), fun _ => ?_⟩
  conv => whnf
  rw [e2, sh2 w (by omega)]
  refine ⟨fun c => absurd c (nI_ge hj (by omega)), fun _ => ?_⟩
  conv => whnf
  refine ⟨fun c => absurd c (by decide), fun _ => ?_⟩
  conv => whnf
  refine am_c1 (ct_cell (d := d) i j) ?_
  conv => whnf
  refine am_c0 (ct_load162 (d := d) (a := 5 * (8 * i + j)) (by omega)) ?_
  conv => whnf
  refine am_c1 (ct_tell1 (d := d) q0 q4) ?_
  conv => whnf
  refine ⟨trivial, ?_, _, rfl⟩
  have hq : q.toNatClampNeg < 5 := by
    obtain ⟨i, hi, rfl⟩ := nI_of q0
    rw [nI_clamp hi]
    apply Decidable.byContradiction
    intro hc
    exact nI_ge (a := 4) (b := i) (by omega) hi q4
  rw [mm_l2, if_pos hq, rf_rp hx q0 q4]
set_option maxRecDepth 100000 in
theorem en_m0 {p1 p2 q : Int32} (h : en_no M p1 p2 q) : am_M (d + 2) false nm_X12_entry [aR 108, aI p1, aI p2, aI q] M (fun r M' => r = .inl (some (aJ 0)) ∧ (M' = th1 M ∨ ∃ f, M' = th1 (mm_l M 118 f))) := by
  refine ⟨rfl, rfl, rfl, fun X hX => am_run hX 80 _ _ _ _ ?_⟩
  conv => whnf
  have hbad : ∀ (Y : am_X), am_K (d + 1) false nm_X12_entry (fun r M' => r = .inl (some (aJ 0)) ∧ (M' = th1 M ∨ ∃ f, M' = th1 (mm_l M 118 f))) Y → ∀ l4, Y 40 [some (aR 108), some (aI p1), some (aI p2), some (aI q), l4] [] M := fun Y hY l4 => by
    refine am_run hY 20 _ _ _ _ ?_
    conv => whnf
    refine ⟨fun _ => ?_, fun c => absurd rfl c⟩
    conv => whnf
    refine am_c1 (ct_tell0 (d := d) (Or.inl rfl)) ?_
    conv => whnf
    exact ⟨trivial, rfl, Or.inl rfl⟩
  have hgo : ∀ n, am_go (d + 1) false (xp_row nm_X12_entry).2.2.2.1 (fun pc => (xp_row nm_X12_entry).2.2.2.2.1.lookup pc) (am_M (d + 1) false) (fun r M' => r = .inl (some (aJ 0)) ∧ (M' = th1 M ∨ ∃ f, M' = th1 (mm_l M 118 f))) X (n + 20) 40 [some (aR 108), some (aI p1), some (aI p2), some (aI q), none] [] M := fun n => by
    conv => whnf
    refine ⟨fun _ => ?_, fun c => absurd rfl c⟩
    conv => whnf
    refine am_c1 (ct_tell0 (d := d) (Or.inl rfl)) ?_
    conv => whnf
    exact ⟨trivial, rfl, Or.inl rfl⟩
  refine ⟨fun c => hgo _, fun c => ?_⟩
  rcases h with h | ⟨w, k, h, hx⟩
  · exact absurd h.2 c
  · have h3 := h.2.1
    have h8 := w8 h3
    have e2 := h.2.2.2.2.1
    conv => whnf
    refine ⟨fun c1 => hgo _, fun c1 => ?_⟩
    conv => whnf
    refine ⟨fun c3 => hgo _, fun c3 => ?_⟩
    conv => whnf
    rw [e2, sh2 w (by omega)]
    refine ⟨fun c2 => hgo _, fun c2 => ?_⟩
    conv => whnf
    rw [e2, sh2 w (by omega)]
    refine ⟨fun c4 => hgo _, fun c4 => ?_⟩
    have hq : q < 0 ∨ 4 < q := by
      rcases hx with (hx | hx) | (hx | hx) | hx | hx
      · exact absurd hx c1
      · exact absurd hx c2
      · exact absurd hx c3
      · exact absurd hx c4
      · exact Or.inl hx
      · exact Or.inr (Int32.not_le.mp hx)
    obtain ⟨i, hi, rfl⟩ := nI_of c1
    obtain ⟨j, hj, rfl⟩ := nI_of c3
    have hiw : i < 2 ^ w := by
      apply Decidable.byContradiction
      intro hc
      exact c2 (nI_le (by omega) hi)
    have hjw : j < 2 ^ w := by
      apply Decidable.byContradiction
      intro hc
      exact c4 (nI_le (by omega) hj)
    conv => whnf
    refine ⟨fun c => absurd c (by decide), fun _ => ?_⟩
    conv => whnf
    refine am_c1 (ct_cell (d := d) i j) ?_
    conv => whnf
    refine am_c0 (ct_load162 (d := d) (a := 5 * (8 * i + j)) (by omega)) ?_
    conv => whnf
    refine am_c1 (ct_tell0 (d := d) (Or.inr hq)) ?_
    conv => whnf
    exact ⟨trivial, rfl, Or.inr ⟨_, rfl⟩⟩
end DEN
section DEP
variable {ac : Nat → ClassId} {lo : Nat} {ad as : Nat → Nat} {b L : Nat} {xs : Nat → Int32} {hp : mm_M → Nat → xm_H} {I J : mm_M → Prop}
theorem pr_entry (H : mm_L ac lo hp) (h1 : ∀ M, I M → de_iv M) (hJ : ∀ M f v, I M → J (th0 (mm_l (lt_o M v) 118 f))) (hJ1 : ∀ M, I M → J (th1 M)) (hJ2 : ∀ M f, I M → J (th1 (mm_l M 118 f))) (p1 p2 q : Int32) : la_TJ ac lo ad as b L xs hp I J nm_L_entry nm_X12_entry [.int p1, .int p2, .int q] := by
  refine lt_entry H p1 p2 q fun M hI => ?_
  have hno : en_no M p1 p2 q → am_M 999 true nm_X11_entry (aR 0 :: [aI p1, aI p2, aI q]) M (fun r M1 => (∃ v, r = .inl (some (aJ v)) ∧ am_M 1000 false nm_X12_entry (aR 108 :: [aI p1, aI p2, aI q]) (lt_o M1 v) (fun r' M2 => r' = .inl (some (aJ v)) ∧ M2.1 108 0 = 0 ∧ M2.2 202 0 = v ∧ J M2)) ∨ (r = .inr "java/util/NoSuchElementException" ∧ am_M 1000 false nm_X12_entry (aR 108 :: [aI p1, aI p2, aI q]) M1 (fun r' M2 => (∃ w, r' = .inl (some (aJ w))) ∧ M2.1 108 0 = 1 ∧ J M2))) := fun hx => by
    refine am_wk (en_x0 hx) fun r M1 e => Or.inr ⟨e.1, ?_⟩
    rw [e.2]
    refine am_wk (en_m0 (d := 998) hx) ?_
    rintro r M2 ⟨rfl, rfl | ⟨f, rfl⟩⟩
    · exact ⟨⟨0, rfl⟩, by simp [th1, mm_i, upd], hJ1 M hI⟩
    · exact ⟨⟨0, rfl⟩, by simp [th1, mm_i, upd], hJ2 M f hI⟩
  rcases h1 M hI with h | ⟨w, k, h⟩
  · exact hno (Or.inl h)
  · by_cases hx : (p1 < 0 ∨ nI (2 ^ w) ≤ p1) ∨ (p2 < 0 ∨ nI (2 ^ w) ≤ p2) ∨ q < 0 ∨ ¬ q ≤ 4
    · exact hno (Or.inr ⟨w, k, h, hx⟩)
    · have h8 := w8 h.2.1
      have a0 : ¬ p1 < 0 := fun c => hx (Or.inl (Or.inl c))
      have as' : ¬ nI (2 ^ w) ≤ p1 := fun c => hx (Or.inl (Or.inr c))
      have b0 : ¬ p2 < 0 := fun c => hx (Or.inr (Or.inl (Or.inl c)))
      have bs : ¬ nI (2 ^ w) ≤ p2 := fun c => hx (Or.inr (Or.inl (Or.inr c)))
      have q0 : ¬ q < 0 := fun c => hx (Or.inr (Or.inr (Or.inl c)))
      have q4 : q ≤ 4 := Decidable.byContradiction fun c => hx (Or.inr (Or.inr (Or.inr c)))
      obtain ⟨i, hi, rfl⟩ := nI_of a0
      obtain ⟨j, hj, rfl⟩ := nI_of b0
      have hiw : i < 2 ^ w := by
        apply Decidable.byContradiction
        intro hc
        exact as' (nI_le (by omega) hi)
      have hjw : j < 2 ^ w := by
        apply Decidable.byContradiction
        intro hc
        exact bs (nI_le (by omega) hj)
      obtain ⟨x, hb, xt, xf⟩ := h.2.2.2.2.2.2.2.2.2 i j hiw hjw
      refine am_wk (en_x1 (d := 996) h hiw hjw hb xt q0 q4 true) fun r M1 e => Or.inl ⟨_, e.1, ?_⟩
      rw [e.2]
      have h' : ∀ v, de_s (lt_o M v) w k := fun v => h
      refine am_wk (en_m1 (d := 998) (M := lt_o M _) (x := x) (h' _) hiw hjw xf q0 q4) ?_
      rintro r M2 ⟨rfl, f, rfl⟩
      exact ⟨rfl, by simp [th0, mm_i, upd], by simp [th0, lt_o, mm_i, mm_l, vp_updL], hJ M f _ hI⟩
end DEP
