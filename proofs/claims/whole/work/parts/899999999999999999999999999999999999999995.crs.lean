/-! circuit: the class reads a TEXT -/
/-- STATEMENTS one after another, with what is laid out -/
def PSg (T : Nat → Nat) (t W : Nat) : Nat → CX → GS → CX → GS → Prop
  | 0, c, s, c', s' => c = c' ∧ s = s'
  | m + 1, c, s, c', s' => ∃ e c1, tkE T t W c = .inr (e, c1) ∧ PSg T t W m c1 (clS e c c1 s) c' s'
/-- it is no TEXT, found there -/
def PRu (T : Nat → Nat) (t W : Nat) (c : CX) (p : Nat) : Prop := ∃ m c1, PSn T t W m c c1 ∧ tkE T t W c1 = .inl p ∧ (crC T t (cxI c1) ≠ 0 ∨ cxD c1 ≠ 0)
theorem PSg_n {T : Nat → Nat} {t W : Nat} : ∀ (m : Nat) {c c' : CX} {s s' : GS}, PSg T t W m c s c' s' → PSn T t W m c c'
  | 0, c, c', s, s', h => h.1
  | m + 1, c, c', s, s', h => by
    obtain ⟨e, c1, h1, h2⟩ := h
    exact ⟨e, c1, h1, PSg_n m h2⟩
theorem PSg_e {T : Nat → Nat} {t W : Nat} : ∀ (m : Nat) {c c1 c2 : CX} {s s1 : GS} {e : Ev}, PSg T t W m c s c1 s1 → tkE T t W c1 = .inr (e, c2) → PSg T t W (m + 1) c s c2 (clS e c1 c2 s1)
  | 0, c, c1, c2, s, s1, e, h, g => by
    obtain ⟨rfl, rfl⟩ := h
    exact ⟨e, c2, g, rfl, rfl⟩
  | m + 1, c, c1, c2, s, s1, e, h, g => by
    obtain ⟨e', c', h1, h2⟩ := h
    exact ⟨e', c', h1, PSg_e m h2 g⟩
def c0X (T : Nat → Nat) (t W : Nat) : CX := (crA T t (crA T t 0), 0, W, 0, 4, false, fun _ => 0)
def s0X : GS := ([], (0, 0), fun _ => (0, (0, 0), 0), fun _ => [])
/-- it is no TEXT -/
def txR (T : Nat → Nat) (t p : Nat) : Prop := (¬ (49 ≤ crC T t 0 ∧ crC T t 0 ≤ 56) ∧ p = crP T t 0) ∨ ((49 ≤ crC T t 0 ∧ crC T t 0 ≤ 56) ∧ crC T t (crA T t 0) ≠ 58 ∧ p = crP T t (crA T t 0)) ∨ ((49 ≤ crC T t 0 ∧ crC T t 0 ≤ 56) ∧ crC T t (crA T t 0) = 58 ∧ PRu T t (crC T t 0 - 48) (c0X T t (crC T t 0 - 48)) p)
/-- it is a TEXT -/
def txG (T : Nat → Nat) (t W : Nat) (c : CX) (s : GS) : Prop := (49 ≤ crC T t 0 ∧ crC T t 0 ≤ 56) ∧ crC T t (crA T t 0) = 58 ∧ W = crC T t 0 - 48 ∧ (∃ m, PSg T t W m (c0X T t W) s0X c s) ∧ crC T t (cxI c) = 0 ∧ cxD c = 0
/-- what reading comes to: FAULT -/
def rdN (T : Nat → Nat) (t : Nat) (N : mm_M) : Prop := (∃ p, txR T t p ∧ p ≤ t ∧ N.1 2 19 = nI (8 * p + 1)) ∨ ∃ W c s, txG T t W c s ∧ N.1 2 10 = nI W ∧ opC N (gO s) ∧ gIv W c s ∧ gI3 c s ∧ cxR c = 4 ∧ cxW c = W ∧ cxF c < 2 ^ 20 ∧ ((cxF c ≠ 0 ∧ N.1 2 19 = nI (cxF c)) ∨ (cxF c = 0 ∧ okL (gO s) ∧ N.1 2 19 = 0) ∨ (cxF c = 0 ∧ ¬ okL (gO s) ∧ N.1 2 19 = 5))
theorem tk_0 {T : Nat → Nat} {t W : Nat} {c : CX} (hT : ∀ j, j < t → 32 ≤ T j) (h : crC T t (cxI c) = 0) (hi : cxI c ≤ t) : tkE T t W c = .inl t := by
  have e : crP T t (cxI c) = t := by
    by_cases q : crP T t (cxI c) < t
    · unfold crC seV at h
      rw [if_pos q] at h
      have := hT _ q
      omega
    · have := crp_1 (T := T) hi
      omega
  unfold tkE
  rw [h]
  rw [if_neg (by omega), if_neg (by decide), if_neg (by decide), if_neg (by decide), if_neg (by decide), if_neg (by decide), if_neg (by decide)]
  have e0 : pfx T t (cxW c) 400 0 (crP T t (cxI c)) (crA T t (cxI c)) (cxF c) 0 [] = .inr (0, crP T t (cxI c), crA T t (cxI c), cxF c, 0, [], false) := rfl
  rw [e0, e]
  rfl
section CRT
variable {d : Nat} {M : mm_M} {T : Nat → Nat} {t W : Nat} {c : CX} {s : GS}
set_option maxRecDepth 100000 in
theorem fi_l6 {v : Int32} {P : am_Q} {X : am_X} (hX : am_K d false nm_J7_fill_53178 P X) (hP : P (.inl none) (mm_i M 6 (fun j => if j < 4 then v else M.1 6 j))) : ∀ (m i : Nat), i + m = 4 → X 5 [some (aR 6), some (aI v), some (aI (nI i)), some (aI (nI 4))] [] (mm_i M 6 (fun j => if j < i then v else M.1 6 j)) := by
  intro m
  induction m with
  | zero =>
    intro i hi
    have hi : i = 4 := by omega
    subst hi
    refine am_run hX 4 _ _ _ _ ?_
    conv => whnf
    refine ⟨fun _ => ?_, fun c => absurd (by decide) c⟩
    conv => whnf
    exact ⟨trivial, hP⟩
  | succ m ih =>
    intro i hi
    refine am_run hX 3 _ _ _ _ ?_
    conv => whnf
    refine ⟨fun c => absurd c (nI_ge (by omega) (by decide)), fun _ => ?_⟩
    refine am_run hX 6 _ _ _ _ ?_
    conv => whnf
    refine ⟨vp_in_nI (by show _ < 4; omega) (by decide), ?_⟩
    conv => whnf
    rw [nI_clamp (n := i) (by omega), nI_1, mi_two, mm_i1]
    have e : upd (fun j => if j < i then v else M.1 6 j) i v = fun j => if j < i + 1 then v else M.1 6 j := by
      funext j
      unfold upd
      by_cases h : j = i
      · rw [if_pos h, if_pos (by omega)]
      · rw [if_neg h]
        dsimp only
        by_cases h2 : j < i
        · rw [if_pos h2, if_pos (by omega)]
        · rw [if_neg h2, if_neg (by omega)]
    rw [e]
    exact ih (i + 1) (by omega)
set_option maxRecDepth 100000 in
theorem ct_fi6 {v : Int32} : am_M (d + 1) false nm_J7_fill_53178 [aR 6, aI v] M (am_q0 (mm_i M 6 (fun j => if j < 4 then v else M.1 6 j))) := by
  refine ⟨rfl, rfl, rfl, fun X hX => am_run hX 5 _ _ _ _ ?_⟩
  conv => whnf
  have key := fi_l6 (M := M) (v := v) hX ⟨rfl, rfl⟩ 4 0 (by omega)
  have e : (fun j => if j < 0 then v else M.1 6 j) = M.1 6 := by
    funext j
    rw [if_neg (by omega)]
  rw [e, mm_iz] at key
  exact key
set_option maxRecDepth 100000 in
theorem ct_stO : am_M (d + 2) false nm_X5_startOver [aR 2, aR 1, aI (nI t)] M (fun r N => r = .inl none ∧ ((∀ k, k ≠ 2 → k ≠ 6 → N.1 k = M.1 k) ∧ N.2 = M.2) ∧ (N.1 2 6 = 1 ∧ N.1 2 7 = nI t ∧ N.1 2 8 = 0 ∧ N.1 2 12 = 0 ∧ N.1 2 13 = 0 ∧ N.1 2 14 = 0 ∧ N.1 2 15 = -1 ∧ N.1 2 16 = 0 ∧ N.1 2 19 = 0) ∧ ∀ l, l < 4 → N.1 6 l = 0) := by
  refine ⟨rfl, rfl, rfl, fun X hX => am_run hX 3 _ _ _ _ ?_⟩
  conv => whnf
  refine ⟨fun q => ⟨rfl, rfl⟩, ?_⟩
  generalize h1 : mm_i M 2 _ = N1
  have F1 : r2F [6] M N1 := by rw [← h1]; exact r2F_u M _ rfl
  have a1 : N1.1 2 6 = 1 := by rw [← h1]; exact r2_at _ _ _
  refine am_run hX 3 _ _ _ _ ?_
  conv => whnf
  generalize h2 : mm_i N1 2 _ = N2
  have F2 : r2F [7] N1 N2 := by rw [← h2]; exact r2F_u N1 _ rfl
  have a2 : N2.1 2 7 = nI t := by rw [← h2]; exact r2_at _ _ _
  refine am_run hX 3 _ _ _ _ ?_
  conv => whnf
  generalize h3 : mm_i N2 2 _ = N3
  have F3 : r2F [8] N2 N3 := by rw [← h3]; exact r2F_u N2 _ rfl
  have a3 : N3.1 2 8 = 0 := by rw [← h3]; exact r2_at _ _ _
  refine am_run hX 3 _ _ _ _ ?_
  conv => whnf
  generalize h4 : mm_i N3 2 _ = N4
  have F4 : r2F [12] N3 N4 := by rw [← h4]; exact r2F_u N3 _ rfl
  have a4 : N4.1 2 12 = 0 := by rw [← h4]; exact r2_at _ _ _
  refine am_run hX 3 _ _ _ _ ?_
  conv => whnf
  generalize h5 : mm_i N4 2 _ = N5
  have F5 : r2F [13] N4 N5 := by rw [← h5]; exact r2F_u N4 _ rfl
  have a5 : N5.1 2 13 = 0 := by rw [← h5]; exact r2_at _ _ _
  refine am_run hX 3 _ _ _ _ ?_
  conv => whnf
  generalize h6 : mm_i N5 2 _ = N6
  have F6 : r2F [14] N5 N6 := by rw [← h6]; exact r2F_u N5 _ rfl
  have a6 : N6.1 2 14 = 0 := by rw [← h6]; exact r2_at _ _ _
  refine am_run hX 3 _ _ _ _ ?_
  conv => whnf
  generalize h7 : mm_i N6 2 _ = N7
  have F7 : r2F [15] N6 N7 := by rw [← h7]; exact r2F_u N6 _ rfl
  have a7 : N7.1 2 15 = -1 := by rw [← h7]; exact r2_at _ _ _
  refine am_run hX 3 _ _ _ _ ?_
  conv => whnf
  refine ⟨⟨rfl, rfl⟩, ?_⟩
  generalize h8 : mm_i N7 2 _ = N8
  have F8 : r2F [16] N7 N8 := by rw [← h8]; exact r2F_u N7 _ rfl
  have a8 : N8.1 2 16 = 0 := by rw [← h8]; exact r2_at _ _ _
  refine am_run hX 3 _ _ _ _ ?_
  conv => whnf
  generalize h9 : mm_i N8 2 _ = N9
  have F9 : r2F [19] N8 N9 := by rw [← h9]; exact r2F_u N8 _ rfl
  have a9 : N9.1 2 19 = 0 := by rw [← h9]; exact r2_at _ _ _
  refine am_run hX 4 _ _ _ _ ?_
  conv => whnf
  refine am_c0 (ct_fi6 (d := d) (M := N9) (v := 0)) ?_
  refine am_run hX 1 _ _ _ _ ?_
  conv => whnf
  refine ⟨trivial, rfl, ⟨fun k q1 q2 => ?_, ?_⟩, ⟨?_, ?_, ?_, ?_, ?_, ?_, ?_, ?_, ?_⟩, fun l hl => ?_⟩
  · rw [mm_ne _ _ _ _ q2, F9.1 k q1, F8.1 k q1, F7.1 k q1, F6.1 k q1, F5.1 k q1, F4.1 k q1, F3.1 k q1, F2.1 k q1, F1.1 k q1]
  · show N9.2 = M.2
    rw [F9.2.2, F8.2.2, F7.2.2, F6.2.2, F5.2.2, F4.2.2, F3.2.2, F2.2.2, F1.2.2]
  · rw [mm_ne _ _ _ _ (by decide), F9.2.1 6 rfl, F8.2.1 6 rfl, F7.2.1 6 rfl, F6.2.1 6 rfl, F5.2.1 6 rfl, F4.2.1 6 rfl, F3.2.1 6 rfl, F2.2.1 6 rfl]; exact a1
  · rw [mm_ne _ _ _ _ (by decide), F9.2.1 7 rfl, F8.2.1 7 rfl, F7.2.1 7 rfl, F6.2.1 7 rfl, F5.2.1 7 rfl, F4.2.1 7 rfl, F3.2.1 7 rfl]; exact a2
  · rw [mm_ne _ _ _ _ (by decide), F9.2.1 8 rfl, F8.2.1 8 rfl, F7.2.1 8 rfl, F6.2.1 8 rfl, F5.2.1 8 rfl, F4.2.1 8 rfl]; exact a3
  · rw [mm_ne _ _ _ _ (by decide), F9.2.1 12 rfl, F8.2.1 12 rfl, F7.2.1 12 rfl, F6.2.1 12 rfl, F5.2.1 12 rfl]; exact a4
  · rw [mm_ne _ _ _ _ (by decide), F9.2.1 13 rfl, F8.2.1 13 rfl, F7.2.1 13 rfl, F6.2.1 13 rfl]; exact a5
  · rw [mm_ne _ _ _ _ (by decide), F9.2.1 14 rfl, F8.2.1 14 rfl, F7.2.1 14 rfl]; exact a6
  · rw [mm_ne _ _ _ _ (by decide), F9.2.1 15 rfl, F8.2.1 15 rfl]; exact a7
  · rw [mm_ne _ _ _ _ (by decide), F9.2.1 16 rfl]; exact a8
  · rw [mm_ne _ _ _ _ (by decide)]; exact a9
  · rw [mm_i1]
    exact if_pos hl
/-- what WIRES come to -/
def rwQ (M : mm_M) (T : Nat → Nat) (t : Nat) (r : am_R) (N : mm_M) : Prop := r2F [8, 9, 10, 11, 19] M N ∧ ((¬ (49 ≤ crC T t 0 ∧ crC T t 0 ≤ 56) ∧ r = .inl (some (aI 0)) ∧ N.1 2 19 = nI (8 * crP T t 0 + 1)) ∨ ((49 ≤ crC T t 0 ∧ crC T t 0 ≤ 56) ∧ crC T t (crA T t 0) ≠ 58 ∧ r = .inl (some (aI 0)) ∧ N.1 2 19 = nI (8 * crP T t (crA T t 0) + 1)) ∨ ((49 ≤ crC T t 0 ∧ crC T t 0 ≤ 56) ∧ crC T t (crA T t 0) = 58 ∧ r = .inl (some (aI 1)) ∧ N.1 2 19 = M.1 2 19 ∧ N.1 2 8 = nI (crA T t (crA T t 0)) ∧ N.1 2 10 = nI (crC T t 0 - 48) ∧ N.1 2 11 = nI (crC T t 0 - 48)))
set_option maxRecDepth 100000 in
theorem ct_rdW (hT : rdX M T t) (h8 : M.1 2 8 = 0) : am_M (d + 2) false nm_X5_readWidth [aR 2] M (rwQ M T t) := by
  refine ⟨rfl, rfl, rfl, fun X hX => am_run hX 2 _ _ _ _ ?_⟩
  conv => whnf
  refine am_cq (ct_take5 (d := d) (i := 0) hT (Nat.zero_le _) h8) ?_
  rintro r1 N1 ⟨rfl, f1, m8, m9⟩
  refine ⟨_, rfl, ?_⟩
  have ch := crc_d hT 0
  have a1 := cra_1 (T := T) (Nat.zero_le t)
  have bad : ¬ (49 ≤ crC T t 0 ∧ crC T t 0 ≤ 56) → X 17 [some (aR 2), some (aI (nI (crC T t 0)))] [] N1 := by
    intro no
    refine am_run hX 2 _ _ _ _ ?_
    conv => whnf
    refine am_cq (ct_brok (d := d) m9) ?_
    rintro r2 N2 ⟨rfl, f2, e2⟩
    refine ⟨_, rfl, ?_⟩
    refine am_run hX 1 _ _ _ _ ?_
    conv => whnf
    exact ⟨rfl, r2F_t (r2F_w (by decide) f1) (r2F_w (by decide) f2), Or.inl ⟨no, rfl, e2⟩⟩
  refine am_run hX 4 _ _ _ _ ?_
  conv => whnf
  rw [show (49 : Int32) = nI 49 from rfl]
  by_cases q1 : crC T t 0 < 49
  · exact ⟨fun _ => bad (fun z => by omega), fun z => absurd (nI_lt q1 (by decide)) z⟩
  · refine ⟨fun z => absurd z (nI_nlt (by omega) (by omega)), fun _ => ?_⟩
    refine am_run hX 3 _ _ _ _ ?_
    conv => whnf
    rw [show (56 : Int32) = nI 56 from rfl]
    by_cases q2 : crC T t 0 ≤ 56
    · refine ⟨fun _ => ?_, fun z => absurd (nI_le q2 (by decide)) z⟩
      have yes : 49 ≤ crC T t 0 ∧ crC T t 0 ≤ 56 := ⟨by omega, q2⟩
      refine am_run hX 5 _ _ _ _ ?_
      conv => whnf
      rw [show (48 : Int32) = nI 48 from rfl, nI_sub (by omega)]
      generalize h2 : mm_i N1 2 _ = N2
      have F2 : r2F [10] N1 N2 := by rw [← h2]; exact r2F_u N1 _ rfl
      have a2 : N2.1 2 10 = nI (crC T t 0 - 48) := by rw [← h2]; exact r2_at _ _ _
      refine am_run hX 4 _ _ _ _ ?_
      conv => whnf
      rw [a2]
      generalize h3 : mm_i N2 2 _ = N3
      have F3 : r2F [11] N2 N3 := by rw [← h3]; exact r2F_u N2 _ rfl
      have a3 : N3.1 2 11 = nI (crC T t 0 - 48) := by rw [← h3]; exact r2_at _ _ _
      have hT3 := rdX_f ⟨rfl, rfl⟩ F3 (rdX_f ⟨rfl, rfl⟩ F2 (rdX_f ⟨rfl, rfl⟩ f1 hT))
      refine am_run hX 2 _ _ _ _ ?_
      conv => whnf
      refine am_cq (ct_take5 (d := d) hT3 a1.2.1 (by rw [F3.2.1 8 rfl, F2.2.1 8 rfl]; exact m8)) ?_
      rintro r4 N4 ⟨rfl, f4, n8, n9⟩
      refine ⟨_, rfl, ?_⟩
      have G : r2F [8, 9, 10, 11, 19] M N4 := r2F_t (r2F_w (by decide) f1) (r2F_t (r2F_w (by decide) F2) (r2F_t (r2F_w (by decide) F3) (r2F_w (by decide) f4)))
      have ch2 := crc_d hT (crA T t 0)
      refine am_run hX 2 _ _ _ _ ?_
      conv => whnf
      rw [show (58 : Int32) = nI 58 from rfl, nI_eq (by omega) (by decide)]
      by_cases q : crC T t (crA T t 0) = 58
      · refine ⟨fun _ => ?_, fun z => absurd q z⟩
        refine am_run hX 3 _ _ _ _ ?_
        conv => whnf
        refine ⟨rfl, G, Or.inr (Or.inr ⟨yes, q, rfl, ?_, n8, ?_, ?_⟩)⟩
        · rw [f4.2.1 19 rfl, F3.2.1 19 rfl, F2.2.1 19 rfl, f1.2.1 19 rfl]
        · rw [f4.2.1 10 rfl, F3.2.1 10 rfl]; exact a2
        · rw [f4.2.1 11 rfl]; exact a3
      · refine ⟨fun z => absurd z q, fun _ => ?_⟩
        refine am_run hX 2 _ _ _ _ ?_
        conv => whnf
        refine am_cq (ct_brok (d := d) n9) ?_
        rintro r5 N5 ⟨rfl, f5, e5⟩
        refine ⟨_, rfl, ?_⟩
        refine am_run hX 1 _ _ _ _ ?_
        conv => whnf
        refine ⟨fun _ => ?_, fun z => absurd rfl z⟩
        refine am_run hX 2 _ _ _ _ ?_
        conv => whnf
        exact ⟨rfl, r2F_t G (r2F_w (by decide) f5), Or.inr (Or.inl ⟨yes, q, rfl, e5⟩)⟩
    · exact ⟨fun z => absurd z (nI_ge (a := 56) (by omega) (by omega)), fun _ => bad (fun z => q2 z.2)⟩
end CRT
