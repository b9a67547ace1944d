/-! circuit: what reading comes to, at the reference -/
def rbX (c : CX) : Bool := !decide (cxR c = 4)
/-- a ROUTINE at the reference -/
def roD (M : mm_M) (tl k : Nat) (Q : Nat → Nat × Tr) (Tw : Nat → Nat) (R : Nat → List bk_X) (l : Nat) : Prop := M.1 129 l = nI (Q l).1 ∧ M.1 130 l = nI ((Q l).1 + (Q l).2.length) ∧ (Q l).1 + (Q l).2.length ≤ k ∧ trH M tl (Q l).1 (Q l).2 ∧ ekB Q Tw true (Tw l) (Q l).1 (Q l).2 ∧ R l = jtF R (Q l).2
def RIf (M : mm_M) (W : Nat) (c : CX) : Prop := M.1 108 33 = nI (cxW c) ∧ M.1 108 32 = nI (cxD c) ∧ M.1 108 34 = b01 (rbX c) ∧ (cxR c = 4 → M.1 108 35 = b01 (cxA c) ∧ cxW c = W) ∧ (cxR c ≠ 4 → cxA c = false)
def RIg (M : mm_M) (c : CX) (s : GS) (k tl : Nat) (Q : Nat → Nat × Tr) : Prop := (M.1 108 19 = nI k ∧ 3 * k ≤ cxI c) ∧ (M.1 108 27 = nI tl ∧ tl ≤ cxI c) ∧ (∀ l, l < 4 → M.1 128 l = nI (cxT c l)) ∧ (cxF c = 0 → ∀ l, l < 4 → cxT c l ≠ 0 → roD M tl k Q (cxT c) (gR s) l)
/-- the reference between two STATEMENTS -/
def RIv (M : mm_M) (T : Nat → Nat) (t W : Nat) (c : CX) (s : GS) (k tl : Nat) (Q : Nat → Nat × Tr) : Prop := rjX M T t ∧ rjA M T t (cxI c) ∧ rjN M (cxF c) ∧ RIf M W c ∧ RIg M c s k tl Q ∧ gIv W c s ∧ gI2 c s
/-- OPS of STATEMENTS that were read -/
def jtP (c : CX) (s : GS) (Q : Nat → Nat × Tr) (c1 : CX) (s1 : GS) (Q1 : Nat → Nat × Tr) (k : Nat) (Ss : List (Ev × Tr)) : Prop := cxF c = 0 ∧ gQ s1 = gQ s ∧ (∀ j, j < cxD c → gS s1 j = gS s j) ∧ (∀ l, l < 4 → cxT c l ≠ 0 → cxT c1 l = cxT c l ∧ Q1 l = Q l ∧ gR s1 l = gR s l) ∧ wfT Q1 (cxT c1) (rbX c) (cxW c) k (flT Ss) ∧ gO s1 = gO s ++ (jtF (gR s1) (flT Ss)).map (adA (gQ s))
def rdS : List Nat := [3, 17, 18, 19, 27, 32, 33, 34, 35]
def rdU : List Nat := [3, 4, 5, 17, 18, 19, 27, 32, 33, 34, 35]
def rdC : List Nat := [120, 121, 122, 123, 124, 125, 126, 127, 128, 129, 130]
/-- STATEMENTS were read -/
def stD (M N : mm_M) (T : Nat → Nat) (t W : Nat) (c : CX) (s : GS) (k tl : Nat) (Q : Nat → Nat × Tr) (c1 : CX) (s1 : GS) (k1 tl1 : Nat) (Q1 : Nat → Nat × Tr) (Ss : List (Ev × Tr)) : Prop := RIv N T t W c1 s1 k1 tl1 Q1 ∧ k1 = k + (flT Ss).length ∧ tl ≤ tl1 ∧ rjF rdS rdC M N ∧ kpt k tl M N ∧ trH N tl1 k (flT Ss) ∧ (∃ m, PSg T t W m c s c1 s1) ∧ (cxD c1 = cxD c ∧ cxR c1 = cxR c ∧ cxW c1 = cxW c ∧ cxI c ≤ cxI c1) ∧ ((cxR c ≠ 4 ∨ cxA c = true) → cxT c1 = cxT c ∧ Q1 = Q ∧ gR s1 = gR s ∧ (cxA c = true → cxA c1 = true)) ∧ (cxF c1 = 0 → jtP c s Q c1 s1 Q1 k Ss)
/-- it is no TEXT -/
def stN (M N : mm_M) (T : Nat → Nat) (t W : Nat) (c : CX) : Prop := rjF rdU rdC M N ∧ ∃ p, PRu T t W c p ∧ N.1 108 4 = 1 ∧ N.1 108 5 = nI p
theorem PSg_t {T : Nat → Nat} {t W : Nat} : ∀ (m n : Nat) {a b c : CX} {s s1 s2 : GS}, PSg T t W m a s b s1 → PSg T t W n b s1 c s2 → PSg T t W (m + n) a s c s2
  | 0, n, a, b, c, s, s1, s2, h, g => by
    obtain ⟨h1, h2⟩ := h
    subst h1
    subst h2
    rw [Nat.zero_add]
    exact g
  | m + 1, n, a, b, c, s, s1, s2, h, g => by
    obtain ⟨e, c1, h1, h2⟩ := h
    rw [show m + 1 + n = (m + n) + 1 by omega]
    exact ⟨e, c1, h1, PSg_t m n h2 g⟩
theorem PRu_t {T : Nat → Nat} {t W m : Nat} {c c1 : CX} {p : Nat} (h : PSn T t W m c c1) (g : PRu T t W c1 p) : PRu T t W c p := by
  obtain ⟨n, c2, a, b, e⟩ := g
  exact ⟨m + n, c2, PS_t m n h a, b, e⟩
theorem stD_r {M : mm_M} {T : Nat → Nat} {t W : Nat} {c : CX} {s : GS} {k tl : Nat} {Q : Nat → Nat × Tr} (h : RIv M T t W c s k tl Q) : stD M M T t W c s k tl Q c s k tl Q [] := by
  refine ⟨h, rfl, Nat.le_refl _, rjF_r _ _ M, kpt_r _ _ M, fun j hj => absurd hj (by show ¬ j < 0; omega), ⟨0, rfl, rfl⟩, ⟨rfl, rfl, rfl, Nat.le_refl _⟩, fun _ => ⟨rfl, rfl, rfl, fun z => z⟩, fun z => ⟨z, rfl, fun _ _ => rfl, fun _ _ _ => ⟨rfl, rfl, rfl⟩, wf_0 _ _ _ _ _, ?_⟩⟩
  show gO s = gO s ++ []
  rw [List.append_nil]
theorem stD_t {M N K : mm_M} {T : Nat → Nat} {t W : Nat} {c c1 c2 : CX} {s s1 s2 : GS} {k tl k1 tl1 k2 tl2 : Nat} {Q Q1 Q2 : Nat → Nat × Tr} {A B : List (Ev × Tr)} (h : stD M N T t W c s k tl Q c1 s1 k1 tl1 Q1 A) (g : stD N K T t W c1 s1 k1 tl1 Q1 c2 s2 k2 tl2 Q2 B) : stD M K T t W c s k tl Q c2 s2 k2 tl2 Q2 (A ++ B) := by
  obtain ⟨h1, h2, h3, h4, h5, h6, ⟨m1, h7⟩, ⟨p1, p2, p3, p4⟩, h9, h10⟩ := h
  obtain ⟨g1, g2, g3, g4, g5, g6, ⟨m2, g7⟩, ⟨q1, q2, q3, q4⟩, g9, g10⟩ := g
  refine ⟨g1, ?_, by omega, rjF_t h4 g4, kpt_t h5 (kpt_w (by omega) h3 g5), ?_, ⟨m1 + m2, PSg_t m1 m2 h7 g7⟩, ⟨q1.trans p1, q2.trans p2, q3.trans p3, by omega⟩, fun z => ?_, fun z => ?_⟩
  · rw [fl_a, List.length_append]
    omega
  · rw [fl_a]
    refine trH_a (trH_k g5 (by omega) g3 h6) ?_
    rw [← h2]
    exact g6
  · obtain ⟨a1, a2, a3, a4⟩ := h9 z
    have z1 : cxR c1 ≠ 4 ∨ cxA c1 = true := by
      rcases z with z | z
      · exact Or.inl (by rw [p2]; exact z)
      · exact Or.inr (a4 z)
    obtain ⟨b1, b2, b3, b4⟩ := g9 z1
    exact ⟨b1.trans a1, b2.trans a2, b3.trans a3, fun y => b4 (a4 y)⟩
  · obtain ⟨b1, b2, b3, b4, b5, b6⟩ := g10 z
    obtain ⟨a1, a2, a3, a4, a5, a6⟩ := h10 b1
    have e1 : rbX c1 = rbX c := by unfold rbX; rw [p2]
    refine ⟨a1, b2.trans a2, fun j hj => (b3 j (by omega)).trans (a3 j hj), fun l l4 lz => ?_, ?_, ?_⟩
    · obtain ⟨x1, x2, x3⟩ := a4 l l4 lz
      obtain ⟨y1, y2, y3⟩ := b4 l l4 (by rw [x1]; exact lz)
      exact ⟨y1.trans x1, y2.trans x2, y3.trans x3⟩
    · rw [fl_a]
      refine wf_a (wf_q (fun l l4 lz => ⟨(b4 l l4 lz).1, (b4 l l4 lz).2.1⟩) a5) ?_
      rw [← h2, ← e1, ← p3]
      exact b5
    · rw [b6, a6, jtF_p, List.map_append, a2, List.append_assoc]
      rw [jt_r (R := gR s2) (R' := gR s1) (fun l l4 lz => (b4 l l4 lz).2.2) a5]
theorem evX_a (a : Nat × Nat) (e : Ev) : adA a (evX (0, 0) e) = evX a e := by
  unfold adA evX
  by_cases h : e.1 = 0
  · rw [if_pos h, if_pos h]
    show (_, _, _, _, 0 ||| a.1, 0 ||| a.2) = _
    rw [Nat.zero_or, Nat.zero_or]
  · rw [if_neg h, if_neg h]
    show (_, _, _, _, 0 ||| a.1, 0 ||| a.2) = _
    rw [Nat.zero_or, Nat.zero_or]
/-- a STATEMENT with nothing in it -/
def lfE (c : CX) (e : Ev) (c1 : CX) : Prop := cxW c1 = cxW c ∧ cxD c1 = cxD c ∧ cxR c1 = cxR c ∧ cxT c1 = cxT c ∧ cxA c1 = (cxA c || decide (cxR c = 4)) ∧ e.1 < 3 ∧ (cxF c1 = 0 → cxF c = 0)
theorem lf_k {W : Nat} {c c1 : CX} {e : Ev} (h : isG c e c1 ∨ isU c e c1 ∨ isM c e c1 ∨ isB c e c1 ∨ isR c e c1 ∨ isC W c e c1) (he : e.1 < 3) : lfE c e c1 := by
  rcases h with ⟨k, bk, cs, ws, i', f', h1, h2, _, _, _, _, h7⟩ | ⟨l, bk, cs, ws, i', f', h1, h2, _, h4⟩ | ⟨k, w, b, i', f', h1, h2, h3, _, h5⟩ | ⟨k, q, i', h1, _⟩ | ⟨l, k, i', f', h1, _⟩ | ⟨h1, _⟩
  · rw [h2]
    exact ⟨rfl, rfl, rfl, rfl, rfl, he, fun z => (h7 z).1⟩
  · rw [h2]
    exact ⟨rfl, rfl, rfl, rfl, rfl, he, fun z => (h4 z).1⟩
  · rw [h2]
    refine ⟨rfl, rfl, rfl, rfl, ?_, he, fun z => (h5 z).1⟩
    show true = (cxA c || decide (cxR c = 4))
    rw [decide_eq_true h3, Bool.or_true]
  · rw [h1] at he
    exact absurd he (by show ¬ (3 < 3); decide)
  · rw [h1] at he
    exact absurd he (by show ¬ (4 < 3); decide)
  · rw [h1] at he
    exact absurd he (by show ¬ (5 < 3); decide)
theorem cl_r {e : Ev} {c c1 : CX} {s : GS} (he : e.1 < 3) : gQ (clS e c c1 s) = gQ s ∧ gS (clS e c c1 s) = gS s ∧ gR (clS e c c1 s) = gR s ∧ (cxF c1 = 0 → gO (clS e c c1 s) = gO s ++ (jtO (gR s) e []).map (adA (gQ s))) := by
  unfold clS
  rw [if_neg (by omega), if_neg (by omega), if_neg (by omega)]
  by_cases h : e.1 = 1
  · rw [if_pos h]
    refine ⟨rfl, rfl, rfl, fun z => ?_⟩
    have ej : jtO (gR s) e [] = usL e (gR s e.2.1) := by
      unfold jtO
      rw [if_neg (by omega), if_neg (by omega), if_pos h]
    rw [if_pos z, ej]
    rfl
  · rw [if_neg h]
    refine ⟨rfl, rfl, rfl, fun z => ?_⟩
    have ej : jtO (gR s) e [] = [evX (0, 0) e] := by
      unfold jtO
      rw [if_neg (by omega), if_neg (by omega), if_neg h]
    rw [if_pos z, ej]
    show gO s ++ [evX (gQ s) e] = gO s ++ [adA (gQ s) (evX (0, 0) e)]
    rw [evX_a]
theorem lg_k {M : mm_M} {W tl k : Nat} {c c1 : CX} {e : Ev} {Q : Nat → Nat × Tr} {R : Nat → List bk_X} (h : isG c e c1 ∨ isU c e c1 ∨ isM c e c1 ∨ isB c e c1 ∨ isR c e c1 ∨ isC W c e c1) (he : e.1 < 3) (z : cxF c1 = 0) (hr : ∀ l, l < 4 → cxT c l ≠ 0 → roD M tl k Q (cxT c) R l) : lgE Q (cxT c) (rbX c) (cxW c) k e := by
  rcases h with ⟨kk, bk, cs, ws, i', f', h1, h2, h3, h4, h5, h6, h7⟩ | ⟨l, bk, cs, ws, i', f', h1, h2, h3, h4⟩ | ⟨kk, w, b, i', f', h1, h2, h3, h4, h5⟩ | ⟨_, _, _, h1, _⟩ | ⟨_, _, _, _, h1, _⟩ | ⟨h1, _⟩
  · rw [h2] at z
    exact Or.inl ⟨kk, bk, cs, ws, h1, h3, h4, h5, h6, (h7 z).2⟩
  · rw [h2] at z
    obtain ⟨y1, y2, y3, y4⟩ := h4 z
    exact Or.inr (Or.inl ⟨l, bk, cs, ws, h1, h3, y2, y3, y4, (hr l h3 y2).2.2.1⟩)
  · rw [h2] at z
    refine Or.inr (Or.inr (Or.inl ⟨kk, w, b, h1, ?_, h4, (h5 z).2⟩))
    unfold rbX
    rw [decide_eq_true h3]
    rfl
  · rw [h1] at he
    exact absurd he (by show ¬ (3 < 3); decide)
  · rw [h1] at he
    exact absurd he (by show ¬ (4 < 3); decide)
  · rw [h1] at he
    exact absurd he (by show ¬ (5 < 3); decide)
theorem roD_k {M N : mm_M} {tl tl' k k' : Nat} {Q : Nat → Nat × Tr} {Tw : Nat → Nat} {R : Nat → List bk_X} {l : Nat} (hk : kpt k tl M N) (kk : k ≤ k') (tt : tl ≤ tl') (e1 : N.1 129 l = M.1 129 l) (e2 : N.1 130 l = M.1 130 l) (h : roD M tl k Q Tw R l) : roD N tl' k' Q Tw R l := ⟨by rw [e1]; exact h.1, by rw [e2]; exact h.2.1, by have := h.2.2.1; omega, trH_k hk h.2.2.1 tt h.2.2.2.1, h.2.2.2.2.1, h.2.2.2.2.2⟩
/-- a STATEMENT with nothing in it was read -/
theorem stD_l {M N : mm_M} {T : Nat → Nat} {t W : Nat} {c c1 : CX} {s : GS} {k tl tl1 : Nat} {Q : Nat → Nat × Tr} {e : Ev} (hI : RIv M T t W c s k tl Q) (h : tkE T t W c = .inr (e, c1)) (he : e.1 < 3) (hF : rjF [3, 17, 18, 19, 27, 35] [120, 121, 122, 123, 124, 125, 126, 127] M N) (hk : kpt k tl M N) (h3 : N.1 108 3 = nI (cxI c1)) (hN : rjN N (cxF c1)) (h19 : N.1 108 19 = nI (k + 1)) (hi : cxI c + 3 ≤ cxI c1) (h27 : N.1 108 27 = nI tl1) (ht : tl ≤ tl1) (ht1 : tl1 ≤ cxI c1) (h35 : N.1 108 35 = 1) (hnd : ndH N tl1 k e 0) : stD M N T t W c s k tl Q c1 (clS e c c1 s) (k + 1) tl1 Q [(e, [])] := by
  obtain ⟨i1, i2, i3, ⟨f1, f2, f3, f4, f5⟩, ⟨⟨g1, g2⟩, ⟨g3, g4⟩, g5, g6⟩, i6, i7⟩ := hI
  have hT : ∀ j, j < t → T j < 127 := fun j hj => (i1.2.2 j hj).2.2
  obtain ⟨q, q1, q2⟩ := tk_k hT i2.1 h
  obtain ⟨v1, v2⟩ := gI_s hT i2.1 h i6 i7
  obtain ⟨l1, l2, l3, l4, l5, _, l7⟩ := lf_k q he
  obtain ⟨r1, r2, r3, r4⟩ := cl_r (c := c) (c1 := c1) (s := s) he
  have er : rbX c1 = rbX c := by unfold rbX; rw [l3]
  refine ⟨⟨rjX_f rfl rfl hF i1, rjA_e q2 h3, hN, ⟨?_, ?_, ?_, fun z => ?_, fun z => ?_⟩, ⟨⟨h19, by omega⟩, ⟨h27, ht1⟩, fun l lz => ?_, fun z l lz ln => ?_⟩, v1, v2⟩, rfl, ht, rjF_w (by decide) (by decide) hF, hk, ?_, ⟨1, e, c1, h, rfl, rfl⟩, ⟨l2, l3, l1, by omega⟩, fun _ => ⟨l4, rfl, r3, fun z => ?_⟩, fun z => ⟨l7 z, r1, fun j _ => by rw [r2], fun l _ _ => ⟨by rw [l4], rfl, by rw [r3]⟩, ?_, ?_⟩⟩
  · rw [hF.2.1 33 rfl, l1]; exact f1
  · rw [hF.2.1 32 rfl, l2]; exact f2
  · rw [hF.2.1 34 rfl, er]; exact f3
  · rw [l3] at z
    refine ⟨?_, by rw [l1]; exact (f4 z).2⟩
    rw [h35, l5, decide_eq_true z, Bool.or_true]
    rfl
  · rw [l3] at z
    rw [l5, f5 z, decide_eq_false z]
    rfl
  · rw [hF.1 128 (by decide) rfl, l4]; exact g5 l lz
  · rw [l4] at ln
    rw [l4, r3]
    exact roD_k hk (by omega) ht (by rw [hF.1 129 (by decide) rfl]) (by rw [hF.1 130 (by decide) rfl]) (g6 (l7 z) l lz ln)
  · rw [fl_1]
    exact trH_s hnd (fun j hj => absurd hj (by show ¬ j < 0; omega))
  · rw [l5, z]
    rfl
  · rw [l4]
    exact wf_s (lg_k q he z (g6 (l7 z))) (fun _ => rfl) (fun y => absurd y (by omega))
  · rw [r4 z, jtF_1, r3]
    rfl
