/-! circuit: the class's state; blocks -/
/-- OPS so far, what is asked, blocks (how often, asked ahead, OPS ahead), ROUTINES -/
abbrev GS : Type := List bk_X × (Nat × Nat) × (Nat → Nat × (Nat × Nat) × Nat) × (Nat → List bk_X)
def gO (s : GS) : List bk_X := s.1
def gQ (s : GS) : Nat × Nat := s.2.1
def gS (s : GS) : Nat → Nat × (Nat × Nat) × Nat := s.2.2.1
def gR (s : GS) : Nat → List bk_X := s.2.2.2
def blN (b : Nat × (Nat × Nat) × Nat) : Nat := b.1 + 16 * askN b.2.1 + 4096 * min b.2.2 301
/-- a ROUTINE that is kept -/
def rtK (M : mm_M) (l : Nat) (L : List bk_X) : Prop := M.1 5 l = nI (min L.length 301) ∧ (L.length ≤ 300 → ∀ j, j < L.length → M.1 4 (300 * l + j) = nI (bk_p (zg L j)))
def clX (M : mm_M) (W : Nat) (c : CX) : Prop := M.1 2 10 = nI W ∧ M.1 2 11 = nI (cxW c) ∧ M.1 2 13 = nI (cxD c) ∧ (M.1 2 15 = if cxR c = 4 then -1 else nI (cxR c)) ∧ ∀ l, l < 4 → M.1 6 l = nI (cxT c l)
def clG (M : mm_M) (c : CX) (s : GS) : Prop := opC M (gO s) ∧ M.1 2 14 = nI (askN (gQ s)) ∧ (∀ j, j < cxD c → M.1 7 j = nI (blN (gS s j))) ∧ ∀ l, l < 4 → cxT c l ≠ 0 → rtK M l (gR s l)
/-- the Reader between two STATEMENTS, but for the next place -/
def CLr (M : mm_M) (T : Nat → Nat) (t W : Nat) (c : CX) (s : GS) : Prop := rdX M T t ∧ (M.1 2 19 = nI (cxF c) ∧ cxF c < 2 ^ 20) ∧ M.1 2 16 = b01 (cxA c) ∧ clX M W c ∧ clG M c s
/-- what is always so -/
def gIv (W : Nat) (c : CX) (s : GS) : Prop := W ≤ 8 ∧ cxW c ≤ 8 ∧ cxD c ≤ 8 ∧ cxR c ≤ 4 ∧ (∀ l, cxT c l ≤ 4) ∧ ((gQ s).1 < 16 ∧ (gQ s).2 < 16) ∧ (∀ j, j < cxD c → (gS s j).1 ≤ 9 ∧ ((gS s j).2.1.1 < 16 ∧ (gS s j).2.1.2 < 16) ∧ (gS s j).2.2 ≤ (gO s).length ∧ (∀ i, i ≤ j → (gS s i).2.2 ≤ (gS s j).2.2) ∧ ((gS s j).1 = 0 ↔ (j = 0 ∧ cxR c ≠ 4))) ∧ (cxR c ≠ 4 → 1 ≤ cxD c) ∧ (cxR c = 4 → cxA c = false → cxD c = 0)
/-- but the Reader all stays -/
def rdF (M N : mm_M) : Prop := (∀ k, ¬ (2 ≤ k ∧ k ≤ 8) → N.1 k = M.1 k) ∧ N.2 = M.2
theorem rdF_r (M : mm_M) : rdF M M := ⟨fun _ _ => rfl, rfl⟩
theorem rdF_t {M N K : mm_M} (h : rdF M N) (g : rdF N K) : rdF M K := ⟨fun k a => (g.1 k a).trans (h.1 k a), g.2.trans h.2⟩
theorem rdF_2 {S : List Nat} {M N : mm_M} (h : r2F S M N) : rdF M N := ⟨fun k a => h.1 k (by omega), h.2.2⟩
theorem rdF_d {M N : mm_M} (h : rdrF M N) : rdF M N := ⟨fun k a => h.1 k (by omega) (by omega), h.2.2⟩
theorem rdF_a {M N : mm_M} (h : apF M N) : rdF M N := ⟨fun k a => h.1 k (by omega) (by omega), h.2.2⟩
theorem rdX_e {M N : mm_M} {T : Nat → Nat} {t : Nat} (e6 : N.1 2 6 = M.1 2 6) (e7 : N.1 2 7 = M.1 2 7) (e1 : N.1 1 = M.1 1) (h : rdX M T t) : rdX N T t := ⟨h.1, by rw [e6]; exact h.2.1, by rw [e7]; exact h.2.2.1, fun j hj => by rw [e1]; exact h.2.2.2 j hj⟩
theorem rtK_e {M N : mm_M} {l : Nat} {L : List bk_X} (hl : l < 4) (e5 : N.1 5 l = M.1 5 l) (e4 : ∀ j, j < 300 → N.1 4 (300 * l + j) = M.1 4 (300 * l + j)) (h : rtK M l L) : rtK N l L := ⟨by rw [e5]; exact h.1, fun a j hj => by rw [e4 j (by omega)]; exact h.2 a j hj⟩
/-- what is asked, inside -/
def askA (a : Nat × Nat) (k d : Nat) : Nat × Nat := if k = 12 then (a.1 ||| 2 ^ d, a.2) else if k = 13 then (a.1, a.2 ||| 2 ^ d) else a
def adA (a : Nat × Nat) (x : bk_X) : bk_X := (x.1, x.2.1, x.2.2.1, x.2.2.2.1, x.2.2.2.2.1 ||| a.1, x.2.2.2.2.2 ||| a.2)
/-- WIRES are other ones -/
def mpM (f : Nat → Nat) (m : Nat) : Nat := (List.range 8).foldl (fun a i => if m.testBit i = true then a ||| 2 ^ f i else a) 0
def rnX (f : Nat → Nat) (h : Nat) (x : bk_X) : bk_X := (x.1, f x.2.1, if x.1 = 8 then f x.2.2.1 else x.2.2.1, h ||| mpM f x.2.2.2.1, x.2.2.2.2.1, x.2.2.2.2.2)
def ivL (b : Bool) (L : List bk_X) : List bk_X := if b = true then L.reverse.map ivX else L
/-- a USE's OPS -/
def usL (e : Ev) (L : List bk_X) : List bk_X := (ivL e.2.2.2.1 L).map (rnX (fun i => e.2.2.2.2.2.getD i 0) (mskL e.2.2.2.2.1))
/-- a STATEMENT is done -/
def clS (e : Ev) (c c1 : CX) (s : GS) : GS :=
  if e.1 = 3 then (gO s, askA (gQ s) e.2.1 e.2.2.1, (fun j => if j = cxD c then (if e.2.1 = 14 then e.2.2.1 else 1, gQ s, (gO s).length) else gS s j), gR s)
  else if e.1 = 4 then (gO s, gQ s, (fun j => if j = cxD c then (0, gQ s, (gO s).length) else gS s j), gR s)
  else if e.1 = 5 then (if cxD c = 1 ∧ cxR c ≠ 4 then ([], (gS s 0).2.1, gS s, fun l => if l = cxR c ∧ cxT c l = 0 then gO s else gR s l) else ((gO s).take (gS s (cxD c - 1)).2.2 ++ rpt ((gO s).drop (gS s (cxD c - 1)).2.2) (gS s (cxD c - 1)).1, (gS s (cxD c - 1)).2.1, gS s, gR s))
  else if e.1 = 1 then (if cxF c1 = 0 then gO s ++ (usL e (gR s e.2.1)).map (adA (gQ s)) else gO s, gQ s, gS s, gR s)
  else (if cxF c1 = 0 then gO s ++ [evX (gQ s) e] else gO s, gQ s, gS s, gR s)
/-- what a STATEMENT comes to -/
def stY (M : mm_M) (T : Nat → Nat) (t W : Nat) (c : CX) (s : GS) (z : ER) (r : am_R) (N : mm_M) : Prop := match z with
  | .inl q => r = .inl (some (aI 0)) ∧ N.1 2 19 = nI (8 * q + 1) ∧ rdF M N
  | .inr (e, c1) => r = .inl (some (aI 1)) ∧ rdF M N ∧ (N.1 2 8 = nI (cxI c1) ∧ cxI c1 ≤ t) ∧ CLr N T t W c1 (clS e c c1 s)
/-- a GATE, m, r -/
theorem stY_g {M : mm_M} {T : Nat → Nat} {t W : Nat} {c : CX} {s : GS} {z : ER} {r : am_R} {N : mm_M} (hL : CLr M T t W c s) (hz : ∀ e c1, z = .inr (e, c1) → (e.1 = 0 ∨ e.1 = 2) ∧ cxW c1 = cxW c ∧ cxD c1 = cxD c ∧ cxR c1 = cxR c ∧ cxT c1 = cxT c) (h : stQ M t z (gO s) (fun e => [evX (gQ s) e]) r N) : stY M T t W c s z r N := by
  cases z with
  | inl q => exact ⟨h.1, h.2.1, rdF_d h.2.2⟩
  | inr y =>
    obtain ⟨e, c1⟩ := y
    obtain ⟨h1, h2, h3, h4, h5, h6⟩ := h
    obtain ⟨z1, z2, z3, z4, z5⟩ := hz e c1 rfl
    obtain ⟨l1, l2, l3, ⟨x1, x2, x3, x4, x5⟩, g1, g2, g3, g4⟩ := hL
    have es : clS e c c1 s = (if cxF c1 = 0 then gO s ++ [evX (gQ s) e] else gO s, gQ s, gS s, gR s) := by
      unfold clS
      rw [if_neg (by omega), if_neg (by omega), if_neg (by omega), if_neg (by omega)]
    refine ⟨h1, rdF_d h2, h3, rdX_e (h2.2.1 6 rfl) (h2.2.1 7 rfl) (h2.1 1 (by decide) (by decide)) l1, h4, h5, ⟨?_, ?_, ?_, ?_, ?_⟩, ?_⟩
    · rw [h2.2.1 10 rfl]; exact x1
    · rw [h2.2.1 11 rfl, z2]; exact x2
    · rw [h2.2.1 13 rfl, z3]; exact x3
    · rw [h2.2.1 15 rfl, z4]; exact x4
    · rw [h2.1 6 (by decide) (by decide), z5]; exact x5
    · rw [es]
      refine ⟨h6, ?_, ?_, ?_⟩
      · show N.1 2 14 = nI (askN (gQ s))
        rw [h2.2.1 14 rfl]; exact g2
      · rw [z3, h2.1 7 (by decide) (by decide)]; exact g3
      · rw [z5]
        intro l hl ht
        exact rtK_e hl (by rw [h2.1 5 (by decide) (by decide)]) (fun j _ => by rw [h2.1 4 (by decide) (by decide)]) (g4 l hl ht)
section CRJ
variable {d : Nat} {M : mm_M} {T : Nat → Nat} {t W : Nat} {c : CX} {s : GS}
theorem blN_w {m a z : Nat} (hm : m < 16) (ha : a < 256) : nI m ||| nI a <<< ((4 : Int32) &&& 31) ||| nI (min z 301) <<< ((12 : Int32) &&& 31) = nI (m + 16 * a + 4096 * min z 301) := by
  have z1 : min z 301 ≤ 301 := by omega
  generalize min z 301 = y at *
  have e1 : m ||| a * 2 ^ 4 = m + a * 16 := or_sh (k := 4) hm
  have e2 : m + a * 16 ||| y * 2 ^ 12 = m + a * 16 + y * 4096 := or_sh (k := 12) (by show _ < 4096; omega)
  rw [show nI a <<< ((4 : Int32) &&& 31) = nI (a * 2 ^ 4) from nI_shl (by decide) (by show a * 16 < 4294967296; omega), show nI y <<< ((12 : Int32) &&& 31) = nI (y * 2 ^ 12) from nI_shl (by decide) (by show y * 4096 < 4294967296; omega), nI_or, nI_or, e1, e2]
  congr 1
  omega
set_option maxRecDepth 100000 in
theorem ct_push {m D a z : Nat} (hm : m < 16) (hD : D < 8) (h13 : M.1 2 13 = nI D) (ha : a < 256) (h14 : M.1 2 14 = nI a) (h12 : M.1 2 12 = nI (min z 301)) : am_M (d + 1) false nm_X5_push [aR 2, aI (nI m)] M (am_q0 (mm_i (mm_i M 7 (upd (M.1 7) D (nI (m + 16 * a + 4096 * min z 301)))) 2 (upd (M.1 2) 13 (nI (D + 1))))) := by
  refine ⟨rfl, rfl, rfl, fun X hX => am_run hX 4 _ _ _ _ ?_⟩
  conv => whnf
  rw [h13]
  refine ⟨fun w => absurd w (nI_ge (a := D) (b := 8) hD (by decide)), fun _ => ?_⟩
  refine am_run hX 16 _ _ _ _ ?_
  conv => whnf
  rw [h13, h14, h12]
  refine ⟨vp_in_nI (by show D < 8; omega) (by decide), ?_⟩
  rw [nI_clamp (n := D) (by omega), blN_w hm ha]
  generalize hN : mm_i M 7 _ = N
  have e2 : N.1 2 = M.1 2 := by rw [← hN, mm_ne _ _ _ _ (by decide)]
  refine am_run hX 6 _ _ _ _ ?_
  conv => whnf
  rw [e2, h13, nI_1]
  refine am_run hX 1 _ _ _ _ ?_
  conv => whnf
  exact ⟨trivial, rfl, by rw [← hN]⟩
/-- the end of a ROUTINE -/
def clQ (M : mm_M) (l fr w W : Nat) (O : List bk_X) (r : am_R) (N : mm_M) : Prop := r = .inl none ∧ ((∀ k, k ≠ 2 → k ≠ 4 → k ≠ 5 → k ≠ 6 → N.1 k = M.1 k) ∧ N.2 = M.2) ∧ (∀ y, y ≠ 11 → y ≠ 12 → y ≠ 15 → N.1 2 y = M.1 2 y) ∧ N.1 2 15 = -1 ∧ N.1 2 11 = nI W ∧ N.1 2 12 = 0 ∧ (w ≠ 0 → N.1 4 = M.1 4 ∧ N.1 5 = M.1 5 ∧ N.1 6 = M.1 6) ∧ (w = 0 → N.1 6 = upd (M.1 6) l (nI fr) ∧ rtK N l O ∧ ∀ j, j ≠ l → j < 4 → N.1 5 j = M.1 5 j ∧ ∀ i, i < 300 → N.1 4 (300 * j + i) = M.1 4 (300 * j + i))
set_option maxRecDepth 100000 in
theorem ct_clR {l fr w : Nat} {O : List bk_X} (hl : l < 4) (h15 : M.1 2 15 = nI l) (h10 : M.1 2 10 = nI W) (h11 : M.1 2 11 = nI fr) (h6 : M.1 6 l = nI w) (hw : w ≤ 4) (hO : opC M O) : am_M (d + 1) false nm_X5_closeRoutine [aR 2] M (clQ M l fr w W O) := by
  refine ⟨rfl, rfl, rfl, fun X hX => ?_⟩
  have fin : ∀ N, (∀ k, k ≠ 4 → k ≠ 5 → k ≠ 6 → N.1 k = M.1 k) → N.2 = M.2 → (w ≠ 0 → N.1 4 = M.1 4 ∧ N.1 5 = M.1 5 ∧ N.1 6 = M.1 6) → (w = 0 → N.1 6 = upd (M.1 6) l (nI fr) ∧ rtK N l O ∧ ∀ j, j ≠ l → j < 4 → N.1 5 j = M.1 5 j ∧ ∀ i, i < 300 → N.1 4 (300 * j + i) = M.1 4 (300 * j + i)) → X 76 [some (aR 2)] [] N := by
    intro N e1 e2 e3 e4
    refine am_run hX 3 _ _ _ _ ?_
    conv => whnf
    generalize hN1 : mm_i N 2 _ = N1
    have F1 : r2F [15] N N1 := by rw [← hN1]; exact r2F_u N _ rfl
    have a15 : N1.1 2 15 = -1 := by rw [← hN1]; exact r2_at _ _ _
    refine am_run hX 4 _ _ _ _ ?_
    conv => whnf
    rw [F1.2.1 10 rfl, e1 2 (by decide) (by decide) (by decide), h10]
    generalize hN2 : mm_i N1 2 _ = N2
    have F2 : r2F [11] N1 N2 := by rw [← hN2]; exact r2F_u N1 _ rfl
    have a11 : N2.1 2 11 = nI W := by rw [← hN2]; exact r2_at _ _ _
    refine am_run hX 3 _ _ _ _ ?_
    conv => whnf
    generalize hN3 : mm_i N2 2 _ = N3
    have F3 : r2F [12] N2 N3 := by rw [← hN3]; exact r2F_u N2 _ rfl
    have a12 : N3.1 2 12 = 0 := by rw [← hN3]; exact r2_at _ _ _
    have F : r2F [11, 12, 15] N N3 := r2F_t (r2F_w (by decide) F1) (r2F_t (r2F_w (by decide) F2) (r2F_w (by decide) F3))
    refine am_run hX 1 _ _ _ _ ?_
    conv => whnf
    refine ⟨trivial, rfl, ⟨fun k a b b' b'' => by rw [F.1 k a, e1 k b b' b''], by rw [F.2.2, e2]⟩, fun y a b b' => ?_, ?_, ?_, a12, fun w0 => ?_, fun w0 => ?_⟩
    · rw [F.2.1 y ?_, e1 2 (by decide) (by decide) (by decide)]
      cases q : [11, 12, 15].contains y with
      | false => rfl
      | true =>
        have := List.contains_iff_mem.mp q
        simp only [List.mem_cons, List.not_mem_nil, or_false] at this
        omega
    · rw [F3.2.1 15 rfl, F2.2.1 15 rfl]; exact a15
    · rw [F3.2.1 11 rfl]; exact a11
    · rw [F.1 4 (by decide), F.1 5 (by decide), F.1 6 (by decide)]
      exact e3 w0
    · obtain ⟨x1, x2, x3⟩ := e4 w0
      refine ⟨by rw [F.1 6 (by decide)]; exact x1, ?_, ?_⟩
      · exact rtK_e hl (by rw [F.1 5 (by decide)]) (fun j _ => by rw [F.1 4 (by decide)]) x2
      · rw [F.1 4 (by decide), F.1 5 (by decide)]
        exact x3
  refine am_run hX 4 _ _ _ _ ?_
  conv => whnf
  rw [h15]
  refine ⟨fun z => absurd z (nI_nm (by omega)), fun _ => ?_⟩
  refine am_run hX 6 _ _ _ _ ?_
  conv => whnf
  rw [h15]
  refine ⟨vp_in_nI (by show l < 4; omega) (by decide), ?_⟩
  conv => whnf
  rw [nI_clamp (n := l) (by omega), h6]
  by_cases w0 : w = 0
  · rw [w0]
    refine ⟨fun z => absurd rfl z, fun _ => ?_⟩
    refine am_run hX 7 _ _ _ _ ?_
    conv => whnf
    rw [h15, h11]
    refine ⟨vp_in_nI (by show l < 4; omega) (by decide), ?_⟩
    rw [nI_clamp (n := l) (by omega)]
    generalize hN1 : mm_i M 6 _ = N1
    have a1 : ∀ k, k ≠ 6 → N1.1 k = M.1 k := fun k hk => by rw [← hN1, mm_ne _ _ _ _ hk]
    have a6 : N1.1 6 = upd (M.1 6) l (nI fr) := by rw [← hN1, mm_i1]
    refine am_run hX 7 _ _ _ _ ?_
    conv => whnf
    rw [a1 2 (by decide), h15, hO.1]
    refine ⟨vp_in_nI (by show l < 4; omega) (by decide), ?_⟩
    rw [nI_clamp (n := l) (by omega)]
    generalize hN2 : mm_i N1 5 _ = N2
    have b1 : ∀ k, k ≠ 5 → N2.1 k = N1.1 k := fun k hk => by rw [← hN2, mm_ne _ _ _ _ hk]
    have b5 : N2.1 5 = upd (M.1 5) l (nI (min O.length 301)) := by rw [← hN2, mm_i1, a1 5 (by decide)]
    have c2 : N2.1 2 = M.1 2 := by rw [b1 2 (by decide), a1 2 (by decide)]
    have e300 : nI l * 300 = nI (300 * l) := by rw [show (300 : Int32) = nI 300 from rfl, nI_mul, Nat.mul_comm]
    refine am_run hX 13 _ _ _ _ ?_
    conv => whnf
    rw [c2, h15, hO.1, e300, show (300 : Int32) = nI 300 from rfl, nI_min (by omega) (by decide), show (0 : Int32) = nI 0 from rfl]
    have ez : min (min O.length 301) 300 = min O.length 300 := by omega
    rw [ez]
    have m3 : min O.length 300 ≤ 300 := by omega
    refine am_run hX 1 _ _ _ _ ?_
    conv => whnf
    refine ⟨⟨nI_pos (by decide), nI_pos (by omega), nI_pos (by omega), ?_, ?_⟩, ?_⟩
    · rw [nI_clamp (n := 0) (by decide), nI_clamp (n := min O.length 300) (by omega)]
      show 0 + min O.length 300 ≤ 300
      omega
    · rw [nI_clamp (n := 300 * l) (by omega), nI_clamp (n := min O.length 300) (by omega)]
      show 300 * l + min O.length 300 ≤ 1200
      omega
    rw [nI_clamp (n := 0) (by decide), nI_clamp (n := 300 * l) (by omega), nI_clamp (n := min O.length 300) (by omega)]
    generalize hN3 : mm_i N2 4 _ = N3
    have d1 : ∀ k, k ≠ 4 → N3.1 k = N2.1 k := fun k hk => by rw [← hN3, mm_ne _ _ _ _ hk]
    have d4 : N3.1 4 = va_cpy (M.1 3) (M.1 4) 0 (300 * l) (min O.length 300) := by rw [← hN3, mm_i1, b1 3 (by decide), a1 3 (by decide), b1 4 (by decide), a1 4 (by decide)]
    refine fin N3 (fun k x y z => by rw [d1 k x, b1 k y, a1 k z]) (by rw [← hN3, ← hN2, ← hN1]; rfl) (fun z => absurd w0 z) (fun _ => ⟨by rw [d1 6 (by decide), b1 6 (by decide), a6], ⟨?_, ?_⟩, ?_⟩)
    · rw [d1 5 (by decide), b5]
      exact up_at
    · intro hlen j hj
      rw [d4]
      unfold va_cpy
      rw [if_pos (by omega), show 0 + (300 * l + j - 300 * l) = j by omega]
      exact hO.2 hlen j hj
    · intro j hj j4
      refine ⟨by rw [d1 5 (by decide), b5, up_ne hj], fun i hi => ?_⟩
      rw [d4]
      unfold va_cpy
      rw [if_neg (by omega)]
  · refine ⟨fun _ => fin M (fun _ _ _ _ => rfl) rfl (fun _ => ⟨rfl, rfl, rfl⟩) (fun z => absurd z w0), fun z => absurd (nI_ne0 (n := w) (by omega) (by omega)) z⟩
end CRJ
