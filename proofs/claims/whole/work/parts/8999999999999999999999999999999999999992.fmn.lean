/-! FORM: the class's images -/
theorem ti_3 : ∀ a, a < 8 → ((nI a >>> ((1 : Int32) &&& 31) &&& 1) ||| ((nI a &&& 1) <<< ((1 : Int32) &&& 31))) ||| (((nI a >>> ((2 : Int32) &&& 31) &&& 1) ^^^ ((nI a &&& 1) &&& (nI a >>> ((1 : Int32) &&& 31) &&& 1))) <<< ((2 : Int32) &&& 31)) = nI (tI 3 a) := by decide
theorem ti_4 : ∀ a, a < 8 → ((nI a &&& 1) ||| (((nI a >>> ((1 : Int32) &&& 31) &&& 1) ^^^ (nI a &&& 1)) <<< ((1 : Int32) &&& 31))) ||| (((nI a >>> ((2 : Int32) &&& 31) &&& 1) ^^^ ((nI a &&& 1) &&& (nI a >>> ((1 : Int32) &&& 31) &&& 1))) <<< ((2 : Int32) &&& 31)) = nI (tI 4 a) := by decide
theorem ti_6 : ∀ a, a < 8 → ((nI a &&& 1) ||| (((nI a >>> ((1 : Int32) &&& 31) &&& 1) ^^^ (nI a &&& 1)) <<< ((1 : Int32) &&& 31))) ||| (((nI a >>> ((2 : Int32) &&& 31) &&& 1) ^^^ ((nI a &&& 1) &&& ((nI a >>> ((1 : Int32) &&& 31) &&& 1) ^^^ 1))) <<< ((2 : Int32) &&& 31)) = nI (tI 6 a) := by decide
theorem ti_l : ∀ a, a < 8 → tI 3 a < 8 ∧ tI 4 a < 8 ∧ tI 6 a < 8 ∧ a ^^^ 4 < 8 := by decide
theorem ti_b : ∀ a, a < 8 → nI a &&& 1 = nI (a % 2) ∧ (nI a >>> ((1 : Int32) &&& 31) &&& 1) = nI (a / 2 % 2) ∧ nI a ^^^ 4 = nI (a ^^^ 4) ∧ nI a &&& 3 = nI (a % 4) ∧ (nI a &&& 4 = 0 ↔ a / 4 % 2 = 0) := by decide
theorem yi_l : ∀ a, a < 8 → ∀ b, b < 8 → yI a b < 8 := by decide
theorem yi_e : ∀ a, a < 8 → ∀ b, b < 8 → (nI a ^^^ nI b) ^^^ (((1 + nI (qp (a % 2, a / 2 % 2, 0) (b % 2, b / 2 % 2, 0))) &&& 3) >>> ((1 : Int32) &&& 31)) <<< ((2 : Int32) &&& 31) = nI (yI a b) := by decide +kernel
theorem kn_e : ∀ a, a < 8 → ∀ b, b < 8 → nI a ||| nI b <<< ((3 : Int32) &&& 31) = nI (a + 8 * b) := by decide
/-- the images, as the class has them -/
def imS (N : mm_M) (k : Nat × Nat) : Prop := N.1 57 12 = nI k.1 ∧ N.1 57 13 = nI k.2 ∧ k.1 < 8 ∧ k.2 < 8
def imF (M N : mm_M) : Prop := (∀ k, k ≠ 57 → N.1 k = M.1 k) ∧ (∀ y, y ≠ 12 → y ≠ 13 → N.1 57 y = M.1 57 y) ∧ N.2 = M.2
theorem imF_r (M : mm_M) : imF M M := ⟨fun _ _ => rfl, fun _ _ _ => rfl, rfl⟩
theorem imF_t {M N K : mm_M} (h : imF M N) (g : imF N K) : imF M K := ⟨fun k a => (g.1 k a).trans (h.1 k a), fun y a b => (g.2.1 y a b).trans (h.2.1 y a b), g.2.2.trans h.2.2⟩
def im2 (M : mm_M) (a b : Int32) : mm_M := mm_i M 57 (upd (upd (M.1 57) 12 a) 13 b)
theorem im2_F (M : mm_M) (a b : Int32) : imF M (im2 M a b) := ⟨fun k hk => mm_ne _ _ _ _ hk, fun y h1 h2 => by unfold im2; rw [mm_i1, up_ne h2, up_ne h1], rfl⟩
theorem im2_S {M : mm_M} {k : Nat × Nat} (h1 : k.1 < 8) (h2 : k.2 < 8) : imS (im2 M (nI k.1) (nI k.2)) k := by
  refine ⟨?_, ?_, h1, h2⟩
  · unfold im2
    rw [mm_i1, up_ne (by decide)]
    exact up_at
  · unfold im2
    rw [mm_i1]
    exact up_at
section FMN
variable {d : Nat} {M : mm_M}
set_option maxRecDepth 100000 in
theorem ct_tI {a g : Nat} (ha : a < 8) (hg : g = 3 ∨ g = 4 ∨ g = 6) : am_M (d + 1) false nm_X2_turnedImage [aI (nI a), aI (nI g)] M (am_q1 (aI (nI (tI g a))) M) := by
  refine ⟨rfl, rfl, rfl, fun X hX => am_run hX 16 _ _ _ _ ?_⟩
  conv => whnf
  refine am_run hX 3 _ _ _ _ ?_
  conv => whnf
  rcases hg with rfl | rfl | rfl
  · refine ⟨fun z => absurd rfl z, fun _ => ?_⟩
    refine am_run hX 14 _ _ _ _ ?_
    conv => whnf
    exact ⟨trivial, congrArg (fun v => (.inl (some (aI v)) : am_R)) (ti_3 a ha), rfl⟩
  · refine ⟨fun _ => ?_, fun z => absurd (by decide) z⟩
    refine am_run hX 3 _ _ _ _ ?_
    conv => whnf
    refine ⟨fun z => absurd rfl z, fun _ => ?_⟩
    refine am_run hX 4 _ _ _ _ ?_
    conv => whnf
    refine am_run hX 15 _ _ _ _ ?_
    conv => whnf
    exact ⟨trivial, congrArg (fun v => (.inl (some (aI v)) : am_R)) (ti_4 a ha), rfl⟩
  · refine ⟨fun _ => ?_, fun z => absurd (by decide) z⟩
    refine am_run hX 3 _ _ _ _ ?_
    conv => whnf
    refine ⟨fun _ => ?_, fun z => absurd (by decide) z⟩
    refine am_run hX 5 _ _ _ _ ?_
    conv => whnf
    refine am_run hX 15 _ _ _ _ ?_
    conv => whnf
    exact ⟨trivial, congrArg (fun v => (.inl (some (aI v)) : am_R)) (ti_6 a ha), rfl⟩
theorem ahK_l {g : Nat} {k : Nat × Nat} (hg : g = 3 ∨ g = 4 ∨ g = 6) (h1 : k.1 < 8) (h2 : k.2 < 8) : (ahK g k).1 < 8 ∧ (ahK g k).2 < 8 := by
  have a := ti_l k.1 h1
  have b := ti_l k.2 h2
  rcases hg with rfl | rfl | rfl
  · exact ⟨a.1, b.1⟩
  · exact ⟨a.2.1, b.2.1⟩
  · exact ⟨a.2.2.1, b.2.2.1⟩
set_option maxRecDepth 100000 in
theorem ct_ah {k : Nat × Nat} {g : Nat} (hg : g = 3 ∨ g = 4 ∨ g = 6) (h : imS M k) : am_M (d + 2) false nm_X2_aheadOf [aR 57, aI (nI g)] M (fun r N => r = .inl none ∧ imF M N ∧ imS N (ahK g k)) := by
  obtain ⟨h1, h2, h3, h4⟩ := h
  obtain ⟨l1, l2⟩ := ahK_l hg h3 h4
  refine ⟨rfl, rfl, rfl, fun X hX => am_run hX 5 _ _ _ _ ?_⟩
  conv => whnf
  rw [h1]
  refine am_c1 (ct_tI (d := d) h3 hg) ?_
  refine am_run hX 1 _ _ _ _ ?_
  conv => whnf
  refine am_run hX 5 _ _ _ _ ?_
  conv => whnf
  rw [mm_i1, up_ne (by decide), h2]
  refine am_c1 (ct_tI (d := d) h4 hg) ?_
  refine am_run hX 2 _ _ _ _ ?_
  conv => whnf
  rw [mm_i1, mm_ii]
  exact ⟨trivial, rfl, im2_F M _ _, im2_S l1 l2⟩
set_option maxRecDepth 100000 in
theorem ct_imY {k : Nat × Nat} (h : imS M k) : am_M (d + 3) false nm_X2_imageOfY [aR 57] M (am_q1 (aI (nI (yI k.1 k.2))) M) := by
  obtain ⟨h1, h2, h3, h4⟩ := h
  obtain ⟨a1, a2, _⟩ := ti_b k.1 h3
  obtain ⟨b1, b2, _⟩ := ti_b k.2 h4
  refine ⟨rfl, rfl, rfl, fun X hX => am_run hX 24 _ _ _ _ ?_⟩
  conv => whnf
  rw [h1, h2, a1, a2, b1, b2]
  refine am_c1 (ct_quart (d := d) (y := (k.1 % 2, k.1 / 2 % 2, 0)) (z := (k.2 % 2, k.2 / 2 % 2, 0)) ⟨(by omega : k.1 % 2 < 2 ^ 20), (by omega : k.1 / 2 % 2 < 2 ^ 20), (by decide : 0 < 2)⟩ ⟨(by omega : k.2 % 2 < 2 ^ 20), (by omega : k.2 / 2 % 2 < 2 ^ 20), (by decide : 0 < 2)⟩) ?_
  refine am_run hX 14 _ _ _ _ ?_
  conv => whnf
  exact ⟨trivial, congrArg (fun v => (.inl (some (aI v)) : am_R)) (yi_e k.1 h3 k.2 h4), rfl⟩
/-- what the class has found so far -/
def fcS (N : mm_M) (st : List Nat × (Nat × Nat)) : Prop := imS N st.2 ∧ N.1 57 11 = nI st.1.length ∧ ∀ j, j < st.1.length → N.1 66 j = nI (st.1.getD j 0)
def fcG (M N : mm_M) : Prop := (∀ k, k ≠ 57 → k ≠ 66 → N.1 k = M.1 k) ∧ (∀ y, y ≠ 11 → y ≠ 12 → y ≠ 13 → N.1 57 y = M.1 57 y) ∧ N.2 = M.2
theorem fcG_r (M : mm_M) : fcG M M := ⟨fun _ _ _ => rfl, fun _ _ _ _ => rfl, rfl⟩
theorem fcG_t {M N K : mm_M} (h : fcG M N) (g : fcG N K) : fcG M K := ⟨fun k a b => (g.1 k a b).trans (h.1 k a b), fun y a b c => (g.2.1 y a b c).trans (h.2.1 y a b c), g.2.2.trans h.2.2⟩
theorem fcG_i {M N : mm_M} (h : imF M N) : fcG M N := ⟨fun k a _ => h.1 k a, fun y _ a b => h.2.1 y a b, h.2.2⟩
theorem fcS_i {M N : mm_M} {ss : List Nat} {k k' : Nat × Nat} (h : imF M N) (g : imS N k') (hs : fcS M (ss, k)) : fcS N (ss, k') := ⟨g, by rw [h.2.1 11 (by decide) (by decide)]; exact hs.2.1, fun j hj => by rw [h.1 66 (by decide)]; exact hs.2.2 j hj⟩
set_option maxRecDepth 100000 in
theorem ct_tT {ss : List Nat} {k : Nat × Nat} (hl : ss.length < 300) (hs3 : ∀ j, j < ss.length → ss.getD j 0 < 3) (h : fcS M (ss, k)) : am_M (d + 3) false nm_X2_timesT [aR 57] M (fun r N => r = .inl none ∧ fcG M N ∧ fcS N (fmT (ss, k))) := by
  have h12 := h.1.1
  have h13 := h.1.2.1
  have k1 : k.1 < 8 := h.1.2.2.1
  have k2 : k.2 < 8 := h.1.2.2.2
  obtain ⟨_, _, _, b3, _⟩ := ti_b k.2 k2
  refine ⟨rfl, rfl, rfl, fun X hX => am_run hX 5 _ _ _ _ ?_⟩
  conv => whnf
  rw [h13, b3]
  -- the end
  have fin : ∀ (N : mm_M), imF M N → imS N (aK k) → X 62 [some (aR 57), some (aI (nI (k.2 % 4))), some (aI (nI (sK k)))] [] N := by
    intro N fN iN
    have s3 := sK_3 k
    have cN : fcS N (ss, aK k) := fcS_i fN iN h
    have push : (sK k ≠ 0 ∨ ss = []) → X 73 [some (aR 57), some (aI (nI (k.2 % 4))), some (aI (nI (sK k)))] [] N := by
      intro hc
      have e : fmT (ss, k) = (ss ++ [sK k], aK k) := if_pos hc
      rw [e] at hX
      refine am_run hX 6 _ _ _ _ ?_
      conv => whnf
      rw [cN.2.1]
      refine ⟨fun z => absurd z (nI_ge (a := ss.length) (b := 301) (by omega) (by decide)), fun _ => ?_⟩
      refine am_run hX 6 _ _ _ _ ?_
      conv => whnf
      rw [cN.2.1]
      refine ⟨vp_in_nI (by show ss.length < 301; omega) (by decide), ?_⟩
      rw [show ((ss, aK k) : List Nat × (Nat × Nat)).1 = ss from rfl, nI_clamp (n := ss.length) (by omega)]
      generalize hN1 : mm_i N 66 _ = N1
      have g1 : ∀ k, k ≠ 66 → N1.1 k = N.1 k := fun k hk => by rw [← hN1, mm_ne _ _ _ _ hk]
      have g2 : N1.1 66 = upd (N.1 66) ss.length (nI (sK k)) := by rw [← hN1, mm_i1]
      have g3 : N1.2 = N.2 := by rw [← hN1]; rfl
      refine am_run hX 6 _ _ _ _ ?_
      conv => whnf
      rw [g1 57 (by decide), cN.2.1, show ((ss, aK k) : List Nat × (Nat × Nat)).1 = ss from rfl, nI_1]
      generalize hN2 : mm_i N1 57 _ = N2
      have q1 : ∀ k, k ≠ 57 → N2.1 k = N1.1 k := fun k hk => by rw [← hN2, mm_ne _ _ _ _ hk]
      have q2 : N2.1 57 = upd (N.1 57) 11 (nI (ss.length + 1)) := by rw [← hN2, mm_i1]
      have q3 : N2.2 = N1.2 := by rw [← hN2]; rfl
      refine am_run hX 1 _ _ _ _ ?_
      conv => whnf
      refine ⟨trivial, rfl, ⟨fun k a b => by rw [q1 k a, g1 k b, fN.1 k a], fun y a b c => by rw [q2, up_ne a, fN.2.1 y b c], by rw [q3, g3, fN.2.2]⟩, ⟨?_, ?_, iN.2.2⟩, ?_, ?_⟩
      · rw [q2, up_ne (by decide)]
        exact iN.1
      · rw [q2, up_ne (by decide)]
        exact iN.2.1
      · rw [q2, up_at]
        show _ = nI (ss ++ [sK k]).length
        rw [List.length_append]
        rfl
      · rw [q1 66 (by decide), g2]
        exact gd_u cN.2.2 rfl rfl
    refine am_run hX 2 _ _ _ _ ?_
    conv => whnf
    by_cases s0 : sK k = 0
    · rw [s0]
      refine ⟨fun z => absurd rfl z, fun _ => ?_⟩
      refine am_run hX 3 _ _ _ _ ?_
      conv => whnf
      rw [cN.2.1]
      by_cases se : ss = []
      · have p := push (Or.inr se)
        rw [s0] at p
        refine ⟨fun z => absurd (by rw [show ((ss, aK k) : List Nat × (Nat × Nat)).1 = ss from rfl, se]; rfl) z, fun _ => p⟩
      · have ln : 0 < ss.length := by
          cases ss with
          | nil => exact absurd rfl se
          | cons a l => exact Nat.succ_pos _
        refine ⟨fun _ => ?_, fun z => absurd (nI_ne0 (n := ss.length) ln (by omega)) z⟩
        obtain ⟨l, t, el⟩ := sn_x ss se
        have e : fmT (ss, k) = (l, pK t (aK k)) := by
          unfold fmT
          rw [if_neg (fun w => w.elim (fun z => z s0) (fun z => se z))]
          show (dpS ss, pK (ltS ss) (aK k)) = _
          rw [el, dpS_a, ltS_a]
        rw [e] at hX
        have len : ss.length = l.length + 1 := by rw [el, List.length_append]; rfl
        have t3 : t < 3 := by
          have := hs3 l.length (by omega)
          rw [el, List.getD_eq_getElem?_getD, List.getElem?_append_right (Nat.le_refl _), Nat.sub_self] at this
          exact this
        have lst : N.1 66 l.length = nI t := by
          have := cN.2.2 l.length (by show l.length < ss.length; omega)
          rw [show ((ss, aK k) : List Nat × (Nat × Nat)).1 = ss from rfl, el, List.getD_eq_getElem?_getD, List.getElem?_append_right (Nat.le_refl _), Nat.sub_self] at this
          exact this
        refine am_run hX 6 _ _ _ _ ?_
        conv => whnf
        rw [cN.2.1, show ((ss, aK k) : List Nat × (Nat × Nat)).1 = ss from rfl, len, nI_s1']
        rw [nI_d1]
        generalize hN1 : mm_i N 57 _ = N1
        have g1 : ∀ k, k ≠ 57 → N1.1 k = N.1 k := fun k hk => by rw [← hN1, mm_ne _ _ _ _ hk]
        have g2 : N1.1 57 = upd (N.1 57) 11 (nI l.length) := by rw [← hN1, mm_i1]
        have g3 : N1.2 = N.2 := by rw [← hN1]; rfl
        have i1 : imS N1 (aK k) := ⟨by rw [g2, up_ne (by decide)]; exact iN.1, by rw [g2, up_ne (by decide)]; exact iN.2.1, iN.2.2⟩
        refine am_run hX 3 _ _ _ _ ?_
        conv => whnf
        refine am_cq (ct_ah (d := d) (M := N1) (g := 4) (by decide) i1) ?_
        rintro r2 N2 ⟨rfl, f2, i2⟩
        refine ⟨none, rfl, ?_⟩
        -- the image behind h, if any; then s, if any
        have c11 : ∀ N', imF N1 N' → N'.1 57 11 = nI l.length ∧ N'.1 66 l.length = nI t := fun N' f' => ⟨by rw [f'.2.1 11 (by decide) (by decide), g2]; exact up_at, by rw [f'.1 66 (by decide), g1 66 (by decide)]; exact lst⟩
        have done : ∀ N', imF N1 N' → imS N' (pK t (aK k)) → X 156 [some (aR 57), some (aI (nI (k.2 % 4))), some (aI 0)] [] N' := by
          intro N' f' i'
          refine am_run hX 1 _ _ _ _ ?_
          conv => whnf
          refine ⟨trivial, rfl, ⟨fun k a b => by rw [f'.1 k a, g1 k a, fN.1 k a], fun y a b c => by rw [f'.2.1 y b c, g2, up_ne a, fN.2.1 y b c], by rw [f'.2.2, g3, fN.2.2]⟩, i', (c11 N' f').1, fun j hj => ?_⟩
          have hj : j < l.length := hj
          rw [f'.1 66 (by decide), g1 66 (by decide)]
          have := cN.2.2 j (by show j < ss.length; omega)
          rw [show ((ss, aK k) : List Nat × (Nat × Nat)).1 = ss from rfl, el, List.getD_eq_getElem?_getD, List.getElem?_append_left hj, ← List.getD_eq_getElem?_getD] at this
          exact this
        have tail : ∀ N', imF N1 N' → imS N' (pK1 t (aK k)) → X 138 [some (aR 57), some (aI (nI (k.2 % 4))), some (aI 0)] [] N' := by
          intro N' f' i'
          obtain ⟨c1, c2⟩ := c11 N' f'
          refine am_run hX 7 _ _ _ _ ?_
          conv => whnf
          rw [c1]
          refine ⟨vp_in_nI (by show l.length < 301; omega) (by decide), ?_⟩
          conv => whnf
          rw [nI_clamp (n := l.length) (by omega), c2]
          by_cases t2 : t = 2
          · rw [t2]
            refine ⟨fun z => absurd rfl z, fun _ => ?_⟩
            refine am_run hX 3 _ _ _ _ ?_
            conv => whnf
            refine am_cq (ct_ah (d := d) (M := N') (g := 4) (by decide) i') ?_
            rintro r4 N4 ⟨rfl, f4, i4⟩
            refine ⟨none, rfl, ?_⟩
            refine done N4 (imF_t f' f4) ?_
            unfold pK
            rw [if_pos t2]
            exact i4
          · refine ⟨fun _ => ?_, fun z => absurd (fun q => t2 ((nI_eq (a := t) (b := 2) (by omega) (by decide)).mp q)) z⟩
            refine done N' f' ?_
            unfold pK
            rw [if_neg t2]
            exact i'
        obtain ⟨c1, c2⟩ := c11 N2 f2
        refine am_run hX 6 _ _ _ _ ?_
        conv => whnf
        rw [c1]
        refine ⟨vp_in_nI (by show l.length < 301; omega) (by decide), ?_⟩
        conv => whnf
        rw [nI_clamp (n := l.length) (by omega), c2]
        by_cases t0 : t = 0
        · rw [t0]
          refine ⟨fun _ => ?_, fun z => absurd rfl z⟩
          refine tail N2 f2 ?_
          unfold pK1
          rw [if_pos t0]
          exact i2
        · refine ⟨fun z => absurd z (nI_ne0 (n := t) (by omega) (by omega)), fun _ => ?_⟩
          refine am_run hX 3 _ _ _ _ ?_
          conv => whnf
          refine am_cq (ct_ah (d := d) (M := N2) (g := 3) (by decide) i2) ?_
          rintro r3 N3 ⟨rfl, f3, i3⟩
          refine ⟨none, rfl, ?_⟩
          refine tail N3 (imF_t f2 f3) ?_
          unfold pK1
          rw [if_neg t0]
          exact i3
    · refine ⟨fun _ => push (Or.inl s0), fun z => absurd (nI_ne0 (n := sK k) (by omega) (by omega)) z⟩
  -- the sign
  have sg : ∀ (N : mm_M), imF M N → imS N (aK2 k) → X 47 [some (aR 57), some (aI (nI (k.2 % 4))), some (aI (nI (sK k)))] [] N := by
    intro N fN iN
    obtain ⟨_, _, _, _, b4⟩ := ti_b (aK2 k).2 iN.2.2.2
    refine am_run hX 5 _ _ _ _ ?_
    conv => whnf
    rw [iN.2.1, b4]
    by_cases q : (aK2 k).2 / 4 % 2 = 0
    · refine ⟨fun _ => fin N fN ?_, fun z => absurd q z⟩
      unfold aK
      rw [if_neg (by omega)]
      exact iN
    · refine ⟨fun z => absurd z q, fun _ => ?_⟩
      refine am_run hX 3 _ _ _ _ ?_
      conv => whnf
      refine am_cq (ct_ah (d := d) (M := N) (g := 6) (by decide) iN) ?_
      rintro r2 N2 ⟨rfl, f2, i2⟩
      refine ⟨none, rfl, ?_⟩
      refine fin N2 (imF_t fN f2) ?_
      unfold aK
      rw [if_pos (by omega)]
      exact i2
  have hh : ∀ (N : mm_M), imF M N → imS N (aK1 k) → X 38 [some (aR 57), some (aI (nI (k.2 % 4))), some (aI (nI (sK k)))] [] N := by
    intro N fN iN
    have s3 := sK_3 k
    refine am_run hX 2 _ _ _ _ ?_
    conv => whnf
    by_cases s0 : sK k = 0
    · have e : aK2 k = aK1 k := if_pos s0
      have z := sg N fN (by rw [e]; exact iN)
      rw [s0] at z ⊢
      exact ⟨fun _ => z, fun w => absurd rfl w⟩
    · refine ⟨fun z => absurd z (nI_ne0 (n := sK k) (by omega) (by omega)), fun _ => ?_⟩
      refine am_run hX 3 _ _ _ _ ?_
      conv => whnf
      refine am_cq (ct_ah (d := d) (M := N) (g := 3) (by decide) iN) ?_
      rintro r2 N2 ⟨rfl, f2, i2⟩
      refine ⟨none, rfl, ?_⟩
      have e : aK2 k = ahK 3 (aK1 k) := if_neg s0
      exact sg N2 (imF_t fN f2) (by rw [e]; exact i2)
  have ss1 : ∀ v : Int32, v = nI (sK k) → X 26 [some (aR 57), some (aI (nI (k.2 % 4))), none] [aI v] M := by
    intro v hv
    subst hv
    have s3 := sK_3 k
    refine am_run hX 1 _ _ _ _ ?_
    conv => whnf
    refine am_run hX 3 _ _ _ _ ?_
    conv => whnf
    by_cases s2 : sK k = 2
    · have e : aK1 k = ahK 6 k := if_pos s2
      have z := fun N a b => hh N a b
      rw [s2] at z ⊢
      refine ⟨fun w => absurd rfl w, fun _ => ?_⟩
      refine am_run hX 3 _ _ _ _ ?_
      conv => whnf
      refine am_cq (ct_ah (d := d) (M := M) (g := 6) (by decide) h.1) ?_
      rintro r2 N2 ⟨rfl, f2, i2⟩
      refine ⟨none, rfl, ?_⟩
      exact z N2 f2 (by rw [e]; exact i2)
    · have e : aK1 k = k := if_neg s2
      refine ⟨fun _ => hh M (imF_r M) (by rw [e]; exact h.1), fun z => absurd (fun q => s2 ((nI_eq (a := sK k) (b := 2) (by omega) (by decide)).mp q)) z⟩
  refine am_run hX 3 _ _ _ _ ?_
  conv => whnf
  by_cases q2 : k.2 % 4 = 2
  · have e : sK k = 0 := if_pos q2
    have z := ss1 0 (by rw [e]; rfl)
    rw [q2] at z ⊢
    refine ⟨fun w => absurd rfl w, fun _ => ?_⟩
    refine am_run hX 2 _ _ _ _ ?_
    conv => whnf
    exact z
  · refine ⟨fun _ => ?_, fun z => absurd (fun q => q2 ((nI_eq (a := k.2 % 4) (b := 2) (by omega) (by decide)).mp q)) z⟩
    refine am_run hX 3 _ _ _ _ ?_
    conv => whnf
    by_cases q1 : k.2 % 4 = 1
    · have e : sK k = 1 := by unfold sK; rw [if_neg q2, if_pos q1]
      have z := ss1 1 (by rw [e]; rfl)
      rw [q1] at z ⊢
      refine ⟨fun w => absurd rfl w, fun _ => ?_⟩
      refine am_run hX 2 _ _ _ _ ?_
      conv => whnf
      exact z
    · have e : sK k = 2 := by unfold sK; rw [if_neg q2, if_neg q1]
      refine ⟨fun _ => ?_, fun z => absurd (fun q => q1 ((nI_eq (a := k.2 % 4) (b := 1) (by omega) (by decide)).mp q)) z⟩
      refine am_run hX 1 _ _ _ _ ?_
      conv => whnf
      exact ss1 2 (by rw [e]; rfl)
end FMN
