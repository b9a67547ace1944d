/-! THE PAIR group -/
def gpV (R : Nat → Nat) (w : Nat) (sg : Nat → Int32) (i : Nat) (q : Int32) : Int32 := if q = 0 then nI (R i % 2 ^ w) else if q = 1 then nI (R i / 2 ^ w) else if q = 2 then sg i else -1
/-- the answer -/
def gpA (R : Nat → Nat) (r w : Nat) (sg : Nat → Int32) (p q : Int32) (v : Int32) : Prop := (p = -1 ∧ v = nI r) ∨ (p ≠ -1 ∧ (p < 0 ∨ nI r ≤ p) ∧ v = -1) ∨ ∃ i, i < r ∧ p = nI i ∧ v = gpV R w sg i q
theorem gpA_u {R R' : Nat → Nat} {r w : Nat} {sg sg' : Nat → Int32} {p q v v' : Int32} (r16 : r ≤ 16) (hR : ∀ i, i < r → R i = R' i) (hs : ∀ i, i < r → sg i = sg' i) (h : gpA R r w sg p q v) (h' : gpA R' r w sg' p q v') : v = v' := by
  rcases h with ⟨a, rfl⟩ | ⟨a, b, rfl⟩ | ⟨i, i1, rfl, rfl⟩
  · rcases h' with ⟨_, rfl⟩ | ⟨a', _, _⟩ | ⟨j, j1, j2, _⟩
    · rfl
    · exact absurd a a'
    · rw [a] at j2
      exact absurd j2.symm (nI_nm (by omega))
  · rcases h' with ⟨a', _⟩ | ⟨_, _, rfl⟩ | ⟨j, j1, rfl, _⟩
    · exact absurd a' a
    · rfl
    · rcases b with b | b
      · exact absurd b (nI_nlt (a := j) (b := 0) (by omega) (by omega))
      · exact absurd b (nI_ge j1 (by omega))
  · rcases h' with ⟨a', _⟩ | ⟨_, b, _⟩ | ⟨j, j1, j2, rfl⟩
    · exact absurd a' (nI_nm (by omega))
    · rcases b with b | b
      · exact absurd b (nI_nlt (a := i) (b := 0) (by omega) (by omega))
      · exact absurd b (nI_ge i1 (by omega))
    · have e : i = j := (nI_eq (by omega) (by omega)).mp j2
      subst e
      unfold gpV
      rw [hR i i1, hs i i1]
section GPL
variable {d : Nat} {M : mm_M} {w k : Nat} {ys : Nat → R4}
set_option maxRecDepth 100000 in
theorem ct_gpC {p q : Int32} (h : gcS M w ys) (hz : nzS w ys) (hc : M.1 17 10 = -1 ∨ gcG M w ys) (h5 : M.1 17 5 ≠ -1) : am_M (d + 5) false nm_X11_group [aR 0, aI p, aI q] M (fun t N => gcF M N ∧ gcG N w ys ∧ ∃ R r, gpR w ys R r ∧ ∃ v, t = .inl (some (aI v)) ∧ gpA R r w (fun i => sgV w ys (R i % 2 ^ w) (R i / 2 ^ w)) p q v) := by
  have w8 := h.1
  have h8 := w256 w8
  have h16 := pw16g w8
  refine ⟨rfl, rfl, rfl, fun X hX => am_run hX 5 _ _ _ _ ?_⟩
  conv => whnf
  refine ⟨fun _ => ?_, fun c => absurd h5 c⟩
  refine am_run hX 3 _ _ _ _ ?_
  conv => whnf
  refine am_cq (ct_findC (d := d) h hz hc) fun r1 N hq => ?_
  obtain ⟨rfl, hF, hG⟩ := hq
  refine ⟨none, rfl, ?_⟩
  have hG0 := hG
  obtain ⟨R, r, hR, hg, hs⟩ := hG
  have hN := gcS_f hF h
  have r16 := tr_16 (rrf_tri hg.1)
  refine am_run hX 3 _ _ _ _ ?_
  conv => whnf
  have no : p ≠ -1 → (p < 0 ∨ nI r ≤ p) → X 48 [some (aR 0), some (aI p), some (aI q)] [] N := fun a z => by
    refine am_run hX 2 _ _ _ _ ?_
    conv => whnf
    exact ⟨trivial, hF, hG0, R, r, hg, -1, rfl, Or.inr (Or.inl ⟨a, z, rfl⟩)⟩
  refine ⟨fun cm => ?_, fun cm => ?_⟩
  · refine am_run hX 2 _ _ _ _ ?_
    conv => whnf
    refine ⟨fun c => no cm (Or.inl c), fun c => ?_⟩
    obtain ⟨j, j31, rfl⟩ := nI_of c
    refine am_run hX 5 _ _ _ _ ?_
    conv => whnf
    rw [hR.1]
    by_cases hj : j < r
    · refine ⟨fun _ => ?_, fun z => absurd (nI_lt hj (by omega)) z⟩
      have hl := gpl_l hg hj
      have hI : vp_in (nI j) 16 := vp_in_nI (by omega) (by decide)
      have e21 : N.1 21 (nI j).toNatClampNeg = nI (R j) := by
        rw [nI_clamp (by omega)]
        exact hR.2 j hj
      have hend : ∀ v, v = gpV R w (fun i => sgV w ys (R i % 2 ^ w) (R i / 2 ^ w)) j q → gcF M N ∧ gcG N w ys ∧ ∃ R r, gpR w ys R r ∧ ∃ v', (Sum.inl (some (aI v)) : Option am_V ⊕ String) = .inl (some (aI v')) ∧ gpA R r w (fun i => sgV w ys (R i % 2 ^ w) (R i / 2 ^ w)) (nI j) q v' := fun v hv => ⟨hF, hG0, R, r, hg, v, rfl, Or.inr (Or.inr ⟨j, hj, rfl, hv⟩)⟩
      refine am_run hX 2 _ _ _ _ ?_
      conv => whnf
      refine ⟨fun c0 => ?_, fun c0 => ?_⟩
      · refine am_run hX 14 _ _ _ _ ?_
        conv => whnf
        refine ⟨hI, ?_⟩
        conv => whnf
        rw [e21, hN.2.2.1, sh2 w (by omega), show nI (2 ^ w) - 1 = nI (2 ^ w - 1) from by rw [show (1 : Int32) = nI 1 from rfl, nI_sub (Nat.two_pow_pos w)], nI_and, Nat.and_two_pow_sub_one_eq_mod]
        refine ⟨trivial, hend _ ?_⟩
        unfold gpV
        rw [if_pos c0]
      refine ⟨fun c1 => ?_, fun c1 => ?_⟩
      · refine am_run hX 10 _ _ _ _ ?_
        conv => whnf
        refine ⟨hI, ?_⟩
        conv => whnf
        rw [e21, hN.2.2.1, nI_sh (by omega) w (by omega)]
        refine ⟨trivial, hend _ ?_⟩
        unfold gpV
        rw [if_neg c0, if_pos c1]
      refine ⟨fun c2 => ?_, fun c2 => ?_⟩
      · refine am_run hX 6 _ _ _ _ ?_
        conv => whnf
        refine ⟨hI, ?_⟩
        conv => whnf
        rw [nI_clamp (n := j) (by omega), hs j hj]
        refine ⟨trivial, hend _ ?_⟩
        unfold gpV
        rw [if_neg c0, if_neg c1, if_pos c2]
      · refine am_run hX 2 _ _ _ _ ?_
        conv => whnf
        refine ⟨trivial, hend _ ?_⟩
        unfold gpV
        rw [if_neg c0, if_neg c1, if_neg c2]
    · exact ⟨fun z => absurd z (nI_nlt (by omega) (by omega)), fun _ => no (nI_nm j31) (Or.inr (nI_le (by omega) j31))⟩
  · refine am_run hX 4 _ _ _ _ ?_
    conv => whnf
    rw [hR.1]
    exact ⟨trivial, hF, hG0, R, r, hg, nI r, rfl, Or.inl ⟨Classical.not_not.mp cm, rfl⟩⟩
set_option maxRecDepth 100000 in
theorem ct_gpR {p q : Int32} (h : grS M w k ys) (hz : nzS w ys) (hc : M.1 108 74 = 0 ∨ M.1 108 74 = 1 ∧ grG M w ys) (h65 : M.1 108 65 = 1) : am_M (d + 5) false nm_X12_group [aR 108, aI p, aI q] M (fun t N => gfF (th0 M) N ∧ N.1 108 74 = 1 ∧ grG N w ys ∧ ∃ R r, gpR w ys R r ∧ ∃ v, t = .inl (some (aI v)) ∧ gpA R r w (fun i => sgV w ys (R i % 2 ^ w) (R i / 2 ^ w)) p q v) := by
  have w8 := h.1
  have h8 := w256 w8
  refine ⟨rfl, rfl, rfl, fun X hX => am_run hX 6 _ _ _ _ ?_⟩
  conv => whnf
  rw [show (mm_i M 108 (upd (M.1 108) 0 0)).1 108 65 = 1 from h65]
  refine ⟨fun _ => ?_, fun c => absurd (by decide) c⟩
  refine am_run hX 2 _ _ _ _ ?_
  conv => whnf
  have h' : grS (th0 M) w k ys := h
  have hc' : (th0 M).1 108 74 = 0 ∨ (th0 M).1 108 74 = 1 ∧ grG (th0 M) w ys := hc
  refine am_cq (ct_findGR (d := d) (M := th0 M) h' hz hc') fun r1 N hq => ?_
  obtain ⟨rfl, hF, h74, hG⟩ := hq
  refine ⟨none, rfl, ?_⟩
  have hG0 := hG
  obtain ⟨R, r, hR, hg, hs⟩ := hG
  have r16 := tr_16 (rrf_tri hg.1)
  have no : p ≠ -1 → (p < 0 ∨ nI r ≤ p) → X 40 [some (aR 108), some (aI p), some (aI q)] [] N := fun a z => by
    refine am_run hX 2 _ _ _ _ ?_
    conv => whnf
    exact ⟨trivial, hF, h74, hG0, R, r, hg, -1, rfl, Or.inr (Or.inl ⟨a, z, rfl⟩)⟩
  refine am_run hX 3 _ _ _ _ ?_
  conv => whnf
  refine ⟨fun cm => ?_, fun cm => ?_⟩
  · refine am_run hX 2 _ _ _ _ ?_
    conv => whnf
    refine ⟨fun c => no cm (Or.inl c), fun c => ?_⟩
    obtain ⟨j, j31, rfl⟩ := nI_of c
    refine am_run hX 4 _ _ _ _ ?_
    conv => whnf
    rw [hR.1]
    by_cases hj : j < r
    · refine ⟨fun _ => ?_, fun z => absurd (nI_lt hj (by omega)) z⟩
      have hI : vp_in (nI j) 16 := vp_in_nI (by omega) (by decide)
      obtain ⟨c1', c2'⟩ := hR.2 j hj
      have hend : ∀ v, v = gpV R w (fun i => sgV w ys (R i % 2 ^ w) (R i / 2 ^ w)) j q → gfF (th0 M) N ∧ N.1 108 74 = 1 ∧ grG N w ys ∧ ∃ R r, gpR w ys R r ∧ ∃ v', (Sum.inl (some (aI v)) : Option am_V ⊕ String) = .inl (some (aI v')) ∧ gpA R r w (fun i => sgV w ys (R i % 2 ^ w) (R i / 2 ^ w)) (nI j) q v' := fun v hv => ⟨hF, h74, hG0, R, r, hg, v, rfl, Or.inr (Or.inr ⟨j, hj, rfl, hv⟩)⟩
      refine am_run hX 2 _ _ _ _ ?_
      conv => whnf
      refine ⟨fun c0 => ?_, fun c0 => ?_⟩
      · refine am_run hX 3 _ _ _ _ ?_
        conv => whnf
        refine ⟨fun c1 => ?_, fun c1 => ?_⟩
        · refine am_run hX 3 _ _ _ _ ?_
          conv => whnf
          refine ⟨fun c2 => ?_, fun c2 => ?_⟩
          · refine am_run hX 2 _ _ _ _ ?_
            conv => whnf
            refine ⟨trivial, hend _ ?_⟩
            unfold gpV
            rw [if_neg c0, if_neg c1, if_neg c2]
          · refine am_run hX 6 _ _ _ _ ?_
            conv => whnf
            refine ⟨hI, ?_⟩
            conv => whnf
            rw [nI_clamp (n := j) (by omega), hs j hj]
            refine ⟨trivial, hend _ ?_⟩
            unfold gpV
            rw [if_neg c0, if_neg c1, if_pos (Classical.not_not.mp c2)]
        · refine am_run hX 6 _ _ _ _ ?_
          conv => whnf
          refine ⟨hI, ?_⟩
          conv => whnf
          rw [nI_clamp (n := j) (by omega), c2']
          refine ⟨trivial, hend _ ?_⟩
          unfold gpV
          rw [if_neg c0, if_pos (Classical.not_not.mp c1)]
      · refine am_run hX 6 _ _ _ _ ?_
        conv => whnf
        refine ⟨hI, ?_⟩
        conv => whnf
        rw [nI_clamp (n := j) (by omega), c1']
        refine ⟨trivial, hend _ ?_⟩
        unfold gpV
        rw [if_pos (Classical.not_not.mp c0)]
    · exact ⟨fun z => absurd z (nI_nlt (by omega) (by omega)), fun _ => no (nI_nm j31) (Or.inr (nI_le (by omega) j31))⟩
  · refine am_run hX 3 _ _ _ _ ?_
    conv => whnf
    rw [hR.1]
    exact ⟨trivial, hF, h74, hG0, R, r, hg, nI r, rfl, Or.inl ⟨Classical.not_not.mp cm, rfl⟩⟩
end GPL
section GPM
variable {ac : Nat → ClassId} {lo : Nat} {ad as : Nat → Nat} {b L : Nat} {zs : Nat → Int32} {hp : mm_M → Nat → xm_H} {I J : mm_M → Prop}
/-- the invariant: no RUN, or a STATE that is not 0, with what is known of THE GROUP -/
def gp_iv (M : mm_M) : Prop := (M.1 17 5 = -1 ∧ M.1 108 65 = 0) ∨ ∃ c w k xs, ru_s M c w k ∧ ru_n M w k xs ∧ nzS w xs ∧ (M.1 17 10 = -1 ∨ gcG M w xs) ∧ (M.1 108 74 = 0 ∨ M.1 108 74 = 1 ∧ grG M w xs)
set_option maxRecDepth 100000 in
theorem gpX_0 {d : Nat} {M : mm_M} {p q : Int32} (h : M.1 17 5 = -1) : am_M (d + 1) false nm_X11_group [aR 0, aI p, aI q] M (am_q1 (aI (-1)) M) := by
  refine ⟨rfl, rfl, rfl, fun X hX => am_run hX 7 _ _ _ _ ?_⟩
  conv => whnf
  rw [h]
  refine ⟨fun c => absurd rfl c, fun _ => ?_⟩
  conv => whnf
  exact ⟨trivial, rfl, rfl⟩
set_option maxRecDepth 100000 in
theorem gpR_0 {d : Nat} {M : mm_M} {p q : Int32} (h : M.1 108 65 = 0) : am_M (d + 1) false nm_X12_group [aR 108, aI p, aI q] M (am_q1 (aI (-1)) (th0 M)) := by
  refine ⟨rfl, rfl, rfl, fun X hX => am_run hX 8 _ _ _ _ ?_⟩
  conv => whnf
  rw [show (mm_i M 108 (upd (M.1 108) 0 0)).1 108 65 = 0 from h]
  refine ⟨fun c => absurd rfl c, fun _ => ?_⟩
  conv => whnf
  exact ⟨trivial, rfl, rfl⟩
theorem gcG_g {M N : mm_M} {w : Nat} {ys : Nat → R4} (e1 : N.1 17 10 = M.1 17 10) (e2 : N.1 21 = M.1 21) (e3 : N.1 22 = M.1 22) (h : gcG M w ys) : gcG N w ys := by
  obtain ⟨R, r, ⟨a1, a2⟩, b, c⟩ := h
  refine ⟨R, r, ⟨e1.trans a1, ?_⟩, b, ?_⟩
  · rw [e2]
    exact a2
  · rw [e3]
    exact c
theorem pr_group (H : mm_L ac lo hp) (h1 : ∀ M, I M → gp_iv M) (hJ0 : ∀ M, I M → J (th0 M)) (hJ : ∀ M N M', I M → gcF M N → gfF (th0 N) M' → gp_iv M' → J M') (p q : Int32) : la_I ac lo ad as b L zs hp I J nm_X11_group nm_X12_group [.int p, .int q] := by
  refine am_la_I (us := [aI p, aI q]) H fun M hI => ?_
  rcases h1 M hI with ⟨e1, e2⟩ | ⟨c, w, k, xs, hs, hn, hz, gc, gr⟩
  · refine am_wk (gpX_0 (d := 999) e1) fun r M1 e => ⟨-1, e.1, ?_⟩
    rw [e.2]
    exact am_wk (gpR_0 (d := 999) e2) fun r M2 e => ⟨e.1, by rw [e.2]; exact hJ0 M hI⟩
  · have hs0 := hs
    obtain ⟨c20, w1, w8, k60, s5, s65, s66, s6, s71, s2, s3, _⟩ := hs
    have h60 := p60 k60
    have hbd : ∀ j, j < 2 ^ w → bd (xs j) := fun j hj => nrm_bd (by
      have a := sI_at (F := fun i => nrm (xs i)) (2 ^ w) (fun i _ => nrm0 _) j hj
      have a : nrm (xs j) ≤ sI (fun i => nrm (xs i)) (2 ^ w) := a
      have := hn.2
      omega)
    have hC : gcS M w xs := ⟨w8, s2, s6, fun j hj => ⟨hbd j hj, (hn.1 j hj).1⟩⟩
    refine am_wk (ct_gpC (d := 995) (p := p) (q := q) hC hz gc (by rw [s5]; exact nI_nm (by omega))) fun r M1 hq => ?_
    obtain ⟨hF, hG, R, r1, hg, v, rfl, hA⟩ := hq
    refine ⟨v, rfl, ?_⟩
    have f108 : M1.1 108 = M.1 108 := hF.1 108 (by decide) (by decide) (by decide) (by decide)
    have hR : grS M1 w k xs := ⟨w8, k60, by rw [f108]; exact s71, fun j hj => ⟨hbd j hj, by
      rw [hF.2.1]
      exact (at_rf (by have := (vr_red k (xs j)).1; omega)).mp (hn.1 j hj).2⟩⟩
    have gr1 : M1.1 108 74 = 0 ∨ M1.1 108 74 = 1 ∧ grG M1 w xs := by
      rw [f108]
      rcases gr with g | ⟨g, R2, r2, ⟨a1, a2⟩, a3, a4⟩
      · exact Or.inl g
      · refine Or.inr ⟨g, R2, r2, ⟨by rw [f108]; exact a1, fun i hi => ?_⟩, a3, fun i hi => ?_⟩
        · unfold rwz
          rw [hF.1 154 (by decide) (by decide) (by decide) (by decide), hF.1 155 (by decide) (by decide) (by decide) (by decide)]
          exact a2 i hi
        · rw [hF.1 156 (by decide) (by decide) (by decide) (by decide)]
          exact a4 i hi
    refine am_wk (ct_gpR (d := 995) (p := p) (q := q) hR hz gr1 (by rw [f108]; exact s65)) fun r2 M2 hq2 => ?_
    obtain ⟨gF, g74, gG, R', r', hg', v', rfl, hA'⟩ := hq2
    obtain ⟨er, eR⟩ := gp_u hg hg'
    subst er
    have r16 := tr_16 (rrf_tri hg.1)
    have ev := gpA_u r16 eR (fun i hi => by rw [eR i hi]) hA hA'
    subst ev
    refine ⟨rfl, hJ M M1 M2 hI hF gF (Or.inr ⟨c, w, k, xs, ?_, ?_, hz, Or.inr ?_, Or.inr ⟨g74, gG⟩⟩)⟩
    · have y17 : ∀ y, y ≠ 10 → M2.1 17 y = M.1 17 y := fun y hy => by
        rw [gF.1 17 (by decide) (by decide) (by decide) (by decide)]
        exact hF.2.2 y hy
      have y108 : ∀ y, y ≠ 0 → y ≠ 74 → y ≠ 77 → M2.1 108 y = M.1 108 y := fun y h0 h1 h2 => by
        rw [gF.2.2 y h1 h2, ← f108]
        show (mm_i M1 108 (upd (M1.1 108) 0 0)).1 108 y = _
        rw [mm_i1]
        exact if_neg h0
      have l20 : M2.2 20 = M.2 20 := by
        rw [gF.2.1 20 (by decide)]
        show M1.2 20 = _
        rw [hF.2.1]
      have l150 : M2.2 150 = M.2 150 := by
        rw [gF.2.1 150 (by decide)]
        show M1.2 150 = _
        rw [hF.2.1]
      have y18 : M2.1 18 = M.1 18 := by
        rw [gF.1 18 (by decide) (by decide) (by decide) (by decide)]
        exact hF.1 18 (by decide) (by decide) (by decide) (by decide)
      refine ⟨c20, w1, w8, k60, by rw [y17 5 (by decide)]; exact s5, by rw [y108 65 (by decide) (by decide) (by decide)]; exact s65, by rw [y108 66 (by decide) (by decide) (by decide)]; exact s66, by rw [y17 6 (by decide)]; exact s6, by rw [y108 71 (by decide) (by decide) (by decide)]; exact s71, by rw [y18]; exact s2, by rw [y18]; exact s3, fun j hj => ⟨xs j, hbd j hj, ?_, ?_⟩⟩
      · unfold rt_at
        rw [l20]
        exact (hn.1 j hj).1
      · unfold rf_at
        rw [l150]
        exact (hn.1 j hj).2
    · have l20 : M2.2 20 = M.2 20 := by
        rw [gF.2.1 20 (by decide)]
        show M1.2 20 = _
        rw [hF.2.1]
      have l150 : M2.2 150 = M.2 150 := by
        rw [gF.2.1 150 (by decide)]
        show M1.2 150 = _
        rw [hF.2.1]
      refine ⟨fun j hj => ⟨?_, ?_⟩, hn.2⟩
      · unfold rt_at
        rw [l20]
        exact (hn.1 j hj).1
      · unfold rf_at
        rw [l150]
        exact (hn.1 j hj).2
    · refine gcG_g (M := M1) ?_ ?_ ?_ hG
      · rw [gF.1 17 (by decide) (by decide) (by decide) (by decide)]
        rfl
      · rw [gF.1 21 (by decide) (by decide) (by decide) (by decide)]
        rfl
      · rw [gF.1 22 (by decide) (by decide) (by decide) (by decide)]
        rfl
end GPM
