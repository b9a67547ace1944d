/-! derive: the class's drafts -/
theorem bkF_d {M N : mm_M} (h : dfF M N) : bkF M N := ⟨fun k hk => h.1 k (by omega) (by omega), h.2.2 7 (by decide), by rw [h.1 108 (by decide) (by decide)]⟩
theorem drf_w {N : mm_M} {l : List bk_X} (h : drf N l) : drw N l := ⟨h.2.1, fun j hj => h.2.2 j (by omega)⟩
theorem drw_r {N : mm_M} {l : List bk_X} (h : drw N l) (hl : l.length ≤ 300) : drf N l := ⟨hl, h.1, fun j hj => h.2 j (by omega)⟩
section DVB
variable {d : Nat} {M : mm_M} {W n c W' c' : Nat} {l l' : List bk_X}
set_option maxRecDepth 100000 in
theorem paj_l {v : Int32} {k : Nat} {P : am_Q} {X : am_X} (hX : am_K (d + 3) false nm_X0_putAll P X) (hb : bk_iv M n) (hc : c < n) (hC : bk_c M c W l.length) (hk : k < 1000) (hK : ∀ N, dfF M N → P (.inl none) N) : ∀ (m i : Nat) (N : mm_M), i + m = l.length → dfF M N → N.1 9 8 = nI (k + i) → X 2 [some (aR 9), some (aI (nI c)), some (aI v), some (aI (nI i))] [] N := by
  have n20 := hb.1
  have s300 := hC.2.2.1
  have h11 := hC.2.2.2.2.2.1
  intro m
  induction m with
  | zero =>
    intro i N hi hF h8
    obtain rfl : i = l.length := by omega
    refine am_run hX 7 _ _ _ _ ?_
    conv => whnf
    refine ⟨vp_in_nI (by show c < 20; omega) (by decide), ?_⟩
    conv => whnf
    rw [nI_clamp (n := c) (by omega), hF.1 11 (by decide) (by decide), h11]
    refine ⟨fun _ => ?_, fun q => absurd (nI_le (Nat.le_refl _) (by omega)) q⟩
    conv => whnf
    exact ⟨trivial, hK N hF⟩
  | succ m ih =>
    intro i N hi hF h8
    refine am_run hX 6 _ _ _ _ ?_
    conv => whnf
    refine ⟨vp_in_nI (by show c < 20; omega) (by decide), ?_⟩
    conv => whnf
    rw [nI_clamp (n := c) (by omega), hF.1 11 (by decide) (by decide), h11]
    refine ⟨fun q => absurd q (nI_ge (by omega) (by omega)), fun _ => ?_⟩
    refine am_run hX 10 _ _ _ _ ?_
    conv => whnf
    refine am_c1 (bk_at (d := d) (bkF_i (bkF_d hF) hb) hc (bkF_c (bkF_d hF) hC) (show i < l.length by omega)) ?_
    conv => whnf
    refine am_cq (ct_putJ (d := d + 2) (M := N) (k := k + i) h8 (by omega)) fun r1 N1 hq => ?_
    obtain ⟨rfl, f1, g1⟩ := hq
    refine ⟨none, rfl, ?_⟩
    refine am_run hX 2 _ _ _ _ ?_
    conv => whnf
    rw [nI_1]
    exact ih (i + 1) N1 (by omega) (dfF_t hF f1) (by rw [g1, Nat.add_assoc])
set_option maxRecDepth 100000 in
theorem ct_putAJ {v : Int32} {k : Nat} (hb : bk_iv M n) (hc : c < n) (hC : bk_c M c W l.length) (hk : k < 1000) (h8 : M.1 9 8 = nI k) : am_M (d + 4) false nm_X0_putAll [aR 9, aI (nI c), aI v] M (fun r N => r = .inl none ∧ dfF M N) := by
  refine ⟨rfl, rfl, rfl, fun X hX => am_run hX 2 _ _ _ _ ?_⟩
  conv => whnf
  exact paj_l (d := d) (M := M) (l := l) hX hb hc hC hk (fun N a => ⟨rfl, a⟩) l.length 0 M (by omega) (dfF_r M) h8
set_option maxRecDepth 100000 in
theorem ct_putCn (hb : bk_iv M n) (hc : c < n) (hC : bk_c M c W l.length) (hl : opsL M c W l) (ho : allO W l) (hd : drw M []) : am_M (d + 5) false nm_X0_putCancelled [aR 9, aI (nI c)] M (fun r N => r = .inl none ∧ dfF M N ∧ drf N (cnN 300 l) ∧ allO W (cnN 300 l)) := by
  have key := ct_putAll (d := d) (M := M) (l0 := []) hb hc hC hl (by decide)
  rw [drw_d hd, List.nil_append] at key
  refine ⟨rfl, rfl, rfl, fun X hX => am_run hX 4 _ _ _ _ ?_⟩
  conv => whnf
  refine am_c0 key ?_
  refine am_run hX 2 _ _ _ _ ?_
  conv => whnf
  exact pcn_l (d := d) (M := M) hX hC.2.1 (cnN 300 l) (fun N a b c => ⟨rfl, a, b, c⟩) 300 0 (dlM M l) l (by omega) hC.2.2.1 (dfF_l M l) (drw_r (drw_l M l) hC.2.2.1) ho rfl
/-- what a draft comes to -/
def drQ (M : mm_M) (ok : Prop) (L : List bk_X) : am_Q := fun r N => mrF M N ∧ ((ok ∧ r = .inl (some (aI 1)) ∧ drw N L) ∨ (¬ ok ∧ r = .inl (some (aI 0))))
set_option maxRecDepth 100000 in
theorem ct_dr0 {v : Int32} (hb : bk_iv M n) (hc : c < n) (hC : bk_c M c W l.length) (hl : opsL M c W l) (hd : drw M []) : am_M (d + 7) false nm_X11_draftDerived [aR 0, aI 0, aI (nI c), aI v] M (drQ M True ((l.map ivX).reverse)) := by
  have key := ct_pi (d := d + 2) (M := M) (l0 := []) hb hc hC hl (by decide)
  rw [drw_d hd, List.nil_append] at key
  refine ⟨rfl, rfl, rfl, fun X hX => am_run hX 2 _ _ _ _ ?_⟩
  conv => whnf
  refine ⟨fun _ => ?_, fun q => absurd rfl q⟩
  refine am_run hX 6 _ _ _ _ ?_
  conv => whnf
  refine am_c0 key ?_
  conv => whnf
  exact ⟨rfl, mrF_d (dfF_l M _), Or.inl ⟨trivial, rfl, drw_l M _⟩⟩
set_option maxRecDepth 100000 in
theorem ct_dr1 (hb : bk_iv M n) (hc : c < n) (hC : bk_c M c W l.length) (hl : opsL M c W l) (hc' : c' < n) (hC' : bk_c M c' W' l'.length) (hl' : opsL M c' W' l') (hd : drw M []) : am_M (d + 7) false nm_X11_draftDerived [aR 0, aI 1, aI (nI c), aI (nI c')] M (drQ M True (l ++ l')) := by
  have s3 := hC.2.2.1
  have key := ct_putAll (d := d + 2) (M := M) (l0 := []) hb hc hC hl (by decide)
  rw [drw_d hd, List.nil_append] at key
  have key2 := ct_putAll (d := d + 2) (M := M) (l0 := l) hb hc' hC' hl' (by omega)
  refine ⟨rfl, rfl, rfl, fun X hX => am_run hX 2 _ _ _ _ ?_⟩
  conv => whnf
  refine ⟨fun q => absurd q (by decide), fun _ => ?_⟩
  refine ⟨fun _ => ?_, fun q => absurd rfl q⟩
  refine am_run hX 12 _ _ _ _ ?_
  conv => whnf
  refine am_c0 key ?_
  conv => whnf
  refine am_c0 key2 ?_
  conv => whnf
  exact ⟨rfl, mrF_d (dfF_l M _), Or.inl ⟨trivial, rfl, drw_l M _⟩⟩
set_option maxRecDepth 100000 in
theorem ct_dr2 {v : Int32} (hb : bk_iv M n) (hc : c < n) (hC : bk_c M c W l.length) (hl : opsL M c W l) (hd : drw M []) : am_M (d + 7) false nm_X11_draftDerived [aR 0, aI 2, aI (nI c), aI v] M (drQ M (W ≤ 7) (l.map (adX W))) := by
  have n20 := hb.1
  have w8 := hC.2.1
  have hW : M.1 12 c = nI W := hC.2.2.2.1
  have hIc : vp_in (nI c) 20 := vp_in_nI (by omega) (by decide)
  refine ⟨rfl, rfl, rfl, fun X hX => am_run hX 2 _ _ _ _ ?_⟩
  conv => whnf
  refine ⟨fun q => absurd q (by decide), fun _ => ?_⟩
  refine ⟨fun q => absurd q (by decide), fun _ => ?_⟩
  refine ⟨fun _ => ?_, fun q => absurd rfl q⟩
  refine am_run hX 11 _ _ _ _ ?_
  conv => whnf
  refine ⟨hIc, ?_⟩
  conv => whnf
  rw [nI_clamp (n := c) (by omega), hW, sh2 W (by omega)]
  -- behind it
  have hend : ∀ N, mrF M N → (W ≤ 7 → drw N (l.map (adX W))) → X 85 [some (aR 0), some (aI 2), some (aI (nI c)), some (aI v)] [] N := by
    intro N hF hL
    have hWN : N.1 12 c = nI W := by rw [hF.1 12 (by decide) (by decide) (by decide) (by decide)]; exact hW
    refine am_run hX 7 _ _ _ _ ?_
    conv => whnf
    refine ⟨hIc, ?_⟩
    conv => whnf
    rw [nI_clamp (n := c) (by omega), hWN]
    refine ⟨fun q => ?_, fun q => ?_⟩
    · have w7 : ¬ W ≤ 7 := fun z => absurd q (nI_ge (a := W) (b := 8) (by omega) (by decide))
      refine am_run hX 2 _ _ _ _ ?_
      conv => whnf
      exact ⟨rfl, hF, Or.inr ⟨w7, rfl⟩⟩
    · have w7 : W ≤ 7 := by
        apply Classical.byContradiction
        intro z
        exact q (nI_le (a := 8) (b := W) (by omega) (by omega))
      refine am_run hX 3 _ _ _ _ ?_
      conv => whnf
      exact ⟨rfl, hF, Or.inl ⟨w7, rfl, hL w7⟩⟩
  by_cases w7 : W ≤ 7
  · have key := ct_putC (d := d + 2) (M := M) (l0 := []) hb hc hC hl w7 (by decide)
    rw [drw_d hd, List.nil_append] at key
    refine am_c0 key ?_
    conv => whnf
    exact hend _ (mrF_d (dfF_l M _)) (fun _ => drw_l M _)
  · refine am_cq (ct_putAJ (d := d + 2) (M := M) (l := l) (k := 0) hb hc hC (by decide) hd.1) fun r1 N1 hq => ?_
    obtain ⟨rfl, f1⟩ := hq
    refine ⟨none, rfl, ?_⟩
    conv => whnf
    exact hend N1 (mrF_d f1) (fun z => absurd z w7)
set_option maxRecDepth 100000 in
theorem ct_dr3 (hb : bk_iv M n) (hc : c < n) (hC : bk_c M c W l.length) (hl : opsL M c W l) (hc' : c' < n) (hC' : bk_c M c' W' l'.length) (hl' : opsL M c' W' l') (hd : drw M []) : am_M (d + 7) false nm_X11_draftDerived [aR 0, aI 3, aI (nI c), aI (nI c')] M (drQ M True (l' ++ l ++ (l'.map ivX).reverse)) := by
  have s3 := hC.2.2.1
  have s3' := hC'.2.2.1
  have key := ct_putAll (d := d + 2) (M := M) (l0 := []) hb hc' hC' hl' (by decide)
  rw [drw_d hd, List.nil_append] at key
  have key2 := ct_putAll (d := d + 2) (M := M) (l0 := l') hb hc hC hl (by omega)
  have key3 := ct_pi (d := d + 2) (M := M) (l0 := l' ++ l) hb hc' hC' hl' (by rw [List.length_append]; omega)
  refine ⟨rfl, rfl, rfl, fun X hX => am_run hX 2 _ _ _ _ ?_⟩
  conv => whnf
  refine ⟨fun q => absurd q (by decide), fun _ => ?_⟩
  refine ⟨fun q => absurd q (by decide), fun _ => ?_⟩
  refine ⟨fun q => absurd q (by decide), fun _ => ?_⟩
  refine ⟨fun _ => ?_, fun q => absurd rfl q⟩
  refine am_run hX 16 _ _ _ _ ?_
  conv => whnf
  refine am_c0 key ?_
  conv => whnf
  refine am_c0 key2 ?_
  conv => whnf
  refine am_c0 key3 ?_
  conv => whnf
  exact ⟨rfl, mrF_d (dfF_l M _), Or.inl ⟨trivial, rfl, drw_l M _⟩⟩
set_option maxRecDepth 100000 in
theorem ct_dr4 {v : Int32} (hb : bk_iv M n) (hc : c < n) (hC : bk_c M c W l.length) (hl : opsL M c W l) (ho : allO W l) (hd : drw M []) : am_M (d + 7) false nm_X11_draftDerived [aR 0, aI 4, aI (nI c), aI v] M (drQ M (mgA l) (mgL (zg l) l.length l.length)) := by
  refine ⟨rfl, rfl, rfl, fun X hX => am_run hX 2 _ _ _ _ ?_⟩
  conv => whnf
  refine ⟨fun q => absurd q (by decide), fun _ => ?_⟩
  refine ⟨fun q => absurd q (by decide), fun _ => ?_⟩
  refine ⟨fun q => absurd q (by decide), fun _ => ?_⟩
  refine ⟨fun q => absurd q (by decide), fun _ => ?_⟩
  refine ⟨fun _ => ?_, fun q => absurd rfl q⟩
  refine am_run hX 5 _ _ _ _ ?_
  conv => whnf
  refine am_cq (ct_putMg (d := d) hb hc hC hl ho hd) fun r1 N1 hq => ?_
  obtain ⟨f1, ⟨h1, rfl, h2⟩ | ⟨h1, rfl⟩⟩ := hq
  · refine ⟨_, rfl, ?_⟩
    conv => whnf
    exact ⟨rfl, f1, Or.inl ⟨h1, rfl, h2⟩⟩
  · refine ⟨_, rfl, ?_⟩
    conv => whnf
    exact ⟨rfl, f1, Or.inr ⟨h1, rfl⟩⟩
set_option maxRecDepth 100000 in
theorem ct_dr5 {v : Int32} (hb : bk_iv M n) (hc : c < n) (hC : bk_c M c W l.length) (hl : opsL M c W l) (ho : allO W l) (hd : drw M []) : am_M (d + 7) false nm_X11_draftDerived [aR 0, aI 5, aI (nI c), aI v] M (drQ M True (cnN 300 l)) := by
  refine ⟨rfl, rfl, rfl, fun X hX => am_run hX 2 _ _ _ _ ?_⟩
  conv => whnf
  refine ⟨fun q => absurd q (by decide), fun _ => ?_⟩
  refine ⟨fun q => absurd q (by decide), fun _ => ?_⟩
  refine ⟨fun q => absurd q (by decide), fun _ => ?_⟩
  refine ⟨fun q => absurd q (by decide), fun _ => ?_⟩
  refine ⟨fun q => absurd q (by decide), fun _ => ?_⟩
  refine am_run hX 6 _ _ _ _ ?_
  conv => whnf
  refine am_cq (ct_putCn (d := d + 1) hb hc hC hl ho hd) fun r1 N1 hq => ?_
  obtain ⟨rfl, f1, g1, _⟩ := hq
  refine ⟨none, rfl, ?_⟩
  conv => whnf
  exact ⟨rfl, mrF_d f1, Or.inl ⟨trivial, rfl, drf_w g1⟩⟩
end DVB
