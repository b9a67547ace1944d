/-! a circuit backwards: putInverse, copy backwards -/
def rvL (l : List bk_X) (i : Nat) : List bk_X := ((l.drop i).map ivX).reverse
theorem rv_s {l : List bk_X} {i : Nat} (h : i < l.length) : rvL l i = rvL l (i + 1) ++ [ivX (zg l i)] := by
  unfold rvL
  rw [List.drop_eq_getElem_cons h, List.map_cons, List.reverse_cons]
  congr 3
  unfold zg
  rw [List.getD_eq_getElem?_getD, List.getElem?_eq_getElem h]
  rfl
theorem rv_e (l : List bk_X) : rvL l l.length = [] := by
  unfold rvL
  rw [List.drop_length]
  rfl
section INW
variable {d : Nat} {M : mm_M} {n c W : Nat} {l l0 : List bk_X}
set_option maxRecDepth 100000 in
theorem pi_l {P : am_Q} {X : am_X} (hX : am_K (d + 3) false nm_X0_putInverse P X) (hb : bk_iv M n) (hc : c < n) (hC : bk_c M c W l.length) (hl : opsL M c W l) (h0 : l0.length < 100000) (hK : ∀ l2, X 32 [some (aR 9), some (aI (nI c)), l2] [] (dlM M (l0 ++ rvL l 0))) : ∀ (i : Nat), i ≤ l.length → X 9 [some (aR 9), some (aI (nI c)), some (aI (nI i - 1))] [] (dlM M (l0 ++ rvL l i)) := by
  obtain ⟨g1, g2, g3, g4⟩ := hl
  have hn := hb.1
  intro i
  induction i with
  | zero =>
    intro hi
    refine am_run hX 2 _ _ _ _ ?_
    conv => whnf
    exact ⟨fun _ => hK _, fun q => absurd (by decide) q⟩
  | succ i ih =>
    intro hi
    have ih := ih (by omega)
    rw [rv_s (by omega), ← List.append_assoc] at ih
    have o := g4 i (by omega)
    have w8 := hC.2.1
    rw [nI_s1 (i + 1) (by omega), show i + 1 - 1 = i from rfl]
    refine am_run hX 2 _ _ _ _ ?_
    conv => whnf
    refine ⟨fun q => absurd q (nI_pos (by omega)), fun _ => ?_⟩
    refine am_run hX 9 _ _ _ _ ?_
    conv => whnf
    refine am_c1 (bk_at (d := d) (bk_dl _ hb) hc (bk_dc _ hC) (show i < l.length by omega)) ?_
    conv => whnf
    rw [dl_r _ _ (by decide) (by decide), o.2.1]
    refine am_c1 (ct_iv (d := d + 1) w8 o.1) ?_
    conv => whnf
    refine am_c0 (ct_putL (x := ivX (zg l i)) rfl (by
      have : (l0 ++ rvL l (i + 1)).length ≤ l0.length + 300 := by
        unfold rvL
        simp
        omega
      omega)) ?_
    conv => whnf
    rw [← nI_s1']
    exact ih
set_option maxRecDepth 100000 in
theorem ct_pi (hb : bk_iv M n) (hc : c < n) (hC : bk_c M c W l.length) (hl : opsL M c W l) (h0 : l0.length < 100000) : am_M (d + 4) false nm_X0_putInverse [aR 9, aI (nI c)] (dlM M l0) (am_q0 (dlM M (l0 ++ (l.map ivX).reverse))) := by
  have hn := hb.1
  refine ⟨rfl, rfl, rfl, fun X hX => am_run hX 7 _ _ _ _ ?_⟩
  conv => whnf
  refine ⟨vp_in_nI (by show c < 20; omega) (by decide), ?_⟩
  conv => whnf
  rw [nI_clamp (n := c) (by omega), dl_r _ _ (by decide) (by decide), hl.1]
  have k := pi_l hX hb hc hC hl h0 (fun l2 => by
    refine am_run hX 1 _ _ _ _ ?_
    conv => whnf
    exact ⟨trivial, rfl, rfl⟩) l.length (Nat.le_refl _)
  rw [rv_e, List.append_nil] at k
  exact k
set_option maxRecDepth 100000 in
theorem ci_l {P : am_Q} {X : am_X} (hX : am_K (d + 1) false nm_X12_copy P X) (h6 : M.1 108 6 = nI n) (hn : n < 20) (hc : c < n) (hl : opsL M c W l) (hK : ∀ l4 l5, X 113 [some (aR 108), some (aI (nI c)), some (aI 1), some (aI 0), l4, l5] [] (llM M n (l0 ++ rvL l 0))) : ∀ (m i : Nat) (l5 : Option am_V), i + m = l.length → X 3 [some (aR 108), some (aI (nI c)), some (aI 1), some (aI 0), some (aI (nI i)), l5] [] (llM M n (l0 ++ rvL l m)) := by
  obtain ⟨g1, g2, g3, g4⟩ := hl
  intro m
  induction m with
  | zero =>
    intro i l5 hi
    have hi : i = l.length := by omega
    subst hi
    refine am_run hX 6 _ _ _ _ ?_
    conv => whnf
    refine ⟨vp_in_nI (by show c < 21; omega) (by decide), ?_⟩
    conv => whnf
    rw [nI_clamp (n := c) (by omega), ll_r _ _ _ (by decide) (by decide), g2]
    exact ⟨fun _ => hK _ _, fun q => absurd (nI_le (Nat.le_refl _) (by omega)) q⟩
  | succ m ih =>
    intro i l5 hi
    have ih := ih (i + 1) (some (aI (nI (300 * c + m)))) (by omega)
    rw [rv_s (by omega), ← List.append_assoc] at ih
    have ⟨w, o1, o2, o3, o4, o5, o6, o7⟩ := g4 m (by omega)
    have ab : 300 * c + m < 300 * n := by omega
    refine am_run hX 6 _ _ _ _ ?_
    conv => whnf
    refine ⟨vp_in_nI (by show c < 21; omega) (by decide), ?_⟩
    conv => whnf
    rw [nI_clamp (n := c) (by omega), ll_r _ _ _ (by decide) (by decide), g2]
    refine ⟨fun q => absurd q (nI_ge (by omega) (by omega)), fun _ => ?_⟩
    refine am_run hX 5 _ _ _ _ ?_
    conv => whnf
    refine ⟨fun q => absurd q (by decide), fun _ => ?_⟩
    refine am_run hX 14 _ _ _ _ ?_
    conv => whnf
    refine ⟨vp_in_nI (by show c < 21; omega) (by decide), ?_⟩
    conv => whnf
    rw [nI_clamp (n := c) (by omega), ll_r _ _ _ (by decide) (by decide), g2, nI_s1 _ (by omega), nI_sub (by omega), show l.length - 1 - i = m by omega, show (300 : Int32) * nI c + nI m = nI (300 * c + m) from by rw [show (300 : Int32) = nI 300 from rfl, nI_mul, nI_add]]
    refine ⟨fun q => absurd q (by decide), fun _ => ?_⟩
    refine am_run hX 31 _ _ _ _ ?_
    conv => whnf
    refine ⟨vp_in_nI (by show 300 * c + m < 6300; omega) (by decide), ?_⟩
    conv => whnf
    rw [nI_clamp (n := 300 * c + m) (by omega), ll_112 _ _ ab, o2]
    refine am_c1 (ct_bo w.1) ?_
    conv => whnf
    refine ⟨vp_in_nI (by show 300 * c + m < 6300; omega) (by decide), ?_⟩
    conv => whnf
    refine ⟨vp_in_nI (by show 300 * c + m < 6300; omega) (by decide), ?_⟩
    conv => whnf
    refine ⟨vp_in_nI (by show 300 * c + m < 6300; omega) (by decide), ?_⟩
    conv => whnf
    refine ⟨vp_in_nI (by show 300 * c + m < 6300; omega) (by decide), ?_⟩
    conv => whnf
    refine ⟨vp_in_nI (by show 300 * c + m < 6300; omega) (by decide), ?_⟩
    conv => whnf
    rw [nI_clamp (n := 300 * c + m) (by omega), ll_113 _ _ ab, ll_114 _ _ ab, ll_115 _ _ ab, ll_116 _ _ ab, ll_117 _ _ ab, o3, o4, o5, o6, o7, show nI (zg l m).2.2.2.1 ||| 0 = nI (zg l m).2.2.2.1 from by rw [show (0 : Int32) = nI 0 from rfl, nI_or, Nat.or_zero]]
    refine am_c0 (ct_layL (x := ivX (zg l m)) h6 hn (by have := ik_16 _ w.1; show ikN _ < 16; omega)) ?_
    conv => whnf
    rw [nI_1]
    exact ih
set_option maxRecDepth 100000 in
theorem ct_ci (h6 : M.1 108 6 = nI n) (hn : n < 20) (hc : c < n) (hl : opsL M c W l) : am_M (d + 2) false nm_X12_copy [aR 108, aI (nI c), aI 1, aI 0] (llM M n l0) (am_q0 (llM M n (l0 ++ (l.map ivX).reverse))) := by
  refine ⟨rfl, rfl, rfl, fun X hX => am_run hX 2 _ _ _ _ ?_⟩
  conv => whnf
  have k := ci_l (l0 := l0) hX h6 hn hc hl (fun l4 l5 => by
    refine am_run hX 1 _ _ _ _ ?_
    conv => whnf
    exact ⟨trivial, rfl, rfl⟩) l.length 0 none (by omega)
  rw [rv_e, List.append_nil] at k
  exact k
end INW
