/-! circuits copied; a draft kept, what is laid settled -/
/-- the OPS of circuit c -/
def opsL (M : mm_M) (c W : Nat) (l : List bk_X) : Prop := M.1 11 c = nI l.length ∧ M.1 111 c = nI l.length ∧ l.length ≤ 300 ∧ ∀ j, j < l.length → bk_w W (zg l j) ∧ bk_o M (300 * c + j) (zg l j)
theorem zg_m (f : Nat → bk_X) {S j : Nat} (h : j < S) : zg ((List.range S).map f) j = f j := by
  unfold zg
  rw [List.getD_eq_getElem?_getD, List.getElem?_map, List.getElem?_range h]
  rfl
theorem opsL_x {M : mm_M} {c W S : Nat} (h : bk_c M c W S) : ∃ l, l.length = S ∧ opsL M c W l := by
  obtain ⟨h1, h2, h3, h4, h5, h6, h7, h8⟩ := h
  have k : ∀ j : Nat, ∃ x : bk_X, j < S → bk_w W x ∧ bk_o M (300 * c + j) x := fun j => by
    by_cases q : j < S
    · have ⟨x, y⟩ := h8 j q
      exact ⟨x, fun _ => y⟩
    · exact ⟨(0, 0, 0, 0, 0, 0), fun z => absurd z q⟩
  have ⟨f, hf⟩ := Classical.skolem.1 k
  have ln : ((List.range S).map f).length = S := by simp
  refine ⟨(List.range S).map f, ln, by rw [ln]; exact h6, by rw [ln]; exact h7, by rw [ln]; exact h3, fun j hj => ?_⟩
  rw [ln] at hj
  rw [zg_m f hj]
  exact hf j hj
theorem zg_a {l k : List bk_X} {j : Nat} (h : j < l.length) : zg (l ++ k) j = zg l j := by
  unfold zg
  rw [List.getD_eq_getElem?_getD, List.getD_eq_getElem?_getD, List.getElem?_append_left h]
theorem tk_s (l : List bk_X) {i : Nat} (h : i < l.length) : l.take (i + 1) = l.take i ++ [zg l i] := by
  rw [List.take_succ]
  congr 1
  unfold zg
  rw [List.getD_eq_getElem?_getD, List.getElem?_eq_getElem h]
  rfl
theorem bk_dl {M : mm_M} {n : Nat} (l : List bk_X) (h : bk_iv M n) : bk_iv (dlM M l) n := by
  obtain ⟨h1, h2, h3, h4⟩ := h
  refine ⟨h1, by rw [dl_9]; exact h2, by rw [dl_r _ _ (by decide) (by decide)]; exact h3, fun i hi => ?_⟩
  have ⟨W, S, k⟩ := h4 i hi
  refine ⟨W, S, ?_⟩
  unfold bk_c bk_o at k ⊢
  rw [dl_r _ _ (by decide) (by decide), dl_r _ _ (by decide) (by decide), dl_r _ _ (by decide) (by decide), dl_r _ _ (by decide) (by decide), dl_r _ _ (by decide) (by decide), dl_r _ _ (by decide) (by decide), dl_r _ _ (by decide) (by decide), dl_r _ _ (by decide) (by decide), dl_r _ _ (by decide) (by decide), dl_r _ _ (by decide) (by decide), dl_r _ _ (by decide) (by decide)]
  exact k
theorem bk_dc {M : mm_M} {c W S : Nat} (l : List bk_X) (h : bk_c M c W S) : bk_c (dlM M l) c W S := by
  unfold bk_c bk_o at h ⊢
  rw [dl_r _ _ (by decide) (by decide), dl_r _ _ (by decide) (by decide), dl_r _ _ (by decide) (by decide), dl_r _ _ (by decide) (by decide), dl_r _ _ (by decide) (by decide), dl_r _ _ (by decide) (by decide), dl_r _ _ (by decide) (by decide), dl_r _ _ (by decide) (by decide), dl_r _ _ (by decide) (by decide), dl_r _ _ (by decide) (by decide), dl_r _ _ (by decide) (by decide)]
  exact h
theorem ll_112 (M : mm_M) {n a : Nat} (l : List bk_X) (h : a < 300 * n) : (llM M n l).1 112 a = M.1 112 a := by
  unfold llM lyT
  rw [mm_ne _ _ _ _ (by decide), ly_112]
  exact if_neg (by omega)
theorem ll_113 (M : mm_M) {n a : Nat} (l : List bk_X) (h : a < 300 * n) : (llM M n l).1 113 a = M.1 113 a := by
  unfold llM lyT
  rw [mm_ne _ _ _ _ (by decide), ly_113]
  exact if_neg (by omega)
theorem ll_114 (M : mm_M) {n a : Nat} (l : List bk_X) (h : a < 300 * n) : (llM M n l).1 114 a = M.1 114 a := by
  unfold llM lyT
  rw [mm_ne _ _ _ _ (by decide), ly_114]
  exact if_neg (by omega)
theorem ll_115 (M : mm_M) {n a : Nat} (l : List bk_X) (h : a < 300 * n) : (llM M n l).1 115 a = M.1 115 a := by
  unfold llM lyT
  rw [mm_ne _ _ _ _ (by decide), ly_115]
  exact if_neg (by omega)
theorem ll_116 (M : mm_M) {n a : Nat} (l : List bk_X) (h : a < 300 * n) : (llM M n l).1 116 a = M.1 116 a := by
  unfold llM lyT
  rw [mm_ne _ _ _ _ (by decide), ly_116]
  exact if_neg (by omega)
theorem ll_117 (M : mm_M) {n a : Nat} (l : List bk_X) (h : a < 300 * n) : (llM M n l).1 117 a = M.1 117 a := by
  unfold llM lyT
  rw [mm_ne _ _ _ _ (by decide), ly_117]
  exact if_neg (by omega)
section CPY
variable {d : Nat} {M : mm_M}
set_option maxRecDepth 100000 in
theorem pa_l {P : am_Q} {X : am_X} {n c W : Nat} {l l0 : List bk_X} (hX : am_K (d + 3) false nm_X0_putAll P X) (hb : bk_iv M n) (hc : c < n) (hC : bk_c M c W l.length) (hl : opsL M c W l) (h0 : l0.length < 100000) (hK : ∀ l3, X 33 [some (aR 9), some (aI (nI c)), some (aI 0), l3] [] (dlM M (l0 ++ l))) : ∀ (m i : Nat), i + m = l.length → X 2 [some (aR 9), some (aI (nI c)), some (aI 0), some (aI (nI i))] [] (dlM M (l0 ++ l.take i)) := by
  obtain ⟨g1, g2, g3, g4⟩ := hl
  have hn := hb.1
  intro m
  induction m with
  | zero =>
    intro i hi
    have hi : i = l.length := by omega
    subst hi
    refine am_run hX 6 _ _ _ _ ?_
    conv => whnf
    refine ⟨vp_in_nI (by show c < 20; omega) (by decide), ?_⟩
    conv => whnf
    rw [nI_clamp (n := c) (by omega), dl_r _ _ (by decide) (by decide), g1, List.take_length]
    exact ⟨fun _ => hK _, fun q => absurd (nI_le (Nat.le_refl _) (by omega)) q⟩
  | succ m ih =>
    intro i hi
    have ih := ih (i + 1) (by omega)
    rw [tk_s l (by omega), ← List.append_assoc] at ih
    have o := (g4 i (by omega)).2.1
    refine am_run hX 6 _ _ _ _ ?_
    conv => whnf
    refine ⟨vp_in_nI (by show c < 20; omega) (by decide), ?_⟩
    conv => whnf
    rw [nI_clamp (n := c) (by omega), dl_r _ _ (by decide) (by decide), g1]
    refine ⟨fun q => absurd q (nI_ge (by omega) (by omega)), fun _ => ?_⟩
    refine am_run hX 12 _ _ _ _ ?_
    conv => whnf
    refine am_c1 (bk_at (d := d) (bk_dl _ hb) hc (bk_dc _ hC) (show i < l.length by omega)) ?_
    conv => whnf
    rw [dl_r _ _ (by decide) (by decide), o]
    refine am_c0 (ct_putL (x := zg l i) (by
      rw [show (0 : Int32) <<< ((10 : Int32) &&& 31) = nI 0 from by decide, nI_or, Nat.or_zero]) (by
      have : (l0 ++ l.take i).length ≤ l0.length + 300 := by simp; omega
      omega)) ?_
    conv => whnf
    rw [nI_1]
    exact ih
set_option maxRecDepth 100000 in
theorem ct_putAll {n c W : Nat} {l l0 : List bk_X} (hb : bk_iv M n) (hc : c < n) (hC : bk_c M c W l.length) (hl : opsL M c W l) (h0 : l0.length < 100000) : am_M (d + 4) false nm_X0_putAll [aR 9, aI (nI c), aI 0] (dlM M l0) (am_q0 (dlM M (l0 ++ l))) := by
  refine ⟨rfl, rfl, rfl, fun X hX => am_run hX 2 _ _ _ _ ?_⟩
  conv => whnf
  have k := pa_l hX hb hc hC hl h0 (fun l3 => by
    refine am_run hX 1 _ _ _ _ ?_
    conv => whnf
    exact ⟨trivial, rfl, rfl⟩) l.length 0 (by omega)
  rw [List.take_zero, List.append_nil] at k
  exact k
set_option maxRecDepth 100000 in
theorem cp_l {P : am_Q} {X : am_X} {n c W : Nat} {l l0 : List bk_X} (hX : am_K (d + 1) false nm_X12_copy P X) (h6 : M.1 108 6 = nI n) (hn : n < 20) (hc : c < n) (hl : opsL M c W l) (hK : ∀ l4 l5, X 113 [some (aR 108), some (aI (nI c)), some (aI 0), some (aI 0), l4, l5] [] (llM M n (l0 ++ l))) : ∀ (m i : Nat) (l5 : Option am_V), i + m = l.length → X 3 [some (aR 108), some (aI (nI c)), some (aI 0), some (aI 0), some (aI (nI i)), l5] [] (llM M n (l0 ++ l.take i)) := by
  obtain ⟨g1, g2, g3, g4⟩ := hl
  intro m
  induction m with
  | zero =>
    intro i l5 hi
    have hi : i = l.length := by omega
    subst hi
    refine am_run hX 6 _ _ _ _ ?_
    conv => whnf
    refine ⟨vp_in_nI (by show c < 21; omega) (by decide), ?_⟩
    conv => whnf
    rw [nI_clamp (n := c) (by omega), ll_r _ _ _ (by decide) (by decide), g2, List.take_length]
    exact ⟨fun _ => hK _ _, fun q => absurd (nI_le (Nat.le_refl _) (by omega)) q⟩
  | succ m ih =>
    intro i l5 hi
    have ih := ih (i + 1) (some (aI (nI (300 * c + i)))) (by omega)
    rw [tk_s l (by omega), ← List.append_assoc] at ih
    have ⟨w, o1, o2, o3, o4, o5, o6, o7⟩ := g4 i (by omega)
    have ab : 300 * c + i < 300 * n := by omega
    refine am_run hX 6 _ _ _ _ ?_
    conv => whnf
    refine ⟨vp_in_nI (by show c < 21; omega) (by decide), ?_⟩
    conv => whnf
    rw [nI_clamp (n := c) (by omega), ll_r _ _ _ (by decide) (by decide), g2]
    refine ⟨fun q => absurd q (nI_ge (by omega) (by omega)), fun _ => ?_⟩
    refine am_run hX 5 _ _ _ _ ?_
    conv => whnf
    refine ⟨fun _ => ?_, fun q => absurd rfl q⟩
    refine am_run hX 6 _ _ _ _ ?_
    conv => whnf
    rw [show (300 : Int32) * nI c + nI i = nI (300 * c + i) from by rw [show (300 : Int32) = nI 300 from rfl, nI_mul, nI_add]]
    refine ⟨fun _ => ?_, fun q => absurd rfl q⟩
    refine am_run hX 29 _ _ _ _ ?_
    conv => whnf
    refine ⟨vp_in_nI (by show 300 * c + i < 6300; omega) (by decide), ?_⟩
    conv => whnf
    refine ⟨vp_in_nI (by show 300 * c + i < 6300; omega) (by decide), ?_⟩
    conv => whnf
    refine ⟨vp_in_nI (by show 300 * c + i < 6300; omega) (by decide), ?_⟩
    conv => whnf
    refine ⟨vp_in_nI (by show 300 * c + i < 6300; omega) (by decide), ?_⟩
    conv => whnf
    refine ⟨vp_in_nI (by show 300 * c + i < 6300; omega) (by decide), ?_⟩
    conv => whnf
    refine ⟨vp_in_nI (by show 300 * c + i < 6300; omega) (by decide), ?_⟩
    conv => whnf
    rw [nI_clamp (n := 300 * c + i) (by omega), ll_112 _ _ ab, ll_113 _ _ ab, ll_114 _ _ ab, ll_115 _ _ ab, ll_116 _ _ ab, ll_117 _ _ ab, o2, o3, o4, o5, o6, o7, show nI (zg l i).2.2.2.1 ||| 0 = nI (zg l i).2.2.2.1 from by rw [show (0 : Int32) = nI 0 from rfl, nI_or, Nat.or_zero]]
    refine am_c0 (ct_layL h6 hn (by have := w.1; omega)) ?_
    conv => whnf
    rw [nI_1]
    exact ih
set_option maxRecDepth 100000 in
theorem ct_copy {n c W : Nat} {l l0 : List bk_X} (h6 : M.1 108 6 = nI n) (hn : n < 20) (hc : c < n) (hl : opsL M c W l) : am_M (d + 2) false nm_X12_copy [aR 108, aI (nI c), aI 0, aI 0] (llM M n l0) (am_q0 (llM M n (l0 ++ l))) := by
  refine ⟨rfl, rfl, rfl, fun X hX => am_run hX 2 _ _ _ _ ?_⟩
  conv => whnf
  have k := cp_l (l0 := l0) hX h6 hn hc hl (fun l4 l5 => by
    refine am_run hX 1 _ _ _ _ ?_
    conv => whnf
    exact ⟨trivial, rfl, rfl⟩) l.length 0 none (by omega)
  rw [List.take_zero, List.append_nil] at k
  exact k
theorem hcN_c (F : Nat → Int32) : ∀ k, hcN F (k + 1) = (if F 0 &&& 15 = 3 then 1 else 0) + hcN (fun j => F (j + 1)) k
  | 0 => by
    show 0 + (if F 0 &&& 15 = 3 then 1 else 0) = (if F 0 &&& 15 = 3 then 1 else 0) + 0
    rw [Nat.zero_add, Nat.add_zero]
  | k + 1 => by
    show hcN F (k + 1) + (if F (k + 1) &&& 15 = 3 then 1 else 0) = _ + (hcN (fun j => F (j + 1)) k + (if F (k + 1) &&& 15 = 3 then 1 else 0))
    rw [hcN_c F k]; omega
theorem hcN_e {F G : Nat → Int32} : ∀ k, (∀ j, j < k → F j = G j) → hcN F k = hcN G k
  | 0, _ => rfl
  | k + 1, h => by
    show hcN F k + _ = hcN G k + _
    rw [hcN_e k (fun j hj => h j (by omega)), h k (by omega)]
theorem hcN_l {W : Nat} (hW : W ≤ 8) : ∀ (l : List bk_X), (∀ j, j < l.length → bk_w W (zg l j)) → hcN (fun j => nI (bk_p (zg l j))) l.length = hcl l
  | [], _ => rfl
  | x :: l, h => by
    have h0 : bk_w W x := h 0 (by simp)
    have i := hcN_l hW l (fun j hj => h (j + 1) (by simp; omega))
    rw [show (x :: l).length = l.length + 1 from rfl, hcN_c]
    show (if nI (bk_p x) &&& 15 = 3 then 1 else 0) + hcN (fun j => nI (bk_p (zg l j))) l.length = (if x.1 = 3 then 1 else 0) + hcl l
    rw [i, bk_k hW h0]
    have k3 : nI x.1 = 3 ↔ x.1 = 3 := nI_eq (b := 3) (by have := h0.1; omega) (by decide)
    by_cases x3 : x.1 = 3
    · rw [if_pos x3, if_pos (k3.mpr x3)]
    · rw [if_neg x3, if_neg (fun z => x3 (k3.mp z))]
/-- a list of OPS that can be kept -/
def okL (l : List bk_X) : Prop := l.length ≤ 300 ∧ hcl l ≤ 60
theorem ct_keep1 {n W V : Nat} {l : List bk_X} (h7 : M.1 9 7 = nI n) (hn : n < 20) (hV : V ≤ 8) (hw : ∀ j, j < l.length → bk_w V (zg l j)) (ok : okL l) : am_M (d + 3) false nm_X0_keep [aR 9, aI (nI W)] (dlM M l) (am_q1 (aI (nI n)) (kpM (dlM M l) n l.length W)) := by
  refine ct_keep (by rw [dl_9]; exact h7) (by rw [dl_9]; rfl) hn ok.1 ?_
  rw [dl_13, Nat.min_eq_left ok.1, hcN_e (F := dwR (M.1 13) (fun j => nI (bk_p (zg l j))) l.length) (G := fun j => nI (bk_p (zg l j))) l.length (fun j hj => if_pos hj), hcN_l hV l hw]
  exact ok.2
set_option maxRecDepth 100000 in
theorem ct_keep0 {n W V : Nat} {l : List bk_X} (h7 : M.1 9 7 = nI n) (hn : n ≤ 20) (hV : V ≤ 8) (hw : ∀ j, j < l.length → bk_w V (zg l j)) (hl : l.length < 2 ^ 30) (no : ¬ okL l ∨ n = 20) : am_M (d + 3) false nm_X0_keep [aR 9, aI (nI W)] (dlM M l) (am_q1 (aI (-1)) (dlM M l)) := by
  have e7 : (dlM M l).1 9 7 = nI n := by rw [dl_9]; exact h7
  have e8 : (dlM M l).1 9 8 = nI l.length := by rw [dl_9]; rfl
  refine ⟨rfl, rfl, rfl, fun X hX => am_run hX 100 _ _ _ _ ?_⟩
  conv => whnf
  rw [e7]
  by_cases c : n = 20
  · rw [c]
    refine ⟨fun _ => ?_, fun q => absurd (by decide) q⟩
    conv => whnf
    exact ⟨trivial, rfl, rfl⟩
  · have no := no.resolve_right c
    refine ⟨fun q => absurd q (nI_ge (b := 20) (by omega) (by decide)), fun _ => ?_⟩
    conv => whnf
    rw [e8]
    by_cases c3 : l.length ≤ 300
    · refine ⟨fun q => absurd q (nI_nlt (a := 300) c3 (by decide)), fun _ => ?_⟩
      conv => whnf
      rw [e8]
      refine am_c1 (ct_hsD c3) ?_
      conv => whnf
      have e : hcN ((dlM M l).1 13) l.length = hcl l := by
        rw [dl_13, Nat.min_eq_left c3, hcN_e (F := dwR (M.1 13) (fun j => nI (bk_p (zg l j))) l.length) (G := fun j => nI (bk_p (zg l j))) l.length (fun j hj => if_pos hj), hcN_l hV l hw]
      have e2 := hc_le ((dlM M l).1 13) l.length
      have h60 : ¬ hcl l ≤ 60 := fun z => no ⟨c3, z⟩
      refine ⟨fun q => absurd q (nI_ge (a := 60) (by omega) (by omega)), fun _ => ?_⟩
      conv => whnf
      exact ⟨trivial, rfl, rfl⟩
    · refine ⟨fun _ => ?_, fun q => absurd (nI_lt (a := 300) (by omega) (by omega)) q⟩
      conv => whnf
      exact ⟨trivial, rfl, rfl⟩
end CPY
