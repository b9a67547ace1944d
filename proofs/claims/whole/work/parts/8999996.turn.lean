/-! TURN: both programs, the pair -/
theorem zg_mem {l : List bk_X} {j : Nat} (h : j < l.length) : zg l j ∈ l := by
  unfold zg
  rw [List.getD_eq_getElem?_getD, List.getElem?_eq_getElem h]
  exact List.getElem_mem h
theorem bt_0 {S W j : Nat} (h : S < 2 ^ W) (hj : W ≤ j) : bt S j = 0 := by
  unfold bt
  rw [Nat.div_eq_of_lt (Nat.lt_of_lt_of_le h (Nat.pow_le_pow_right (by decide) hj))]
theorem bt_w {S W j : Nat} (h : S < 2 ^ W) (hj : bt S j ≠ 0) : j < W := Nat.lt_of_not_le fun c => hj (bt_0 h c)
theorem w_o1 {W k w : Nat} (hk : k ≤ 10) (hw : w < W) : bk_w W (o1 k w) := ⟨hk, hw, by show 0 < 8; decide, Nat.pow_pos (by decide), by show 0 < 16; decide, by show 0 < 16; decide⟩
theorem w_oX {W w b : Nat} (hw : w < W) (hb : b < W) : bk_w W (oX w b) := ⟨by show 0 ≤ 10; decide, hw, by show 0 < 8; decide, Nat.pow_lt_pow_right (by decide) hb, by show 0 < 16; decide, by show 0 < 16; decide⟩
theorem w_b1 {X Z W : Nat} (hX : X < 2 ^ W) : ∀ i x, x ∈ bs1 X Z i → bk_w W x
  | 0, x, h => absurd h (by simp [bs1])
  | i + 1, x, h => by
    have h : x ∈ bs1 X Z i ++ (if bt X i = 0 then [] else if bt Z i = 0 then [o1 3 i] else [o1 6 i, o1 3 i]) := h
    rcases List.mem_append.mp h with h | h
    · exact w_b1 hX i x h
    · by_cases c : bt X i = 0
      · rw [if_pos c] at h; exact absurd h (by simp)
      · have iw := bt_w hX c
        rw [if_neg c] at h
        by_cases z : bt Z i = 0
        · rw [if_pos z] at h
          simp at h
          rw [h]; exact w_o1 (by decide) iw
        · rw [if_neg z] at h
          simp at h
          rcases h with h | h <;> (rw [h]; exact w_o1 (by decide) iw)
theorem w_b2 {X Z W : Nat} (hX : X < 2 ^ W) : ∀ i x, x ∈ bs2 X Z i → bk_w W x
  | 0, x, h => absurd h (by simp [bs2])
  | i + 1, x, h => by
    have h : x ∈ bs2 X Z i ++ (if bt X i = 0 then [] else if bt Z i = 0 then [o1 3 i] else [o1 3 i, o1 4 i]) := h
    rcases List.mem_append.mp h with h | h
    · exact w_b2 hX i x h
    · by_cases c : bt X i = 0
      · rw [if_pos c] at h; exact absurd h (by simp)
      · have iw := bt_w hX c
        rw [if_neg c] at h
        by_cases z : bt Z i = 0
        · rw [if_pos z] at h
          simp at h
          rw [h]; exact w_o1 (by decide) iw
        · rw [if_neg z] at h
          simp at h
          rcases h with h | h <;> (rw [h]; exact w_o1 (by decide) iw)
theorem ups_b (S : Nat) : ∀ i, (ups S i).2 ≤ i
  | 0 => Nat.le_refl _
  | i + 1 => by
    have := ups_b S i
    show (if bt S i = 0 then ups S i else _).2 ≤ _
    by_cases q : bt S i = 0
    · rw [if_pos q]; omega
    · rw [if_neg q]; exact Nat.le_refl _
theorem w_up {S W : Nat} (hS : S < 2 ^ W) : ∀ i x, x ∈ (ups S i).1 → bk_w W x
  | 0, x, h => absurd h (by simp [ups])
  | i + 1, x, h => by
    have h : x ∈ (if bt S i = 0 then ups S i else (if (ups S i).2 = 0 then (ups S i).1 else (ups S i).1 ++ [oX i ((ups S i).2 - 1)], i + 1)).1 := h
    have ub := ups_b S i
    by_cases c : bt S i = 0
    · rw [if_pos c] at h; exact w_up hS i x h
    · have iw := bt_w hS c
      rw [if_neg c] at h
      have h : x ∈ (if (ups S i).2 = 0 then (ups S i).1 else (ups S i).1 ++ [oX i ((ups S i).2 - 1)]) := h
      by_cases z : (ups S i).2 = 0
      · rw [if_pos z] at h; exact w_up hS i x h
      · rw [if_neg z] at h
        rcases List.mem_append.mp h with h | h
        · exact w_up hS i x h
        · simp at h
          rw [h]; exact w_oX iw (by omega)
theorem w_dn {S W : Nat} (hS : S < 2 ^ W) : ∀ i q x, q < W → x ∈ dns S i q → bk_w W x
  | 0, q, x, _, h => absurd h (by simp [dns])
  | i + 1, q, x, hq, h => by
    have h : x ∈ (if bt S i = 0 then dns S i q else oX q i :: dns S i i) := h
    by_cases c : bt S i = 0
    · rw [if_pos c] at h; exact w_dn hS i q x hq h
    · have iw := bt_w hS c
      rw [if_neg c] at h
      rcases List.mem_cons.mp h with h | h
      · rw [h]; exact w_oX hq iw
      · exact w_dn hS i i x iw h
theorem w_ei {W e w : Nat} (hw : w < W) (x : bk_X) (h : x ∈ eis e w) : bk_w W x := by
  unfold eis at h
  split at h <;> simp at h
  all_goals first | (rw [h]; exact w_o1 (by decide) hw) | (rcases h with h | h <;> (rw [h]; exact w_o1 (by decide) hw))
theorem or_w {X Z W : Nat} (hX : X < 2 ^ W) (hZ : Z < 2 ^ W) : X ||| Z < 2 ^ W := Nat.or_lt_two_pow hX hZ
theorem ups_W {X Z W : Nat} (w8 : W ≤ 8) (hX : X < 2 ^ W) (hZ : Z < 2 ^ W) : ups (X ||| Z) 8 = ups (X ||| Z) W := by
  have := ups_t (S := X ||| Z) W (8 - W) (fun j h1 _ => bt_0 (or_w hX hZ) h1)
  rw [show W + (8 - W) = 8 by omega] at this
  exact this
theorem w_tr {X Z W e : Nat} (w8 : W ≤ 8) (hX : X < 2 ^ W) (hZ : Z < 2 ^ W) (s0 : X ||| Z ≠ 0) : ∀ x, x ∈ trL X Z e → bk_w W x := by
  intro x h
  have hS := or_w hX hZ
  have s8 : X ||| Z < 256 := Nat.lt_of_lt_of_le hS (show 2 ^ W ≤ 2 ^ 8 from Nat.pow_le_pow_right (by decide) w8)
  have ⟨l8, l1, _⟩ := lw_p _ s8 s0
  have u := (ups_l l1 l8).1
  have ub : (ups (X ||| Z) 8).2 ≤ W := by rw [ups_W w8 hX hZ]; exact ups_b _ W
  unfold trL at h
  rcases List.mem_append.mp h with h | h
  · exact w_b1 hX 8 x h
  · rcases List.mem_append.mp h with h | h
    · exact w_up hS 8 x h
    · rcases List.mem_append.mp h with h | h
      · exact w_ei (by omega) x h
      · rcases List.mem_append.mp h with h | h
        · exact w_dn hS _ _ x (by omega) h
        · exact w_b2 hX 8 x h
theorem w_all {M : mm_M} {c W : Nat} {l : List bk_X} (h : opsL M c W l) {k : List bk_X} (hk : ∀ x, x ∈ k → bk_w W x) : ∀ j, j < (l ++ k).length → bk_w W (zg (l ++ k) j) := by
  intro j hj
  have m := zg_mem hj
  rcases List.mem_append.mp m with m | m
  · obtain ⟨i, hi, e⟩ := List.getElem_of_mem m
    have : zg l i = zg (l ++ k) j := by
      rw [← e]
      unfold zg
      rw [List.getD_eq_getElem?_getD, List.getElem?_eq_getElem hi]
      rfl
    rw [← this]
    exact (h.2.2.2 i hi).1
  · exact hk _ m
section TRQ
variable {d : Nat} {M : mm_M} {n c W X Z e : Nat} {l : List bk_X}
set_option maxRecDepth 100000 in
theorem tn_m1 (h6 : M.1 108 6 = nI n) (hn : n < 20) (hc : c < n) (hW : M.1 110 c = nI W) (w1 : 1 ≤ W) (w8 : W ≤ 8) (hl : opsL M c W l) (hX : X < 2 ^ W) (hZ : Z < 2 ^ W) (s0 : X ||| Z ≠ 0) (he : e < 8) : am_M (d + 3) false nm_X12_turn [aR 108, aI (nI c), aI (nI X), aI (nI Z), aI (nI e)] M (fun r M' => (okL (l ++ trL X Z e) ∧ r = .inl (some (aI (nI n))) ∧ M' = stM (llM (th0 M) n (l ++ trL X Z e)) n W) ∨ (¬ okL (l ++ trL X Z e) ∧ r = .inl (some (aI (-1))) ∧ M' = llM (th0 M) n (l ++ trL X Z e))) := by
  have p8 : 2 ^ W ≤ 2 ^ 8 := Nat.pow_le_pow_right (by decide) w8
  have x8 : X < 256 := Nat.lt_of_lt_of_le hX p8
  have z8 : Z < 256 := Nat.lt_of_lt_of_le hZ p8
  have s8 : X ||| Z < 256 := Nat.lt_of_lt_of_le (or_w hX hZ) p8
  have ⟨l8, l1, _⟩ := lw_p _ s8 s0
  have ⟨u1, u2⟩ := ups_l l1 l8
  have uw := ups_W w8 hX hZ
  have t6 : (th0 M).1 108 6 = nI n := by
    unfold th0
    rw [mm_i1, up_ne (by decide)]; exact h6
  have tW : (th0 M).1 110 c = nI W := hW
  have tl : opsL (th0 M) c W l := hl
  refine ⟨rfl, rfl, rfl, fun Y hY => am_run hY 37 _ _ _ _ ?_⟩
  conv => whnf
  refine am_c1 (bk_isc (M := th0 M) (nI c)) ?_
  rw [t6, if_neg (bk_yes (by omega) hc)]
  conv => whnf
  refine ⟨fun q => absurd q (by decide), fun _ => ?_⟩
  conv => whnf
  rw [t6]
  refine ⟨fun q => absurd ((nI_eq (b := 20) (by omega) (by decide)).mp q) (by omega), fun _ => ?_⟩
  conv => whnf
  refine ⟨fun q => absurd q (nI_pos (by omega)), fun _ => ?_⟩
  conv => whnf
  refine ⟨fun _ => ?_, fun q => absurd (nI_le (b := 7) (by omega) (by decide)) q⟩
  conv => whnf
  refine ⟨vp_in_nI (by show c < 21; omega) (by decide), ?_⟩
  conv => whnf
  rw [nI_clamp (n := c) (by omega), tW, sh2 _ (by omega)]
  refine ⟨fun q => absurd q (nI_pos (by omega)), fun _ => ?_⟩
  conv => whnf
  refine ⟨fun q => absurd q (nI_ge hX (by omega)), fun _ => ?_⟩
  conv => whnf
  refine ⟨fun q => absurd q (nI_pos (by omega)), fun _ => ?_⟩
  conv => whnf
  refine ⟨fun q => absurd q (nI_ge hZ (by omega)), fun _ => ?_⟩
  conv => whnf
  rw [nI_or]
  refine ⟨fun _ => ?_, fun q => absurd ((nI_eq (b := 0) (by omega) (by decide)).mp (Decidable.byContradiction q)) s0⟩
  refine am_run hY 16 _ _ _ _ ?_
  conv => whnf
  refine am_c0 (ct_stLL (n := n)) ?_
  conv => whnf
  refine am_c0 (ct_copy (l0 := []) t6 hn hc tl) ?_
  rw [List.nil_append]
  conv => whnf
  refine am_c0 (ct_lb0 t6 hn x8 z8) ?_
  conv => whnf
  have ku := tm_up (M := th0 M) (l0 := l ++ bs1 X Z 8) (e := e) (a5 := nI (2 ^ W)) hY t6 hn hc tW w8 s8 (fun l7 l8' => ?_) W 0 none (by omega)
  · rw [show (ups (X ||| Z) 0).1 = [] from rfl, List.append_nil, show (nI (ups (X ||| Z) 0).2 - 1 : Int32) = -1 from by show nI 0 - 1 = -1; decide] at ku
    exact ku
  rw [← uw, nI_s1 _ (by omega)]
  refine am_run hY 10 _ _ _ _ ?_
  conv => whnf
  refine am_c0 (ct_le t6 hn he) ?_
  conv => whnf
  refine tm_dn (M := th0 M) (c := c) (e := e) (a5 := nI (2 ^ W)) hY t6 hn s8 ((ups (X ||| Z) 8).2 - 1) ((ups (X ||| Z) 8).2 - 1) _ _ (by omega) rfl (fun l7 l8' => ?_)
  refine am_run hY 30 _ _ _ _ ?_
  conv => whnf
  refine am_c0 (ct_lb1 t6 hn x8 z8) ?_
  rw [show l ++ bs1 X Z 8 ++ (ups (X ||| Z) 8).1 ++ eis e ((ups (X ||| Z) 8).2 - 1) ++ dns (X ||| Z) ((ups (X ||| Z) 8).2 - 1) ((ups (X ||| Z) 8).2 - 1) ++ bs2 X Z 8 = l ++ trL X Z e from by
    unfold trL
    simp only [List.append_assoc]]
  conv => whnf
  generalize l ++ trL X Z e = L
  have p := ly3_p L
  obtain ⟨q1, q2, q3, q4, q5, q6⟩ := p
  rw [show (llM (th0 M) n L).1 108 38 = nI (ly3 L).2.2 from by rw [ll_108]; rfl]
  by_cases ok : okL L
  · rw [q5.mpr ok]
    refine ⟨fun _ => ?_, fun q => absurd rfl q⟩
    conv => whnf
    refine ⟨vp_in_nI (by show c < 21; omega) (by decide), ?_⟩
    conv => whnf
    rw [nI_clamp (n := c) (by omega), ll_r _ _ _ (by decide) (by decide), tW]
    refine am_c1 (ct_set (n := n) (by rw [ll_108]; exact t6) hn) ?_
    conv => whnf
    exact ⟨trivial, .inl ⟨ok, rfl, rfl⟩⟩
  · have t1 : (ly3 L).2.2 = 1 := by
      have : (ly3 L).2.2 ≠ 0 := fun z => ok (q5.mp z)
      omega
    rw [t1]
    refine ⟨fun q => absurd q (by decide), fun _ => ?_⟩
    conv => whnf
    exact ⟨trivial, .inr ⟨ok, rfl, rfl⟩⟩
end TRQ
