/-! derive: the OPS that come of it -/
theorem zg_all {P : bk_X → Prop} {l : List bk_X} : (∀ j, j < l.length → P (zg l j)) ↔ ∀ x ∈ l, P x := by
  refine ⟨fun h x hx => ?_, fun h j hj => h _ (zg_mem hj)⟩
  obtain ⟨j, hj, e⟩ := List.getElem_of_mem hx
  have h2 := h j hj
  unfold zg at h2
  rw [List.getD_eq_getElem?_getD, List.getElem?_eq_getElem hj] at h2
  have h2 : P l[j] := h2
  rw [e] at h2
  exact h2
theorem ik_8 : ∀ k, k ≤ 10 → ikN k = 8 → k = 8 := by decide
theorem og_iv {W : Nat} {x : bk_X} (h : ogd W x) : ogd W (ivX x) := ⟨w_iv h.1, h.2.1, fun q => h.2.2 (ik_8 _ h.1.1 q)⟩
theorem og_ad {W : Nat} {x : bk_X} (h : ogd W x) : ogd (W + 1) (adX W x) := by
  have hw := h.1.2.1
  refine ⟨w_ad h.1, ?_, fun q => ?_⟩
  · show (x.2.2.2.1 + 2 ^ W).testBit x.2.1 = false
    rw [Nat.add_comm, Nat.testBit_two_pow_add_gt hw]
    exact h.2.1
  · obtain ⟨a, b, c⟩ := h.2.2 q
    refine ⟨Nat.lt_succ_of_lt a, b, ?_⟩
    show (x.2.2.2.1 + 2 ^ W).testBit x.2.2.1 = false
    rw [Nat.add_comm, Nat.testBit_two_pow_add_gt a]
    exact c
theorem og_o1 {W k w : Nat} (hk : k ≤ 7) (hw : w < W) : ogd W (o1 k w) := ⟨⟨by show k ≤ 10; omega, hw, (by decide : 0 < 8), Nat.two_pow_pos W, (by decide : 0 < 16), (by decide : 0 < 16)⟩, Nat.zero_testBit _, fun q => by
  have q : k = 8 := q
  omega⟩
theorem og_eis {W e w : Nat} (hw : w < W) : ∀ x ∈ eis e w, ogd W x := by
  have n0 : ∀ x ∈ ([] : List bk_X), ogd W x := fun x h => absurd h List.not_mem_nil
  unfold eis
  split
  · exact n0
  · exact List.forall_mem_cons.mpr ⟨og_o1 (by decide) hw, n0⟩
  · exact List.forall_mem_cons.mpr ⟨og_o1 (by decide) hw, n0⟩
  · exact List.forall_mem_cons.mpr ⟨og_o1 (by decide) hw, List.forall_mem_cons.mpr ⟨og_o1 (by decide) hw, n0⟩⟩
  · exact List.forall_mem_cons.mpr ⟨og_o1 (by decide) hw, n0⟩
  · exact List.forall_mem_cons.mpr ⟨og_o1 (by decide) hw, List.forall_mem_cons.mpr ⟨og_o1 (by decide) hw, n0⟩⟩
  · exact List.forall_mem_cons.mpr ⟨og_o1 (by decide) hw, n0⟩
  · exact List.forall_mem_cons.mpr ⟨og_o1 (by decide) hw, n0⟩
theorem og_mg {W S : Nat} {z : Nat → bk_X} (h : ∀ j, j < S → ogd W (z j)) : ∀ k, k ≤ S → ∀ x ∈ mgL z S k, ogd W x
  | 0, _ => fun x hx => absurd hx List.not_mem_nil
  | k + 1, hk => by
    intro x hx
    have ih := og_mg h k (by omega)
    have hx : x ∈ mgL z S k ++ (if phB (z k) = true then (if seS z (pyK z k) k = true then [] else eis (mgT z S k) (z k).2.1) else [z k]) := hx
    rcases List.mem_append.mp hx with q | q
    · exact ih x q
    · have hz := h k (by omega)
      split at q
      · split at q
        · exact absurd q List.not_mem_nil
        · exact og_eis hz.1.2.1 x q
      · have := List.mem_singleton.mp q
        rw [this]
        exact hz
theorem og_cn {W : Nat} : ∀ (m : Nat) (l : List bk_X), allO W l → allO W (cnN m l)
  | 0, l, h => h
  | m + 1, l, h => by
    have ec : cnN (m + 1) l = match cnO l with
      | some k => cnN m k
      | none => l := rfl
    cases hk : cnO l with
    | none => rw [ec, hk]; exact h
    | some k =>
      rw [ec, hk]
      refine og_cn m k ?_
      unfold cnO at hk
      cases hi : cnI l l.length 0 with
      | none => rw [hi] at hk; cases hk
      | some p =>
        obtain ⟨a, b⟩ := p
        rw [hi] at hk
        cases hk
        obtain ⟨h1, h2, h3⟩ := cnI_s (by omega) hi
        exact cnS_o h h1 h2 h3
/-- WIRES and OPS that derive asks for, and when it can -/
def dvW (F : Nat → Nat × List bk_X) (how : Int32) (c : Nat) : Nat := (F c).1 + (if how = 2 then 1 else 0)
def dvL (sh : List bk_X → List bk_X) (F : Nat → Nat × List bk_X) (how : Int32) (c c' : Nat) : List bk_X :=
  if how = 0 then (((F c).2.map ivX).reverse) else if how = 1 then (F c).2 ++ (F c').2 else if how = 2 then (F c).2.map (adX (F c).1) else if how = 3 then (F c').2 ++ (F c).2 ++ ((F c').2.map ivX).reverse else if how = 4 then mgL (zg (F c).2) (F c).2.length (F c).2.length else if how = 5 then cnN 300 (F c).2 else sh (F c).2
def dvK (F : Nat → Nat × List bk_X) (how : Int32) (c : Nat) : Prop := (how = 2 → (F c).1 ≤ 7) ∧ (how = 4 → mgA (F c).2) ∧ (how = 6 → (F c).1 = 2 ∧ plA (F c).2)
/-- what is asked, circuit by circuit -/
def vaC (n : Nat) (F : Nat → Nat × List bk_X) (how p q : Int32) (c c' : Nat) : Prop := ¬ how < 0 ∧ ¬ 6 < how ∧ c < n ∧ p = nI c ∧ ((how = 1 ∨ how = 3) → c' < n ∧ q = nI c' ∧ (F c).1 = (F c').1 ∧ (how = 3 → purL (F c').2)) ∧ (how ≠ 1 → purL (F c).2)
theorem va_C {n : Nat} {F : Nat → Nat × List bk_X} {how p q : Int32} (h : vaD n F how p q) : ∃ c c', vaC n F how p q c c' := by
  obtain ⟨h1, h2, c, h3, h4, h5, h6⟩ := h
  by_cases t : how = 1 ∨ how = 3
  · obtain ⟨c', a⟩ := h5 t
    exact ⟨c, c', h1, h2, h3, h4, fun _ => a, h6⟩
  · exact ⟨c, 0, h1, h2, h3, h4, fun z => absurd z t, h6⟩
theorem C_va {n : Nat} {F : Nat → Nat × List bk_X} {how p q : Int32} {c c' : Nat} (h : vaC n F how p q c c') : vaD n F how p q := ⟨h.1, h.2.1, c, h.2.2.1, h.2.2.2.1, fun t => ⟨c', h.2.2.2.2.1 t⟩, h.2.2.2.2.2⟩
theorem hw_7 {how : Int32} (h0 : ¬ how < 0) (h6 : ¬ 6 < how) : how = 0 ∨ how = 1 ∨ how = 2 ∨ how = 3 ∨ how = 4 ∨ how = 5 ∨ how = 6 := by
  rcases bk_no (p := how) (n := 7) (by decide) with (h | h) | ⟨c, hc, rfl⟩
  · exact absurd h h0
  · exact absurd (Int32.lt_of_lt_of_le (show (6 : Int32) < nI 7 by decide) h) h6
  · rcases (by omega : c = 0 ∨ c = 1 ∨ c = 2 ∨ c = 3 ∨ c = 4 ∨ c = 5 ∨ c = 6) with rfl | rfl | rfl | rfl | rfl | rfl | rfl
    all_goals decide
section DVI
variable {sh : List bk_X → List bk_X} {F : Nat → Nat × List bk_X} {c c' : Nat}
theorem dvL_0 : dvL sh F 0 c c' = (((F c).2.map ivX).reverse) := if_pos rfl
theorem dvL_1 : dvL sh F 1 c c' = (F c).2 ++ (F c').2 := by
  unfold dvL
  rw [if_neg (by decide), if_pos rfl]
theorem dvL_2 : dvL sh F 2 c c' = (F c).2.map (adX (F c).1) := by
  unfold dvL
  rw [if_neg (by decide), if_neg (by decide), if_pos rfl]
theorem dvL_3 : dvL sh F 3 c c' = (F c').2 ++ (F c).2 ++ ((F c').2.map ivX).reverse := by
  unfold dvL
  rw [if_neg (by decide), if_neg (by decide), if_neg (by decide), if_pos rfl]
theorem dvL_4 : dvL sh F 4 c c' = mgL (zg (F c).2) (F c).2.length (F c).2.length := by
  unfold dvL
  rw [if_neg (by decide), if_neg (by decide), if_neg (by decide), if_neg (by decide), if_pos rfl]
theorem dvL_5 : dvL sh F 5 c c' = cnN 300 (F c).2 := by
  unfold dvL
  rw [if_neg (by decide), if_neg (by decide), if_neg (by decide), if_neg (by decide), if_neg (by decide), if_pos rfl]
theorem dvL_6 : dvL sh F 6 c c' = sh (F c).2 := by
  unfold dvL
  rw [if_neg (by decide), if_neg (by decide), if_neg (by decide), if_neg (by decide), if_neg (by decide), if_neg (by decide)]
/-- SHORTEST gives OPS of two WIRES -/
def shL (sh : List bk_X → List bk_X) : Prop := ∀ l, allO 2 l → plA l → (sh l).length ≤ 300 ∧ ∀ x ∈ sh l, ogd 2 x
theorem og_dv {M : mm_M} {n : Nat} {how p q : Int32} (hB : bkX M n F) (hS : shL sh) (hv : vaC n F how p q c c') (hK : dvK F how c) : (1 ≤ dvW F how c ∧ dvW F how c ≤ 8) ∧ (dvL sh F how c c').length ≤ 1000 ∧ ∀ x ∈ dvL sh F how c c', ogd (dvW F how c) x := by
  obtain ⟨h0, h6, hc, _, h2, hp⟩ := hv
  obtain ⟨w1, w8, _, _, hl, ok, hg⟩ := hB.2.2.2 c hc
  have hg := zg_all.mp hg
  have hl3 := hl.2.2.1
  rcases hw_7 h0 h6 with rfl | rfl | rfl | rfl | rfl | rfl | rfl
  · have e : dvW F 0 c = (F c).1 := by unfold dvW; rw [if_neg (by decide), Nat.add_zero]
    rw [e, dvL_0, List.length_reverse, List.length_map]
    refine ⟨⟨w1, w8⟩, by omega, fun x hx => ?_⟩
    rw [List.mem_reverse] at hx
    obtain ⟨y, hy, rfl⟩ := List.mem_map.mp hx
    exact og_iv (hg y hy)
  · have e : dvW F 1 c = (F c).1 := by unfold dvW; rw [if_neg (by decide), Nat.add_zero]
    obtain ⟨hc', _, ew, _⟩ := h2 (Or.inl rfl)
    obtain ⟨_, _, _, _, hl', _, hg'⟩ := hB.2.2.2 c' hc'
    have hg' := zg_all.mp hg'
    have hl3' := hl'.2.2.1
    rw [e, dvL_1, List.length_append]
    refine ⟨⟨w1, w8⟩, by omega, fun x hx => ?_⟩
    rcases List.mem_append.mp hx with z | z
    · exact hg x z
    · rw [ew]
      exact hg' x z
  · have w7 := hK.1 rfl
    have e : dvW F 2 c = (F c).1 + 1 := by unfold dvW; rw [if_pos rfl]
    rw [e, dvL_2, List.length_map]
    refine ⟨⟨by omega, by omega⟩, by omega, fun x hx => ?_⟩
    obtain ⟨y, hy, rfl⟩ := List.mem_map.mp hx
    exact og_ad (hg y hy)
  · have e : dvW F 3 c = (F c).1 := by unfold dvW; rw [if_neg (by decide), Nat.add_zero]
    obtain ⟨hc', _, ew, _⟩ := h2 (Or.inr rfl)
    obtain ⟨_, _, _, _, hl', _, hg'⟩ := hB.2.2.2 c' hc'
    have hg' := zg_all.mp hg'
    have hl3' := hl'.2.2.1
    rw [e, dvL_3, List.length_append, List.length_append, List.length_reverse, List.length_map]
    refine ⟨⟨w1, w8⟩, by omega, fun x hx => ?_⟩
    rcases List.mem_append.mp hx with z | z
    · rcases List.mem_append.mp z with z | z
      · rw [ew]
        exact hg' x z
      · exact hg x z
    · rw [List.mem_reverse] at z
      obtain ⟨y, hy, rfl⟩ := List.mem_map.mp z
      rw [ew]
      exact og_iv (hg' y hy)
  · have e : dvW F 4 c = (F c).1 := by unfold dvW; rw [if_neg (by decide), Nat.add_zero]
    have := mgL_l (zg (F c).2) (F c).2.length (F c).2.length
    rw [e, dvL_4]
    exact ⟨⟨w1, w8⟩, by omega, og_mg (zg_all.mpr hg) _ (Nat.le_refl _)⟩
  · have e : dvW F 5 c = (F c).1 := by unfold dvW; rw [if_neg (by decide), Nat.add_zero]
    have hh := (cnN_h 300 (F c).2).2
    have hpu := hp (by decide)
    have ho := og_cn (W := (F c).1) 300 (F c).2 (fun j hj => ⟨zg_all.mpr hg j hj, hpu j hj⟩)
    rw [e, dvL_5]
    exact ⟨⟨w1, w8⟩, by omega, zg_all.mp (fun j hj => (ho j hj).1)⟩
  · have e : dvW F 6 c = (F c).1 := by unfold dvW; rw [if_neg (by decide), Nat.add_zero]
    obtain ⟨e2, hpl⟩ := hK.2.2 rfl
    have hpu := hp (by decide)
    rw [e, dvL_6, e2]
    have ho : allO 2 (F c).2 := fun j hj => ⟨by have := zg_all.mpr hg j hj; rw [e2] at this; exact this, hpu j hj⟩
    obtain ⟨a, b⟩ := hS (F c).2 ho hpl
    exact ⟨⟨by decide, by decide⟩, by omega, b⟩
end DVI
