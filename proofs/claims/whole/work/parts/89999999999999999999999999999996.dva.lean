/-! derive: the bank's circuits, and the class's draft -/
/-- the bank: n circuits, WIRES and OPS of each -/
def bkX (N : mm_M) (n : Nat) (F : Nat → Nat × List bk_X) : Prop := n ≤ 20 ∧ N.1 9 7 = nI n ∧ N.1 108 6 = nI n ∧ ∀ c, c < n → 1 ≤ (F c).1 ∧ (F c).1 ≤ 8 ∧ N.1 12 c = nI (F c).1 ∧ N.1 110 c = nI (F c).1 ∧ opsL N c (F c).1 (F c).2 ∧ okL (F c).2 ∧ ∀ j, j < (F c).2.length → ogd (F c).1 (zg (F c).2 j)
theorem bkX_c {N : mm_M} {n c : Nat} {F : Nat → Nat × List bk_X} (h : bkX N n F) (hc : c < n) : bk_c N c (F c).1 (F c).2.length := by
  obtain ⟨_, _, _, h4⟩ := h
  obtain ⟨a1, a2, a3, a4, ⟨b1, b2, b3, b4⟩, _, _⟩ := h4 c hc
  exact ⟨a1, a2, b3, a3, a4, b1, b2, fun j hj => ⟨zg (F c).2 j, (b4 j hj).1, (b4 j hj).2⟩⟩
theorem bkX_i {N : mm_M} {n : Nat} {F : Nat → Nat × List bk_X} (h : bkX N n F) : bk_iv N n := ⟨h.1, h.2.1, h.2.2.1, fun _ hi => ⟨_, _, bkX_c h hi⟩⟩
theorem hcl_a (l : List bk_X) (x : bk_X) : hcl (l ++ [x]) = hcl l + (if x.1 = 3 then 1 else 0) := by
  unfold hcl
  rw [List.foldr_append]
  have : ∀ (l : List bk_X) (s : Nat), l.foldr (fun x s => (if x.1 = 3 then 1 else 0) + s) s = l.foldr (fun x s => (if x.1 = 3 then 1 else 0) + s) 0 + s := by
    intro l
    induction l with
    | nil => intro s; exact (Nat.zero_add s).symm
    | cons y l ih =>
      intro s
      show (if y.1 = 3 then 1 else 0) + l.foldr _ s = (if y.1 = 3 then 1 else 0) + l.foldr _ 0 + s
      rw [ih s]
      omega
  rw [this]
  rfl
theorem zg_tk {l : List bk_X} {k : Nat} (hk : k < l.length) : l.take (k + 1) = l.take k ++ [zg l k] := by
  rw [List.take_succ, List.getElem?_eq_getElem hk]
  unfold zg
  rw [List.getD_eq_getElem?_getD, List.getElem?_eq_getElem hk]
  rfl
theorem hcl_n (l : List bk_X) : hcn (zg l) l.length = hcl l := by
  have key : ∀ k, k ≤ l.length → hcn (zg l) k = hcl (l.take k) := by
    intro k
    induction k with
    | zero => intro _; rfl
    | succ k ih =>
      intro hk
      have e1 : hcn (zg l) (k + 1) = hcn (zg l) k + (if (zg l k).1 = 3 then 1 else 0) := rfl
      rw [e1, zg_tk (by omega), hcl_a, ih (by omega)]
  have := key l.length (Nat.le_refl _)
  rw [List.take_length] at this
  exact this
theorem bkX_cir {N : mm_M} {n c : Nat} {F : Nat → Nat × List bk_X} (h : bkX N n F) (hc : c < n) : cir N n c (F c).1 (F c).2.length (zg (F c).2) := by
  obtain ⟨a1, a2, a3, a4, hl, ok, hg⟩ := h.2.2.2 c hc
  exact ⟨bkX_i h, hc, bkX_c h hc, fun j hj => ⟨hg j hj, (hl.2.2.2 j hj).2⟩, by rw [hcl_n]; exact ok.2⟩
/-- pure: gates alone, no BITS -/
def purL (l : List bk_X) : Prop := ∀ j, j < l.length → pureB (zg l j) = true
theorem pur_a {l : List bk_X} : allN (fun j => pureB (zg l j)) l.length = true ↔ purL l := all_iff l.length
section DVA
variable {d : Nat} {M : mm_M}
set_option maxRecDepth 100000 in
theorem ct_putJ {v : Int32} {k : Nat} (h : M.1 9 8 = nI k) (hk : k < 100000) : am_M (d + 1) false nm_X0_put [aR 9, aI v] M (fun r N => r = .inl none ∧ dfF M N ∧ N.1 9 8 = nI (k + 1)) := by
  refine ⟨rfl, rfl, rfl, fun X hX => am_run hX 4 _ _ _ _ ?_⟩
  conv => whnf
  rw [h]
  have hend : ∀ N, dfF M N → N.1 9 8 = nI k → X 20 [some (aR 9), some (aI v)] [] N := by
    intro N hF h8
    refine am_run hX 7 _ _ _ _ ?_
    conv => whnf
    rw [h8, nI_1]
    exact ⟨trivial, rfl, dfF_t hF dfF_f, by rw [mm_i1]; rfl⟩
  refine ⟨fun _ => ?_, fun q => ?_⟩
  · exact hend M (dfF_r M) h
  · have k3 : k < 300 := by
      apply Classical.byContradiction
      intro z
      exact q (nI_le (a := 300) (b := k) (by omega) (by omega))
    refine am_run hX 6 _ _ _ _ ?_
    conv => whnf
    rw [h]
    refine ⟨vp_in_nI (by show k < 300; omega) (by decide), ?_⟩
    conv => whnf
    exact hend _ dfF_i h
end DVA
