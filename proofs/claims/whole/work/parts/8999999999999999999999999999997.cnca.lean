/-! derive, CANCELLED: lists, and the class -/
theorem zg_er (l : List bk_X) (a j : Nat) : zg (l.eraseIdx a) j = if j < a then zg l j else zg l (j + 1) := by
  unfold zg
  rw [List.getD_eq_getElem?_getD, List.getD_eq_getElem?_getD, List.getD_eq_getElem?_getD, List.getElem?_eraseIdx]
  split <;> rfl
theorem zg_st (l : List bk_X) {i : Nat} (x : bk_X) (hi : i < l.length) (j : Nat) : zg (l.set i x) j = if j = i then x else zg l j := by
  unfold zg
  rw [List.getD_eq_getElem?_getD, List.getD_eq_getElem?_getD, List.getElem?_set]
  by_cases q : j = i
  · subst q
    rw [if_pos rfl, if_pos rfl, if_pos hi]
    rfl
  · rw [if_neg (fun e => q e.symm), if_neg q]
theorem zg_ex {l k : List bk_X} (h : l.length = k.length) (hz : ∀ j, j < l.length → zg l j = zg k j) : l = k := by
  apply List.ext_getElem h
  intro j h1 h2
  have := hz j h1
  unfold zg at this
  rw [List.getD_eq_getElem?_getD, List.getD_eq_getElem?_getD, List.getElem?_eq_getElem h1, List.getElem?_eq_getElem h2] at this
  exact this
/-- the first OP behind i that goes with it -/
def cnJ (l : List bk_X) (i : Nat) : Nat → Nat → Option Nat
  | 0, _ => none
  | m + 1, j => if togN (zg l i) (zg l j) ≠ 8 then some j else if wsN (zg l j) &&& wsN (zg l i) ≠ 0 then none else cnJ l i m (j + 1)
def cnI (l : List bk_X) : Nat → Nat → Option (Nat × Nat)
  | 0, _ => none
  | m + 1, i => match cnJ l i (l.length - (i + 1)) (i + 1) with
    | some j => some (i, j)
    | none => cnI l m (i + 1)
/-- the two become one, or none -/
def cnS (l : List bk_X) (i j : Nat) : List bk_X := if togN (zg l i) (zg l j) = 0 then (l.eraseIdx j).eraseIdx i else (l.set i (keN (togN (zg l i) (zg l j)), (zg l i).2)).eraseIdx j
def cnO (l : List bk_X) : Option (List bk_X) := match cnI l l.length 0 with
  | some (i, j) => some (cnS l i j)
  | none => none
def cnN : Nat → List bk_X → List bk_X
  | 0, l => l
  | m + 1, l => match cnO l with
    | some k => cnN m k
    | none => l
theorem cnJ_s {l : List bk_X} {i : Nat} : ∀ {m j k : Nat}, cnJ l i m j = some k → j ≤ k ∧ k < j + m ∧ togN (zg l i) (zg l k) ≠ 8
  | 0, j, k, h => by cases h
  | m + 1, j, k, h => by
    unfold cnJ at h
    by_cases c : togN (zg l i) (zg l j) ≠ 8
    · rw [if_pos c] at h
      cases h
      exact ⟨Nat.le_refl _, by omega, c⟩
    · rw [if_neg c] at h
      by_cases c2 : wsN (zg l j) &&& wsN (zg l i) ≠ 0
      · rw [if_pos c2] at h
        cases h
      · rw [if_neg c2] at h
        obtain ⟨a, b, e⟩ := cnJ_s h
        exact ⟨by omega, by omega, e⟩
theorem cnI_s {l : List bk_X} : ∀ {m i a b : Nat}, i + m ≤ l.length → cnI l m i = some (a, b) → a < b ∧ b < l.length ∧ togN (zg l a) (zg l b) ≠ 8
  | 0, i, a, b, _, h => by cases h
  | m + 1, i, a, b, hm, h => by
    unfold cnI at h
    cases hj : cnJ l i (l.length - (i + 1)) (i + 1) with
    | some k =>
      rw [hj] at h
      cases h
      obtain ⟨p, q, r⟩ := cnJ_s hj
      exact ⟨by omega, by omega, r⟩
    | none =>
      rw [hj] at h
      exact cnI_s (by omega) h
theorem cnS_l {l : List bk_X} {i j : Nat} (h : i < j) (hj : j < l.length) : (cnS l i j).length < l.length := by
  unfold cnS
  split
  · rw [List.length_eraseIdx, List.length_eraseIdx, if_pos hj]
    split <;> omega
  · rw [List.length_eraseIdx, List.length_set, if_pos hj]
    omega
theorem cnO_l {l k : List bk_X} (h : cnO l = some k) : k.length < l.length := by
  unfold cnO at h
  cases hi : cnI l l.length 0 with
  | none => rw [hi] at h; cases h
  | some p =>
    obtain ⟨a, b⟩ := p
    rw [hi] at h
    cases h
    obtain ⟨h1, h2, _⟩ := cnI_s (by omega) hi
    exact cnS_l h1 h2
theorem tog_k {x y : bk_X} (h : togN x y ≠ 8) (h0 : togN x y ≠ 0) : togN x y < 8 ∧ togN x y ≠ 3 ∧ togN x y ≠ 5 ∧ x.1 ≤ 7 := by
  have hes : ∀ s, s < 8 → esK s ≠ 8 → esK s < 8 ∧ esK s ≠ 3 ∧ esK s ≠ 5 := by decide
  unfold togN at h h0 ⊢
  by_cases c1 : x.2.2.2.1 = y.2.2.2.1
  · rw [if_pos c1] at h h0 ⊢
    by_cases c2 : x.1 = 8
    · rw [if_pos c2] at h h0
      by_cases c3 : y.1 = 8 ∧ wsN x = wsN y
      · rw [if_pos c3] at h0
        exact absurd rfl h0
      · rw [if_neg c3] at h
        exact absurd rfl h
    · rw [if_neg c2] at h h0 ⊢
      by_cases c3 : y.1 = 8 ∨ x.2.1 ≠ y.2.1
      · rw [if_pos c3] at h
        exact absurd rfl h
      · rw [if_neg c3] at h h0 ⊢
        by_cases c4 : x.1 ≤ 3 ∧ x.1 = y.1
        · rw [if_pos c4] at h0
          exact absurd rfl h0
        · rw [if_neg c4] at h h0 ⊢
          by_cases c5 : egN x.1 = 0 ∨ egN y.1 = 0
          · rw [if_pos c5] at h
            exact absurd rfl h
          · rw [if_neg c5] at h h0 ⊢
            obtain ⟨a, b, e⟩ := hes _ (Nat.mod_lt _ (by decide)) h
            refine ⟨a, b, e, ?_⟩
            apply Classical.byContradiction
            intro q
            apply c5
            left
            unfold egN
            rw [if_neg (by omega), if_neg (by omega), if_neg (by omega), if_neg (by omega), if_neg (by omega)]
  · rw [if_neg c1] at h
    exact absurd rfl h
theorem ke_10 (e : Nat) : keN e ≤ 7 := by
  unfold keN
  split
  · decide
  · split
    · decide
    · split
      · decide
      · split <;> decide
/-- OPS that stay what they must be -/
def allO (W : Nat) (l : List bk_X) : Prop := ∀ j, j < l.length → ogd W (zg l j) ∧ pureB (zg l j) = true
theorem cnS_o {W : Nat} {l : List bk_X} {i j : Nat} (h : allO W l) (hij : i < j) (hj : j < l.length) (ht : togN (zg l i) (zg l j) ≠ 8) : allO W (cnS l i j) := by
  intro k hk
  unfold cnS at hk ⊢
  by_cases c : togN (zg l i) (zg l j) = 0
  · rw [if_pos c] at hk ⊢
    rw [List.length_eraseIdx, List.length_eraseIdx, if_pos hj, if_pos (by omega)] at hk
    rw [zg_er, zg_er, zg_er]
    split
    · split
      · exact h k (by omega)
      · exact h (k + 1) (by omega)
    · split
      · exact h (k + 1) (by omega)
      · exact h (k + 1 + 1) (by omega)
  · rw [if_neg c] at hk ⊢
    rw [List.length_eraseIdx, List.length_set, if_pos hj] at hk
    have hi : i < l.length := by omega
    obtain ⟨t1, t2, t3, t4⟩ := tog_k ht c
    have hnew : ogd W (keN (togN (zg l i) (zg l j)), (zg l i).2) ∧ pureB (keN (togN (zg l i) (zg l j)), (zg l i).2) = true := by
      obtain ⟨⟨⟨g1, g2⟩, g3, g4⟩, g5⟩ := h i hi
      have k7 := ke_10 (togN (zg l i) (zg l j))
      refine ⟨⟨⟨by show keN _ ≤ 10; omega, g2⟩, g3, fun q => ?_⟩, ?_⟩
      · have q : keN (togN (zg l i) (zg l j)) = 8 := q
        omega
      · have := of_decide_eq_true g5
        exact decide_eq_true ⟨by show keN _ < 9; omega, this.2⟩
    have hs : ∀ k, k < l.length → ogd W (zg (l.set i (keN (togN (zg l i) (zg l j)), (zg l i).2)) k) ∧ pureB (zg (l.set i (keN (togN (zg l i) (zg l j)), (zg l i).2)) k) = true := by
      intro k hk
      rw [zg_st _ _ hi]
      by_cases q : k = i
      · rw [if_pos q]
        exact hnew
      · rw [if_neg q]
        exact h k hk
    rw [zg_er]
    split
    · exact hs k (by omega)
    · exact hs (k + 1) (by omega)
/-- a draft in the class's memory -/
def drf (N : mm_M) (l : List bk_X) : Prop := l.length ≤ 300 ∧ N.1 9 8 = nI l.length ∧ ∀ j, j < l.length → N.1 13 j = nI (bk_p (zg l j))
def dfF (M N : mm_M) : Prop := (∀ k, k ≠ 9 → k ≠ 13 → N.1 k = M.1 k) ∧ N.2 = M.2 ∧ ∀ y, y ≠ 8 → N.1 9 y = M.1 9 y
theorem dfF_r (M : mm_M) : dfF M M := ⟨fun _ _ _ => rfl, rfl, fun _ _ => rfl⟩
theorem dfF_t {M N K : mm_M} (h : dfF M N) (g : dfF N K) : dfF M K := ⟨fun k a b => (g.1 k a b).trans (h.1 k a b), g.2.1.trans h.2.1, fun y a => (g.2.2 y a).trans (h.2.2 y a)⟩
theorem dfF_i {M : mm_M} {f : Nat → Int32} : dfF M (mm_i M 13 f) := ⟨fun j _ b => mm_ne _ _ _ _ b, rfl, fun y _ => by rw [mm_ne _ _ _ _ (by decide)]⟩
theorem dfF_f {M : mm_M} {v : Int32} : dfF M (mm_i M 9 (upd (M.1 9) 8 v)) := ⟨fun j a _ => mm_ne _ _ _ _ a, rfl, fun y hy => by rw [mm_i1]; exact if_neg hy⟩
section CNA
variable {d : Nat} {M : mm_M} {W : Nat}
set_option maxRecDepth 100000 in
theorem rm_d {l : List bk_X} {a : Nat} {P : am_Q} {X : am_X} (hX : am_K d false nm_X0_removeDrafted P X) (hl : l.length ≤ 300) (ha : a < l.length) (hK : ∀ N, dfF M N → drf N (l.eraseIdx a) → P (.inl none) N) : ∀ (m i : Nat) (N : mm_M), i + m = l.length - 1 → a ≤ i → dfF M N → N.1 9 8 = nI (l.length - 1) → (∀ j, j < l.length → N.1 13 j = nI (bk_p (if a ≤ j ∧ j < i then zg l (j + 1) else zg l j))) → X 12 [some (aR 9), some (aI (nI a)), some (aI (nI i))] [] N := by
  intro m
  induction m with
  | zero =>
    intro i N hi hai hF h8 hc
    refine am_run hX 5 _ _ _ _ ?_
    conv => whnf
    rw [h8]
    refine ⟨fun _ => ?_, fun q => absurd (nI_le (by omega) (by omega)) q⟩
    conv => whnf
    refine ⟨trivial, hK N hF ⟨?_, ?_, fun j hj => ?_⟩⟩
    · rw [List.length_eraseIdx]
      split <;> omega
    · rw [List.length_eraseIdx, if_pos ha]
      exact h8
    · rw [List.length_eraseIdx, if_pos ha] at hj
      rw [hc j (by omega), zg_er]
      by_cases q : j < a
      · rw [if_pos q, if_neg (by omega)]
      · rw [if_neg q, if_pos (by omega)]
  | succ m ih =>
    intro i N hi hai hF h8 hc
    refine am_run hX 4 _ _ _ _ ?_
    conv => whnf
    rw [h8]
    refine ⟨fun q => absurd q (nI_ge (by omega) (by omega)), fun _ => ?_⟩
    refine am_run hX 12 _ _ _ _ ?_
    conv => whnf
    rw [nI_1]
    refine ⟨vp_in_nI (by show i + 1 < 300; omega) (by decide), ?_⟩
    conv => whnf
    refine ⟨vp_in_nI (by show i < 300; omega) (by decide), ?_⟩
    conv => whnf
    rw [nI_clamp (n := i + 1) (by omega), nI_clamp (n := i) (by omega), nI_1, hc (i + 1) (by omega), if_neg (by omega)]
    refine ih (i + 1) _ (by omega) (by omega) (dfF_t hF dfF_i) h8 (fun j hj => ?_)
    rw [mm_i1]
    by_cases q : j = i
    · subst q
      rw [if_pos (by omega)]
      exact if_pos rfl
    · refine (if_neg q).trans ?_
      rw [hc j hj]
      by_cases y : a ≤ j ∧ j < i
      · rw [if_pos y, if_pos (by omega)]
      · rw [if_neg y, if_neg (by omega)]
set_option maxRecDepth 100000 in
theorem ct_remD {l : List bk_X} {a : Nat} (h : drf M l) (ha : a < l.length) : am_M (d + 1) false nm_X0_removeDrafted [aR 9, aI (nI a)] M (fun r N => r = .inl none ∧ dfF M N ∧ drf N (l.eraseIdx a)) := by
  obtain ⟨hl, h8, hc⟩ := h
  refine ⟨rfl, rfl, rfl, fun X hX => am_run hX 8 _ _ _ _ ?_⟩
  conv => whnf
  rw [h8, show nI l.length - 1 = nI (l.length - 1) from by rw [show (1 : Int32) = nI 1 from rfl, nI_sub (by omega)]]
  refine rm_d (d := d) (M := M) hX hl ha (fun N a b => ⟨rfl, a, b⟩) (l.length - 1 - a) a _ (by omega) (Nat.le_refl _) dfF_f ?_ (fun j hj => ?_)
  · rw [mm_i1]
    rfl
  · rw [if_neg (by omega)]
    exact hc j hj
theorem and_16 {p : Nat} (hp : p < 2 ^ 26) : nI p &&& (-16) = nI (p / 16 * 16) := by
  rw [show (-16 : Int32) = nI 4294967280 from by decide, nI_and]
  congr 1
  have e : (4294967280 : Nat) = (2 ^ 28 - 1) <<< 4 := by decide
  have h2 : p &&& (2 ^ 28 - 1) <<< 4 = (p / 16 % 2 ^ 28) <<< 4 := by
    apply Nat.eq_of_testBit_eq
    intro i
    rw [Nat.testBit_and, Nat.testBit_shiftLeft, Nat.testBit_shiftLeft, ← Nat.and_two_pow_sub_one_eq_mod, Nat.testBit_and, show (16 : Nat) = 2 ^ 4 from rfl, Nat.testBit_div_two_pow]
    by_cases q : 4 ≤ i
    · rw [decide_eq_true q, Bool.true_and, Bool.true_and, Nat.sub_add_cancel q]
    · rw [decide_eq_false q]
      simp
  rw [e, h2, Nat.shiftLeft_eq, Nat.mod_eq_of_lt (by omega)]
theorem bk_ks {x : bk_X} {k : Nat} (hW : W ≤ 8) (ow : bk_w W x) (hk : k < 16) : nI (bk_p x) &&& (-16) ||| nI k = nI (bk_p (k, x.2)) := by
  have hlt := bk_lt hW ow
  have hx := ow.1
  rw [and_16 (by omega), nI_or, Nat.or_comm, show (16 : Nat) = 2 ^ 4 from rfl, cp_add (a := bk_p x / 2 ^ 4) (show k < 2 ^ 4 by omega)]
  congr 1
  unfold bk_p at hlt ⊢
  show k + (x.1 + 16 * x.2.1 + 128 * x.2.2.1 + 1024 * x.2.2.2.1 + 262144 * x.2.2.2.2.1 + 4194304 * x.2.2.2.2.2) / 2 ^ 4 * 2 ^ 4 = k + 16 * x.2.1 + 128 * x.2.2.1 + 1024 * x.2.2.2.1 + 262144 * x.2.2.2.2.1 + 4194304 * x.2.2.2.2.2
  omega
set_option maxRecDepth 100000 in
theorem ct_becO {l : List bk_X} {i j : Nat} (hW : W ≤ 8) (h : drf M l) (hw : allO W l) (hij : i < j) (hj : j < l.length) (ht : togN (zg l i) (zg l j) ≠ 8) : am_M (d + 2) false nm_X0_becomeOne [aR 9, aI (nI i), aI (nI j), aI (nI (togN (zg l i) (zg l j)))] M (fun r N => r = .inl none ∧ dfF M N ∧ drf N (cnS l i j)) := by
  have h0 := h
  obtain ⟨hl, h8, hc⟩ := h
  have hi : i < l.length := by omega
  by_cases c : togN (zg l i) (zg l j) = 0
  · rw [c]
    have e : cnS l i j = (l.eraseIdx j).eraseIdx i := if_pos c
    rw [e]
    refine ⟨rfl, rfl, rfl, fun X hX => am_run hX 2 _ _ _ _ ?_⟩
    conv => whnf
    refine ⟨fun _ => ?_, fun q => absurd rfl q⟩
    refine am_run hX 3 _ _ _ _ ?_
    conv => whnf
    refine am_cq (ct_remD (d := d) h0 hj) fun r1 N1 hq => ?_
    obtain ⟨rfl, f1, g1⟩ := hq
    refine ⟨none, rfl, ?_⟩
    refine am_run hX 2 _ _ _ _ ?_
    conv => whnf
    refine ⟨fun q => absurd rfl q, fun _ => ?_⟩
    refine am_run hX 4 _ _ _ _ ?_
    conv => whnf
    refine am_cq (ct_remD (d := d) g1 (a := i) (by rw [List.length_eraseIdx, if_pos hj]; omega)) fun r2 N2 hq => ?_
    obtain ⟨rfl, f2, g2⟩ := hq
    refine ⟨none, rfl, ?_⟩
    conv => whnf
    exact ⟨trivial, rfl, dfF_t f1 f2, g2⟩
  · obtain ⟨t1, t2, t3, t4⟩ := tog_k ht c
    have e : cnS l i j = (l.set i (keN (togN (zg l i) (zg l j)), (zg l i).2)).eraseIdx j := if_neg c
    rw [e]
    generalize hT : togN (zg l i) (zg l j) = T at c t1 t2 t3
    have k7 := ke_10 T
    refine ⟨rfl, rfl, rfl, fun X hX => am_run hX 2 _ _ _ _ ?_⟩
    conv => whnf
    rw [show (0 : Int32) = nI 0 from rfl, nI_eq (by omega) (by decide)]
    refine ⟨fun q => absurd q c, fun _ => ?_⟩
    refine am_run hX 14 _ _ _ _ ?_
    conv => whnf
    refine ⟨vp_in_nI (by show i < 300; omega) (by decide), ?_⟩
    conv => whnf
    refine ⟨vp_in_nI (n := T) (N := 8) (by omega) (by decide), ?_⟩
    conv => whnf
    refine ⟨vp_in_nI (by show i < 300; omega) (by decide), ?_⟩
    refine am_run hX 3 _ _ _ _ ?_
    conv => whnf
    rw [nI_clamp (n := i) (by omega), hc i hi, show (fun j => xp_a0.getD j 0) (nI T).toNatClampNeg = nI (keN T) from by rw [nI_clamp (by omega)]; exact a0_k T t1 c t2 t3, bk_ks hW (hw i hi).1.1 (by omega)]
    have g0 : drf (mm_i M 13 (upd (M.1 13) i (nI (bk_p (keN T, (zg l i).2))))) (l.set i (keN T, (zg l i).2)) := by
      refine ⟨by rw [List.length_set]; exact hl, by rw [List.length_set]; exact h8, fun k hk => ?_⟩
      rw [List.length_set] at hk
      rw [mm_i1, zg_st _ _ hi]
      by_cases q : k = i
      · rw [if_pos q, q]
        exact if_pos rfl
      · rw [if_neg q]
        refine (if_neg q).trans ?_
        exact hc k hk
    refine am_cq (ct_remD (d := d) g0 (a := j) (by rw [List.length_set]; exact hj)) fun r1 N1 hq => ?_
    obtain ⟨rfl, f1, g1⟩ := hq
    refine ⟨none, rfl, ?_⟩
    refine am_run hX 2 _ _ _ _ ?_
    conv => whnf
    rw [show (0 : Int32) = nI 0 from rfl, nI_eq (by omega) (by decide)]
    refine ⟨fun _ => ?_, fun q => absurd c q⟩
    refine am_run hX 1 _ _ _ _ ?_
    conv => whnf
    exact ⟨trivial, rfl, dfF_t dfF_i f1, g1⟩
end CNA
