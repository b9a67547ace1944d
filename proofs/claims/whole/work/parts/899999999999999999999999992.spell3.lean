/-! look, written: a circuit's text at the class -/
/-- the text of so many OPS -/
def txT (op : Nat → bk_X) : Nat → List Nat
  | 0 => []
  | k + 1 => txT op k ++ txO (op k)
theorem txT_len (op : Nat → bk_X) : ∀ k, (txT op k).length ≤ 53 * k
  | 0 => Nat.le_refl _
  | k + 1 => by
    have h1 := txT_len op k
    have h2 := txO_len (op k)
    simp only [txT, List.length_append]
    omega
theorem txT_up (op : Nat → bk_X) {r : Nat} : ∀ {k m : Nat}, r < (txT op k).length → (txT op (k + m)).getD r 0 = (txT op k).getD r 0
  | _, 0, _ => rfl
  | k, m + 1, h => by
    have h1 := txT_up op (m := m) h
    have h2 : r < (txT op (k + m)).length := by
      clear h1
      induction m with
      | zero => exact h
      | succ m ih => rw [show txT op (k + (m + 1)) = txT op (k + m) ++ txO (op (k + m)) from rfl, List.length_append]; omega
    rw [show txT op (k + (m + 1)) = txT op (k + m) ++ txO (op (k + m)) from rfl, gd_app h2, h1]
theorem txT_lm (op : Nat → bk_X) (k : Nat) : ∀ m, (txT op k).length ≤ (txT op (k + m)).length
  | 0 => Nat.le_refl _
  | m + 1 => by
    have := txT_lm op k m
    rw [show txT op (k + (m + 1)) = txT op (k + m) ++ txO (op (k + m)) from rfl, List.length_append]
    omega
/-- a circuit's OPS, by their numbers -/
theorem tx_op {M : mm_M} {c W S : Nat} (h : bk_c M c W S) : ∃ op : Nat → bk_X, ∀ j, j < S → bk_w W (op j) ∧ bk_o M (300 * c + j) (op j) := by
  have h0 : ∀ j : Nat, ∃ x : bk_X, j < S → bk_w W x ∧ bk_o M (300 * c + j) x := by
    intro j
    by_cases hj : j < S
    · obtain ⟨x, h1⟩ := h.2.2.2.2.2.2.2 j hj
      exact ⟨x, fun _ => h1⟩
    · exact ⟨(0, 0, 0, 0, 0, 0), fun q => absurd q hj⟩
  exact Classical.axiomOfChoice h0
theorem spW_f (M : mm_M) (f : Nat → Int32) (l : List Nat) : spW (mm_i M 14 f) l = mm_i M 14 ((spW (mm_i M 14 f) l).1 14) := by
  unfold spW
  rw [mm_ii, mm_i1, mm_i1]
section SPN
variable {d : Nat} {M : mm_M} {n c W S : Nat} {op : Nat → bk_X}
set_option maxRecDepth 100000 in
theorem sl_l {P : am_Q} {X : am_X} (hX : am_K (d + 5) false nm_X0_spelledLength P X) (h : bk_iv M n) (hc : c < n) (hS : bk_c M c W S) (ho : ∀ j, j < S → bk_w W (op j) ∧ bk_o M (300 * c + j) (op j)) (hP : ∀ f, P (.inl (some (aI (nI (2 + (txT op S).length))))) (mm_i M 14 f)) : ∀ (m i : Nat) (f : Nat → Int32), i + m = S → X 4 [some (aR 9), some (aI (nI c)), some (aI (nI (2 + (txT op i).length))), some (aI (nI i))] [] (mm_i M 14 f) := by
  have hn := h.1
  have hs := hS.2.2.1
  have e11 : ∀ f, (mm_i M 14 f).1 11 (nI c).toNatClampNeg = nI S := fun f => by
    rw [nI_clamp (by omega)]
    exact hS.2.2.2.2.2.1
  intro m
  induction m with
  | zero =>
    intro i f e
    obtain rfl : i = S := by omega
    refine am_run hX 6 _ _ _ _ ?_
    conv => whnf
    refine ⟨vp_in_nI (by show c < 20; omega) (by decide), ?_⟩
    conv => whnf
    rw [e11]
    refine ⟨fun _ => ?_, fun z => absurd (nI_le (Nat.le_refl _) (by omega)) z⟩
    refine am_run hX 2 _ _ _ _ ?_
    conv => whnf
    exact ⟨trivial, hP f⟩
  | succ m ih =>
    intro i f e
    obtain ⟨ow, oe⟩ := ho i (by omega)
    have hl := txT_len op i
    have hl2 := txO_len (op i)
    refine am_run hX 17 _ _ _ _ ?_
    conv => whnf
    refine ⟨vp_in_nI (by show c < 20; omega) (by decide), ?_⟩
    conv => whnf
    rw [e11]
    refine ⟨fun z => absurd z (nI_ge (by omega) (by omega)), fun _ => ?_⟩
    conv => whnf
    refine am_c1 (bk_at (d := d + 2) (M := mm_i M 14 f) (n := n) (S := S) (W := W) h hc hS (by omega)) ?_
    conv => whnf
    rw [show (mm_i M 14 f).1 10 (300 * c + i) = nI (bk_p (op i)) from oe.1]
    refine am_c1 (ct_spell (d := d) hS.2.1 ow) ?_
    conv => whnf
    rw [nI_1, nI_add, spW_f]
    have ih := ih (i + 1) ((spW (mm_i M 14 f) (txO (op i))).1 14) (by omega)
    rw [show txT op (i + 1) = txT op i ++ txO (op i) from rfl, List.length_append, ← Nat.add_assoc] at ih
    exact ih
set_option maxRecDepth 100000 in
theorem ct_spLen (h : bk_iv M n) (hc : c < n) (hS : bk_c M c W S) (ho : ∀ j, j < S → bk_w W (op j) ∧ bk_o M (300 * c + j) (op j)) : am_M (d + 6) false nm_X0_spelledLength [aR 9, aI (nI c)] M (fun r M' => r = .inl (some (aI (nI (2 + (txT op S).length)))) ∧ ∃ f, M' = mm_i M 14 f) := by
  refine ⟨rfl, rfl, rfl, fun X hX => am_run hX 4 _ _ _ _ ?_⟩
  conv => whnf
  have hg := sl_l (d := d) hX h hc hS ho (fun f => ⟨rfl, f, rfl⟩) S 0 (M.1 14) (by omega)
  rw [mm_iz] at hg
  exact hg
set_option maxRecDepth 100000 in
theorem sa_l {P : am_Q} {X : am_X} {q k : Nat} (hX : am_K (d + 5) false nm_X0_spelledAt P X) (h : bk_iv M n) (hc : c < n) (hS : bk_c M c W S) (ho : ∀ j, j < S → bk_w W (op j) ∧ bk_o M (300 * c + j) (op j)) (hq : q < 2 ^ 31) (hP : ∀ f, P (.inl (some (aI (if q < (txT op S).length then nI ((txT op S).getD q 0) else -1)))) (mm_i M 14 f)) : ∀ (m i : Nat) (f : Nat → Int32) (l5 : Option am_V), i + m = S → (txT op i).length ≤ q → (∀ v, l5 = some v → ∃ z, v = aI z) → X 39 [some (aR 9), some (aI (nI c)), some (aI (nI k)), some (aI (nI (q - (txT op i).length))), some (aI (nI i)), l5] [] (mm_i M 14 f) := by
  have hn := h.1
  have hs := hS.2.2.1
  have e11 : ∀ f, (mm_i M 14 f).1 11 (nI c).toNatClampNeg = nI S := fun f => by
    rw [nI_clamp (by omega)]
    exact hS.2.2.2.2.2.1
  intro m
  induction m with
  | zero =>
    intro i f l5 e hlt _
    obtain rfl : i = S := by omega
    refine am_run hX 6 _ _ _ _ ?_
    conv => whnf
    refine ⟨vp_in_nI (by show c < 20; omega) (by decide), ?_⟩
    conv => whnf
    rw [e11]
    refine ⟨fun _ => ?_, fun z => absurd (nI_le (Nat.le_refl _) (by omega)) z⟩
    refine am_run hX 2 _ _ _ _ ?_
    conv => whnf
    have := hP f
    rw [if_neg (by omega)] at this
    exact ⟨trivial, this⟩
  | succ m ih =>
    intro i f l5 e hlt hl5
    obtain ⟨ow, oe⟩ := ho i (by omega)
    have hl := txT_len op i
    have hl2 := txO_len (op i)
    have hm := txT_lm op (i + 1) m
    rw [show txT op (i + 1) = txT op i ++ txO (op i) from rfl, List.length_append, show i + 1 + m = S by omega] at hm
    refine am_run hX 16 _ _ _ _ ?_
    conv => whnf
    refine ⟨vp_in_nI (by show c < 20; omega) (by decide), ?_⟩
    conv => whnf
    rw [e11]
    refine ⟨fun z => absurd z (nI_ge (by omega) (by omega)), fun _ => ?_⟩
    conv => whnf
    refine am_c1 (bk_at (d := d + 2) (M := mm_i M 14 f) (n := n) (S := S) (W := W) h hc hS (by omega)) ?_
    conv => whnf
    rw [show (mm_i M 14 f).1 10 (300 * c + i) = nI (bk_p (op i)) from oe.1]
    refine am_c1 (ct_spell (d := d) hS.2.1 ow) ?_
    conv => whnf
    refine ⟨fun z => ?_, fun z => ?_⟩
    · have hge : (txO (op i)).length ≤ q - (txT op i).length := by
        rcases Nat.lt_or_ge (q - (txT op i).length) (txO (op i)).length with y | y
        · exact absurd z (nI_ge y (by omega))
        · exact y
      refine am_run hX 6 _ _ _ _ ?_
      conv => whnf
      rw [nI_1, nI_sub hge, spW_f]
      have ih := ih (i + 1) ((spW (mm_i M 14 f) (txO (op i))).1 14) (some (aI (nI (txO (op i)).length))) (by omega) (by rw [show txT op (i + 1) = txT op i ++ txO (op i) from rfl, List.length_append]; omega) (fun v e => ⟨_, (Option.some.inj e).symm⟩)
      rw [show txT op (i + 1) = txT op i ++ txO (op i) from rfl, List.length_append, ← Nat.sub_sub] at ih
      exact ih
    · have hlt2 : q - (txT op i).length < (txO (op i)).length := by
        rcases Nat.lt_or_ge (q - (txT op i).length) (txO (op i)).length with y | y
        · exact y
        · exact absurd (nI_le y (by omega)) z
      refine am_run hX 5 _ _ _ _ ?_
      conv => whnf
      refine ⟨vp_in_nI (by show _ < 64; omega) (by decide), ?_⟩
      conv => whnf
      have hv : (spW (mm_i M 14 f) (txO (op i))).1 14 (nI (q - (txT op i).length)).toNatClampNeg = nI ((txT op S).getD q 0) := by
        rw [nI_clamp (by omega)]
        have e1 : (spW (mm_i M 14 f) (txO (op i))).1 14 (q - (txT op i).length) = nI ((txO (op i)).getD (q - (txT op i).length) 0) := by
          unfold spW
          rw [mm_i1, if_pos hlt2]
        have e2 : (txT op S).getD q 0 = (txO (op i)).getD (q - (txT op i).length) 0 := by
          have e3 := txT_up op (r := q) (k := i + 1) (m := m) (by rw [show txT op (i + 1) = txT op i ++ txO (op i) from rfl, List.length_append]; omega)
          rw [show i + 1 + m = S by omega] at e3
          rw [e3, show txT op (i + 1) = txT op i ++ txO (op i) from rfl, gd_apr hlt]
        rw [e1, e2]
      rw [hv, spW_f]
      have := hP ((spW (mm_i M 14 f) (txO (op i))).1 14)
      rw [if_pos (by omega)] at this
      exact ⟨trivial, this⟩
/-- the char at a place of a circuit's text -/
def txV (W : Nat) (t : List Nat) (k : Int32) : Int32 := if k < 0 then -1 else if k < nI (t.length + 2) then nI (((48 + W) :: 58 :: t).getD k.toNatClampNeg 0) else -1
set_option maxRecDepth 100000 in
theorem ct_spAt (k : Int32) (h : bk_iv M n) (hc : c < n) (hS : bk_c M c W S) (ho : ∀ j, j < S → bk_w W (op j) ∧ bk_o M (300 * c + j) (op j)) : am_M (d + 6) false nm_X0_spelledAt [aR 9, aI (nI c), aI k] M (fun r M' => r = .inl (some (aI (txV W (txT op S) k))) ∧ ∃ f, M' = mm_i M 14 f) := by
  have hn := h.1
  have hl := txT_len op S
  have hs := hS.2.2.1
  refine ⟨rfl, rfl, rfl, fun X hX => am_run hX 3 _ _ _ _ ?_⟩
  conv => whnf
  have e0 : ∃ f, M = mm_i M 14 f := ⟨M.1 14, (mm_iz M 14).symm⟩
  refine ⟨fun z => ?_, fun z => ?_⟩
  · have hk0 : ¬ k < 0 := fun y => absurd (Int32.lt_of_lt_of_le y (by decide : (0 : Int32) ≤ 2)) (Int32.not_lt.mpr z)
    obtain ⟨j, hj, rfl⟩ := nI_of hk0
    have h2 : 2 ≤ j := by
      rcases Nat.lt_or_ge j 2 with y | y
      · exact absurd z (nI_ge (b := 2) y (by decide))
      · exact y
    refine am_run hX 6 _ _ _ _ ?_
    conv => whnf
    rw [show (2 : Int32) = nI 2 from rfl, nI_sub h2]
    have hg := sa_l (d := d) (q := j - 2) (k := j) hX h hc hS ho (by omega) (fun f => ⟨?_, f, rfl⟩) S 0 (M.1 14) none (by omega) (Nat.zero_le _) (fun v e => by cases e)
    · rw [mm_iz] at hg
      exact hg
    unfold txV
    rw [if_neg hk0]
    by_cases hlt : j - 2 < (txT op S).length
    · rw [if_pos hlt, if_pos (nI_lt (by omega) (by omega)), nI_clamp hj]
      obtain ⟨i, rfl⟩ : ∃ i, j = i + 2 := ⟨j - 2, by omega⟩
      rfl
    · rw [if_neg hlt, if_neg (nI_nlt (by omega) hj)]
  · refine am_run hX 2 _ _ _ _ ?_
    conv => whnf
    refine ⟨fun y => ?_, fun y => ?_⟩
    · obtain ⟨j, hj, rfl⟩ := nI_of (fun w => absurd y (Int32.not_le.mpr w))
      have h2 : j < 2 := by
        rcases Nat.lt_or_ge j 2 with w | w
        · exact w
        · exact absurd (nI_le w hj) z
      have hv : txV W (txT op S) (nI j) = nI (((48 + W) :: 58 :: txT op S).getD j 0) := by
        unfold txV
        rw [if_neg (nI_pos hj), if_pos (nI_lt (by omega) (by omega)), nI_clamp hj]
      rcases (by omega : j = 0 ∨ j = 1) with rfl | rfl
      · refine am_run hX 10 _ _ _ _ ?_
        conv => whnf
        refine ⟨fun w => absurd rfl w, fun _ => ?_⟩
        conv => whnf
        refine ⟨vp_in_nI (by show c < 20; omega) (by decide), ?_⟩
        conv => whnf
        rw [nI_clamp (n := c) (by omega), hS.2.2.2.1, show (48 : Int32) = nI 48 from rfl, nI_add]
        exact ⟨trivial, by rw [hv]; rfl, e0⟩
      · refine am_run hX 10 _ _ _ _ ?_
        conv => whnf
        refine ⟨fun _ => ?_, fun w => absurd (by decide) w⟩
        conv => whnf
        exact ⟨trivial, by rw [hv]; rfl, e0⟩
    · refine am_run hX 3 _ _ _ _ ?_
      conv => whnf
      refine ⟨trivial, ?_, e0⟩
      unfold txV
      rw [if_pos (Int32.not_le.mp y)]
end SPN
