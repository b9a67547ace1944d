/-! look, written: an OP's text, at the class -/
/-- what is asked of one bit -/
def txA (o z i : Nat) : List Nat := (if o / 2 ^ i % 2 = 0 then [] else [63, 48 + i, 91]) ++ (if z / 2 ^ i % 2 = 0 then [] else [33, 48 + i, 91])
def txB (o z : Nat) : Nat → List Nat
  | 0 => []
  | k + 1 => txB o z k ++ txA o z k
def txC (c : Nat) : Nat → List Nat
  | 0 => []
  | k + 1 => txC c k ++ (if c / 2 ^ k % 2 = 0 then [] else [48 + k, 62])
def txL (k : Nat) : Nat := [120, 121, 122, 104, 115, 116, 115, 116, 119, 109, 114].getD k 114
def txH (k : Nat) : List Nat := if k = 6 ∨ k = 7 then [45] else []
def txS (k s : Nat) : List Nat := if k = 8 ∨ k = 9 then [48 + s] else []
def txN (x : bk_X) : Nat := (txB x.2.2.2.2.1 x.2.2.2.2.2 4).length / 3
/-- an OP's text -/
def txO (x : bk_X) : List Nat := ((((((txB x.2.2.2.2.1 x.2.2.2.2.2 4 ++ txC x.2.2.2.1 8) ++ txH x.1) ++ [txL x.1]) ++ [48 + x.2.1]) ++ txS x.1 x.2.2.1) ++ [59]) ++ List.replicate (txN x) 93
theorem txA_len (o z i : Nat) : (txA o z i).length ≤ 6 := by unfold txA; split <;> split <;> simp
theorem txA_3 (o z i : Nat) : (txA o z i).length % 3 = 0 := by unfold txA; split <;> split <;> simp
theorem txB_len (o z : Nat) : ∀ k, (txB o z k).length ≤ 6 * k
  | 0 => Nat.le_refl _
  | k + 1 => by
    have h1 := txB_len o z k
    have h2 := txA_len o z k
    simp only [txB, List.length_append]
    omega
theorem txC_len (c : Nat) : ∀ k, (txC c k).length ≤ 2 * k
  | 0 => Nat.le_refl _
  | k + 1 => by
    have h1 := txC_len c k
    simp only [txC, List.length_append]
    split <;> simp <;> omega
theorem txH_len (k : Nat) : (txH k).length ≤ 1 := by unfold txH; split <;> simp
theorem txS_len (k s : Nat) : (txS k s).length ≤ 1 := by unfold txS; split <;> simp
theorem txN_le (x : bk_X) : txN x ≤ 8 := by
  have := txB_len x.2.2.2.2.1 x.2.2.2.2.2 4
  unfold txN
  omega
theorem txO_len (x : bk_X) : (txO x).length ≤ 53 := by
  have h1 := txB_len x.2.2.2.2.1 x.2.2.2.2.2 4
  have h2 := txC_len x.2.2.2.1 8
  have h3 := txH_len x.1
  have h4 := txS_len x.1 x.2.2.1
  have h5 := txN_le x
  simp only [txO, List.length_append, List.length_replicate, List.length_cons, List.length_nil]
  omega
theorem gd_app {l r : List Nat} {j : Nat} (h : j < l.length) : (l ++ r).getD j 0 = l.getD j 0 := by
  rw [List.getD_eq_getElem?_getD, List.getD_eq_getElem?_getD, List.getElem?_append_left h]
theorem gd_apr {l r : List Nat} {j : Nat} (h : l.length ≤ j) : (l ++ r).getD j 0 = r.getD (j - l.length) 0 := by
  rw [List.getD_eq_getElem?_getD, List.getD_eq_getElem?_getD, List.getElem?_append_right h]
/-- the class's row of chars begins with l -/
def spW (M : mm_M) (l : List Nat) : mm_M := mm_i M 14 (fun j => if j < l.length then nI (l.getD j 0) else M.1 14 j)
theorem spW_0 (M : mm_M) : spW M [] = M := by
  have e : (fun j => if j < ([] : List Nat).length then nI (([] : List Nat).getD j 0) else M.1 14 j) = M.1 14 := by
    funext j
    exact if_neg (Nat.not_lt_zero _)
  unfold spW
  rw [e, mm_iz]
theorem spW_1 (M : mm_M) (l : List Nat) (c : Nat) : mm_i (spW M l) 14 (upd ((spW M l).1 14) l.length (nI c)) = spW M (l ++ [c]) := by
  unfold spW
  rw [mm_ii, mm_i1]
  congr 1
  funext j
  unfold upd
  simp only [List.length_append, List.length_cons, List.length_nil]
  by_cases h : j = l.length
  · subst h
    rw [if_pos rfl, if_pos (by omega)]
    simp
  · rw [if_neg h]
    by_cases h2 : j < l.length
    · rw [if_pos h2, if_pos (by omega), gd_app h2]
    · rw [if_neg h2, if_neg (by omega)]
theorem spW_ne (M : mm_M) (l : List Nat) (k : Nat) (h : k ≠ 14) : (spW M l).1 k = M.1 k := mm_ne _ _ _ _ h
theorem tx_ch : ∀ b, b < 128 → vp_nar .char (nI b) = nI b := by decide +kernel
theorem tx_c2 : ∀ b, b < 128 → ((nI b).toUInt32 % 65536).toInt32 = nI b := by decide +kernel
section SPL
variable {d : Nat} {M : mm_M}
set_option maxRecDepth 100000 in
theorem ct_sp1 {l : List Nat} {c : Nat} (hl : l.length < 64) (hc : c < 128) : am_M (d + 1) false nm_X0_spellOne [aR 9, aI (nI l.length), aI (nI c)] (spW M l) (am_q1 (aI (nI (l.length + 1))) (spW M (l ++ [c]))) := by
  refine ⟨rfl, rfl, rfl, fun X hX => am_run hX 20 _ _ _ _ ?_⟩
  conv => whnf
  refine ⟨fun z => absurd z (nI_ge hl (by decide)), fun _ => ?_⟩
  conv => whnf
  refine ⟨vp_in_nI hl (by decide), ?_⟩
  conv => whnf
  rw [nI_clamp (n := l.length) (by omega), tx_ch c hc, spW_1]
  exact ⟨trivial, by rw [nI_1], rfl⟩
set_option maxRecDepth 100000 in
theorem ct_spA {l : List Nat} {c b : Nat} (hl : l.length + 3 ≤ 64) (hc : c < 128) (hb : b < 8) : am_M (d + 2) false nm_X0_spellAsked [aR 9, aI (nI l.length), aI (nI c), aI (nI b)] (spW M l) (am_q1 (aI (nI (l ++ [c, 48 + b, 91]).length)) (spW M (l ++ [c, 48 + b, 91]))) := by
  refine ⟨rfl, rfl, rfl, fun X hX => am_run hX 20 _ _ _ _ ?_⟩
  conv => whnf
  refine am_c1 (ct_sp1 (d := d) (by omega) hc) ?_
  conv => whnf
  rw [show (48 : Int32) = nI 48 from rfl, nI_add, tx_c2 (48 + b) (by omega), show l.length + 1 = (l ++ [c]).length by simp]
  refine am_c1 (ct_sp1 (d := d) (by simp; omega) (by omega)) ?_
  conv => whnf
  rw [show (91 : Int32) = nI 91 from rfl, show (l ++ [c]).length + 1 = (l ++ [c] ++ [48 + b]).length by simp]
  refine am_c1 (ct_sp1 (d := d) (by simp; omega) (by omega)) ?_
  conv => whnf
  refine ⟨trivial, ?_, ?_⟩
  · simp
  · simp
end SPL
