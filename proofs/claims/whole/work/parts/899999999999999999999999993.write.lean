/-! look, written: a circuit's text at the reference -/
/-- the reference has written l -/
def wrW (M : mm_M) (l : List Nat) : mm_M := mm_i (mm_i M 132 (fun j => if j < l.length then nI (l.getD j 0) else M.1 132 j)) 108 (upd (M.1 108) 40 (nI l.length))
theorem wrW_0 (M : mm_M) : mm_i M 108 (upd (M.1 108) 40 0) = wrW M [] := by
  have e : (fun j => if j < ([] : List Nat).length then nI (([] : List Nat).getD j 0) else M.1 132 j) = M.1 132 := by
    funext j
    exact if_neg (Nat.not_lt_zero _)
  unfold wrW
  rw [e, mm_iz]
  rfl
theorem wrW_1 (M : mm_M) (l : List Nat) (c : Nat) : mm_i (mm_i (wrW M l) 132 (upd ((wrW M l).1 132) l.length (nI c))) 108 (upd ((wrW M l).1 108) 40 (nI (l.length + 1))) = wrW M (l ++ [c]) := by
  have e1 : (wrW M l).1 108 = upd (M.1 108) 40 (nI l.length) := by unfold wrW; rw [mm_i1]
  have e2 : (wrW M l).1 132 = fun j => if j < l.length then nI (l.getD j 0) else M.1 132 j := by unfold wrW; rw [mm_ne _ _ _ _ (by decide), mm_i1]
  have e3 : upd (fun j => if j < l.length then nI (l.getD j 0) else M.1 132 j) l.length (nI c) = fun j => if j < (l ++ [c]).length then nI ((l ++ [c]).getD j 0) else M.1 132 j := by
    funext j
    unfold upd
    simp only [List.length_append, List.length_cons, List.length_nil]
    by_cases h : j = l.length
    · subst h
      rw [if_pos rfl, if_pos (by omega)]
      simp
    · rw [if_neg h]
      by_cases h2 : j < l.length
      · rw [if_pos h2, if_pos (by omega), gd_app h2]
      · rw [if_neg h2, if_neg (by omega)]
  have e4 : (l ++ [c]).length = l.length + 1 := by simp
  rw [e1, e2, e3, upd_two]
  unfold wrW
  rw [e4, mm_ic _ 108 132 _ _ (by decide), mm_ii, mm_ii]
section WRT
variable {d : Nat} {M : mm_M}
set_option maxRecDepth 100000 in
theorem ct_wput {l : List Nat} {c : Nat} (hl : l.length < 18000) : am_M (d + 1) false nm_X12_put [aR 108, aI (nI c)] (wrW M l) (am_q0 (wrW M (l ++ [c]))) := by
  have e1 : (wrW M l).1 108 40 = nI l.length := rfl
  refine ⟨rfl, rfl, rfl, fun X hX => am_run hX 20 _ _ _ _ ?_⟩
  conv => whnf
  rw [e1]
  refine ⟨vp_in_nI hl (by decide), ?_⟩
  conv => whnf
  rw [nI_clamp (n := l.length) (by omega)]
  refine ⟨trivial, rfl, ?_⟩
  rw [← wrW_1]
  have e2 : (mm_i (wrW M l) 132 (upd ((wrW M l).1 132) l.length (nI c))).1 108 = (wrW M l).1 108 := mm_ne _ _ _ _ (by decide)
  rw [e2, e1, nI_1]
set_option maxRecDepth 100000 in
theorem ct_wlet {k : Nat} (hk : k ≤ 10) : am_M (d + 1) false nm_X12_letterOf [aI (nI k)] M (am_q1 (aI (nI (txL k))) M) := by
  have h : ∀ j : Int32, am_M (d + 1) false nm_X12_letterOf [aI j] M (am_q1 (aI (if j = 0 then 120 else if j = 1 then 121 else if j = 2 then 122 else if j = 3 then 104 else if j = 4 then 115 else if j = 5 then 116 else if j = 6 then 115 else if j = 7 then 116 else if j = 8 then 119 else if j = 9 then 109 else 114)) M) := by
    intro j
    refine ⟨rfl, rfl, rfl, fun X hX => am_run hX 5 _ _ _ _ ?_⟩
    conv => whnf
    refine ⟨fun e0 => ?_, fun e0 => ?_⟩
    · conv => whnf
      exact ⟨trivial, by rw [if_pos e0], rfl⟩
    conv => whnf
    refine ⟨fun e1 => ?_, fun e1 => ?_⟩
    · conv => whnf
      exact ⟨trivial, by rw [if_neg e0, if_pos e1], rfl⟩
    conv => whnf
    refine ⟨fun e2 => ?_, fun e2 => ?_⟩
    · conv => whnf
      exact ⟨trivial, by rw [if_neg e0, if_neg e1, if_pos e2], rfl⟩
    conv => whnf
    refine ⟨fun e3 => ?_, fun e3 => ?_⟩
    · conv => whnf
      exact ⟨trivial, by rw [if_neg e0, if_neg e1, if_neg e2, if_pos e3], rfl⟩
    conv => whnf
    refine ⟨fun e4 => ?_, fun e4 => ?_⟩
    · conv => whnf
      exact ⟨trivial, by rw [if_neg e0, if_neg e1, if_neg e2, if_neg e3, if_pos e4], rfl⟩
    conv => whnf
    refine ⟨fun e5 => ?_, fun e5 => ?_⟩
    · conv => whnf
      exact ⟨trivial, by rw [if_neg e0, if_neg e1, if_neg e2, if_neg e3, if_neg e4, if_pos e5], rfl⟩
    conv => whnf
    refine ⟨fun e6 => ?_, fun e6 => ?_⟩
    · conv => whnf
      exact ⟨trivial, by rw [if_neg e0, if_neg e1, if_neg e2, if_neg e3, if_neg e4, if_neg e5, if_pos e6], rfl⟩
    conv => whnf
    refine ⟨fun e7 => ?_, fun e7 => ?_⟩
    · conv => whnf
      exact ⟨trivial, by rw [if_neg e0, if_neg e1, if_neg e2, if_neg e3, if_neg e4, if_neg e5, if_neg e6, if_pos e7], rfl⟩
    conv => whnf
    refine ⟨fun e8 => ?_, fun e8 => ?_⟩
    · conv => whnf
      exact ⟨trivial, by rw [if_neg e0, if_neg e1, if_neg e2, if_neg e3, if_neg e4, if_neg e5, if_neg e6, if_neg e7, if_pos e8], rfl⟩
    conv => whnf
    refine ⟨fun e9 => ?_, fun e9 => ?_⟩
    · conv => whnf
      exact ⟨trivial, by rw [if_neg e0, if_neg e1, if_neg e2, if_neg e3, if_neg e4, if_neg e5, if_neg e6, if_neg e7, if_neg e8, if_pos e9], rfl⟩
    conv => whnf
    exact ⟨trivial, by rw [if_neg e0, if_neg e1, if_neg e2, if_neg e3, if_neg e4, if_neg e5, if_neg e6, if_neg e7, if_neg e8, if_neg e9], rfl⟩
  have h := h (nI k)
  have e : ∀ k, k ≤ 10 → (if nI k = 0 then (120 : Int32) else if nI k = 1 then 121 else if nI k = 2 then 122 else if nI k = 3 then 104 else if nI k = 4 then 115 else if nI k = 5 then 116 else if nI k = 6 then 115 else if nI k = 7 then 116 else if nI k = 8 then 119 else if nI k = 9 then 109 else 114) = nI (txL k) := by decide +kernel
  rw [e k hk] at h
  exact h
/-- how often is asked -/
def txE (o z : Nat) : Nat → Nat
  | 0 => 0
  | k + 1 => txE o z k + (if o / 2 ^ k % 2 = 0 then 0 else 1) + (if z / 2 ^ k % 2 = 0 then 0 else 1)
theorem txE_3 (o z : Nat) : ∀ k, (txB o z k).length = 3 * txE o z k
  | 0 => rfl
  | k + 1 => by
    have h := txE_3 o z k
    simp only [txB, txA, txE, List.length_append, h]
    split <;> split <;> simp <;> omega
theorem txE_le (o z : Nat) : ∀ k, txE o z k ≤ 2 * k
  | 0 => Nat.le_refl _
  | k + 1 => by
    have h := txE_le o z k
    simp only [txE]
    split <;> split <;> omega
theorem txN_E (x : bk_X) : txN x = txE x.2.2.2.2.1 x.2.2.2.2.2 4 := by
  unfold txN
  rw [txE_3]
  omega
variable {P : am_Q} {X : am_X} {k : Nat}
def wrL (k a : Nat) (i v : Option am_V) : am_L := [some (aR 108), some (aI (nI k)), some (aI (nI a)), i, v]
set_option maxRecDepth 100000 in
theorem wr_h1 (hX : am_K (d + 1) false nm_X12_writeOp P X) {o b a : Nat} {l : List Nat} (hk : k < 6300) (e : M.1 116 k = nI o) (ho : o < 16) (hb : b < 4) (hl : l.length + 3 ≤ 18000) (K : X 12 (wrL k (a + if o / 2 ^ b % 2 = 0 then 0 else 1) (some (aI (nI b))) (some (aI 0))) [] (wrW M (l ++ if o / 2 ^ b % 2 = 0 then [] else [63, 48 + b, 91]))) : X 12 (wrL k a (some (aI (nI b))) (some (aI 1))) [] (wrW M l) := by
  have e0 : (wrW M l).1 116 (nI k).toNatClampNeg = nI o := by
    rw [nI_clamp (by omega)]
    exact e
  have e1 : (1 : Int32) + (-1) = 0 := by decide
  refine am_run hX 15 _ _ _ _ ?_
  conv => whnf
  refine ⟨fun z => absurd z (by decide), fun _ => ?_⟩
  conv => whnf
  refine ⟨fun z => absurd rfl z, fun _ => ?_⟩
  conv => whnf
  refine ⟨vp_in_nI (by show k < 6300; omega) (by decide), ?_⟩
  conv => whnf
  rw [e0, nI_sh (by omega) b (by omega), nI_m1]
  refine ⟨fun c => ?_, fun c => ?_⟩
  · have c0 : ¬ o / 2 ^ b % 2 = 0 := fun e => c (by rw [e]; rfl)
    rw [if_neg c0, if_neg c0] at K
    refine am_run hX 18 _ _ _ _ ?_
    conv => whnf
    refine ⟨fun z => absurd rfl z, fun _ => ?_⟩
    conv => whnf
    rw [show (63 : Int32) = nI 63 from rfl]
    refine am_c0 (ct_wput (d := d) (by omega)) ?_
    conv => whnf
    rw [show (48 : Int32) = nI 48 from rfl, nI_add]
    refine am_c0 (ct_wput (d := d) (by simp; omega)) ?_
    conv => whnf
    rw [show (91 : Int32) = nI 91 from rfl]
    refine am_c0 (ct_wput (d := d) (by simp; omega)) ?_
    conv => whnf
    rw [nI_1, e1, show l ++ [63] ++ [48 + b] ++ [91] = l ++ [63, 48 + b, 91] by simp]
    exact K
  · have c0 : o / 2 ^ b % 2 = 0 := by
      rcases Nat.mod_two_eq_zero_or_one (o / 2 ^ b) with e | e
      · exact e
      · rw [e] at c; exact absurd (by decide) c
    rw [if_pos c0, if_pos c0, List.append_nil] at K
    refine am_run hX 3 _ _ _ _ ?_
    conv => whnf
    rw [e1]
    exact K
set_option maxRecDepth 100000 in
theorem wr_h2 (hX : am_K (d + 1) false nm_X12_writeOp P X) {o b a : Nat} {l : List Nat} (hk : k < 6300) (e : M.1 117 k = nI o) (ho : o < 16) (hb : b < 4) (hl : l.length + 3 ≤ 18000) (K : X 12 (wrL k (a + if o / 2 ^ b % 2 = 0 then 0 else 1) (some (aI (nI b))) (some (aI (-1)))) [] (wrW M (l ++ if o / 2 ^ b % 2 = 0 then [] else [33, 48 + b, 91]))) : X 12 (wrL k a (some (aI (nI b))) (some (aI 0))) [] (wrW M l) := by
  have e0 : (wrW M l).1 117 (nI k).toNatClampNeg = nI o := by
    rw [nI_clamp (by omega)]
    exact e
  have e1 : (0 : Int32) + (-1) = -1 := by decide
  refine am_run hX 14 _ _ _ _ ?_
  conv => whnf
  refine ⟨fun z => absurd z (by decide), fun _ => ?_⟩
  conv => whnf
  refine ⟨fun _ => ?_, fun z => absurd (by decide) z⟩
  conv => whnf
  refine ⟨vp_in_nI (by show k < 6300; omega) (by decide), ?_⟩
  conv => whnf
  rw [e0, nI_sh (by omega) b (by omega), nI_m1]
  refine ⟨fun c => ?_, fun c => ?_⟩
  · have c0 : ¬ o / 2 ^ b % 2 = 0 := fun e => c (by rw [e]; rfl)
    rw [if_neg c0, if_neg c0] at K
    refine am_run hX 17 _ _ _ _ ?_
    conv => whnf
    refine ⟨fun _ => ?_, fun z => absurd (by decide) z⟩
    conv => whnf
    rw [show (33 : Int32) = nI 33 from rfl]
    refine am_c0 (ct_wput (d := d) (by omega)) ?_
    conv => whnf
    rw [show (48 : Int32) = nI 48 from rfl, nI_add]
    refine am_c0 (ct_wput (d := d) (by simp; omega)) ?_
    conv => whnf
    rw [show (91 : Int32) = nI 91 from rfl]
    refine am_c0 (ct_wput (d := d) (by simp; omega)) ?_
    conv => whnf
    rw [nI_1, e1, show l ++ [33] ++ [48 + b] ++ [91] = l ++ [33, 48 + b, 91] by simp]
    exact K
  · have c0 : o / 2 ^ b % 2 = 0 := by
      rcases Nat.mod_two_eq_zero_or_one (o / 2 ^ b) with e | e
      · exact e
      · rw [e] at c; exact absurd (by decide) c
    rw [if_pos c0, if_pos c0, List.append_nil] at K
    refine am_run hX 3 _ _ _ _ ?_
    conv => whnf
    rw [e1]
    exact K
set_option maxRecDepth 100000 in
theorem wr_l1 (hX : am_K (d + 1) false nm_X12_writeOp P X) {o z : Nat} {b0 : List Nat} (hk : k < 6300) (eo : M.1 116 k = nI o) (ez : M.1 117 k = nI z) (ho : o < 16) (hz : z < 16) (hl : b0.length + 24 ≤ 18000) (K : ∀ v, X 94 (wrL k (txE o z 4) (some (aI (nI 4))) v) [] (wrW M (b0 ++ txB o z 4))) : ∀ (m i : Nat) (v : Option am_V), i + m = 4 → X 4 (wrL k (txE o z i) (some (aI (nI i))) v) [] (wrW M (b0 ++ txB o z i)) := by
  intro m
  induction m with
  | zero =>
    intro i v e
    obtain rfl : i = 4 := by omega
    refine am_run hX 3 _ _ _ _ ?_
    conv => whnf
    exact ⟨fun _ => K v, fun c => absurd (by decide) c⟩
  | succ m ih =>
    intro i v e
    have h1 := txB_len o z i
    refine am_run hX 5 _ _ _ _ ?_
    conv => whnf
    refine ⟨fun c => absurd c (nI_ge (a := i) (b := 4) (by omega) (by decide)), fun _ => ?_⟩
    conv => whnf
    refine wr_h1 hX hk eo ho (by omega) (by simp only [List.length_append]; omega) ?_
    refine wr_h2 hX hk ez hz (by omega) (by
      simp only [List.length_append]
      split <;> simp <;> omega) ?_
    have ih := ih (i + 1) (some (aI (-1))) (by omega)
    simp only [txB, txA, txE] at ih
    rw [← List.append_assoc, ← List.append_assoc] at ih
    refine am_run hX 4 _ _ _ _ ?_
    conv => whnf
    refine ⟨fun _ => ?_, fun c => absurd (by decide) c⟩
    conv => whnf
    rw [nI_1]
    exact ih
set_option maxRecDepth 100000 in
theorem wr_l2 (hX : am_K (d + 1) false nm_X12_writeOp P X) {c a : Nat} {b : List Nat} {v : Option am_V} (hk : k < 6300) (ec : M.1 115 k = nI c) (hc : c < 256) (hl : b.length + 16 ≤ 18000) (K : X 138 (wrL k a (some (aI (nI 8))) v) [] (wrW M (b ++ txC c 8))) : ∀ (m i : Nat), i + m = 8 → X 96 (wrL k a (some (aI (nI i))) v) [] (wrW M (b ++ txC c i)) := by
  intro m
  induction m with
  | zero =>
    intro i e
    obtain rfl : i = 8 := by omega
    refine am_run hX 3 _ _ _ _ ?_
    conv => whnf
    exact ⟨fun _ => K, fun c => absurd (by decide) c⟩
  | succ m ih =>
    intro i e
    have h1 := txC_len c i
    have e0 : (wrW M (b ++ txC c i)).1 115 (nI k).toNatClampNeg = nI c := by
      rw [nI_clamp (by omega)]
      exact ec
    refine am_run hX 12 _ _ _ _ ?_
    conv => whnf
    refine ⟨fun c => absurd c (nI_ge (a := i) (b := 8) (by omega) (by decide)), fun _ => ?_⟩
    conv => whnf
    refine ⟨vp_in_nI (by show k < 6300; omega) (by decide), ?_⟩
    conv => whnf
    rw [e0, nI_sh (by omega) i (by omega), nI_m1]
    have ih := ih (i + 1) (by omega)
    simp only [txC] at ih
    rw [← List.append_assoc] at ih
    refine ⟨fun q => ?_, fun q => ?_⟩
    · have c0 : ¬ c / 2 ^ i % 2 = 0 := fun e => q (by rw [e]; rfl)
      rw [if_neg c0] at ih
      refine am_run hX 10 _ _ _ _ ?_
      conv => whnf
      rw [show (48 : Int32) = nI 48 from rfl, nI_add]
      refine am_c0 (ct_wput (d := d) (by simp only [List.length_append]; omega)) ?_
      conv => whnf
      rw [show (62 : Int32) = nI 62 from rfl]
      refine am_c0 (ct_wput (d := d) (by simp only [List.length_append, List.length_cons, List.length_nil]; omega)) ?_
      conv => whnf
      rw [nI_1, show b ++ txC c i ++ [48 + i] ++ [62] = b ++ txC c i ++ [48 + i, 62] by simp]
      exact ih
    · have c0 : c / 2 ^ i % 2 = 0 := by
        rcases Nat.mod_two_eq_zero_or_one (c / 2 ^ i) with e | e
        · exact e
        · rw [e] at q; exact absurd (by decide) q
      rw [if_pos c0, List.append_nil] at ih
      refine am_run hX 3 _ _ _ _ ?_
      conv => whnf
      rw [nI_1]
      exact ih
set_option maxRecDepth 100000 in
theorem wr_l3 (hX : am_K (d + 1) false nm_X12_writeOp P X) {n : Nat} {b : List Nat} {v : Option am_V} (hl : b.length + n ≤ 18000) (K : X 252 (wrL k n (some (aI (nI n))) v) [] (wrW M (b ++ List.replicate n 93))) : ∀ (m i : Nat), i + m = n → X 235 (wrL k n (some (aI (nI i))) v) [] (wrW M (b ++ List.replicate i 93)) := by
  intro m
  induction m with
  | zero =>
    intro i e
    obtain rfl : i = n := by omega
    refine am_run hX 3 _ _ _ _ ?_
    conv => whnf
    exact ⟨fun _ => K, fun c => absurd (nI_le (Nat.le_refl _) (by omega)) c⟩
  | succ m ih =>
    intro i e
    refine am_run hX 8 _ _ _ _ ?_
    conv => whnf
    refine ⟨fun c => absurd c (nI_ge (a := i) (b := n) (by omega) (by omega)), fun _ => ?_⟩
    conv => whnf
    rw [show (93 : Int32) = nI 93 from rfl]
    refine am_c0 (ct_wput (d := d) (by simp only [List.length_append, List.length_replicate]; omega)) ?_
    conv => whnf
    have ih := ih (i + 1) (by omega)
    have hl8 : b ++ List.replicate i 93 ++ [93] = b ++ List.replicate (i + 1) 93 := by rw [List.append_assoc, ← List.replicate_succ']
    rw [nI_1, hl8]
    exact ih
end WRT
