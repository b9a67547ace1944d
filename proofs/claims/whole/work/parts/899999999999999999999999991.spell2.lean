/-! look, written: an OP is spelt at the class -/
section SPM
variable {d : Nat} {M : mm_M} {P : am_Q} {X : am_X} {W : Nat} {x : bk_X}
/-- the locals while an OP is spelt -/
def spL (x : bk_X) (l : List Nat) (i j k : Option am_V) : am_L := [some (aR 9), some (aI (nI (bk_p x))), some (aI (nI l.length)), i, j, k]
set_option maxRecDepth 100000 in
theorem sp_h1 (hX : am_K (d + 4) false nm_X0_spell P X) (hW : W ≤ 8) (ow : bk_w W x) {l : List Nat} {i : Nat} (hl : l.length + 3 ≤ 64) (hi : i < 4) (k : X 33 (spL x (l ++ if x.2.2.2.2.1 / 2 ^ i % 2 = 0 then [] else [63, 48 + i, 91]) (some (aI (nI i))) none none) [] (spW M (l ++ if x.2.2.2.2.1 / 2 ^ i % 2 = 0 then [] else [63, 48 + i, 91]))) : X 9 (spL x l (some (aI (nI i))) none none) [] (spW M l) := by
  have h15 : x.2.2.2.2.1 < 16 := ow.2.2.2.2.1
  refine am_run hX 7 _ _ _ _ ?_
  conv => whnf
  refine am_c1 (ct_onesOf (d := d + 3)) ?_
  rw [bk_oo hW ow]
  conv => whnf
  rw [nI_sh (by omega) i (by omega), nI_m1]
  refine ⟨fun c => ?_, fun c => ?_⟩
  · have c0 : x.2.2.2.2.1 / 2 ^ i % 2 = 0 := by
      rcases Nat.mod_two_eq_zero_or_one (x.2.2.2.2.1 / 2 ^ i) with e | e
      · exact e
      · rw [e] at c; exact absurd c (by decide)
    rw [if_pos c0, List.append_nil] at k
    refine am_run hX 2 _ _ _ _ ?_
    conv => whnf
    exact k
  · have c0 : ¬ x.2.2.2.2.1 / 2 ^ i % 2 = 0 := fun e => c (by rw [e]; rfl)
    rw [if_neg c0] at k
    refine am_run hX 7 _ _ _ _ ?_
    conv => whnf
    rw [show (63 : Int32) = nI 63 from rfl]
    refine am_c1 (ct_spA (d := d + 2) hl (by omega) (by omega)) ?_
    conv => whnf
    exact k
set_option maxRecDepth 100000 in
theorem sp_h2 (hX : am_K (d + 4) false nm_X0_spell P X) (hW : W ≤ 8) (ow : bk_w W x) {l : List Nat} {i : Nat} (hl : l.length + 3 ≤ 64) (hi : i < 4) (k : X 57 (spL x (l ++ if x.2.2.2.2.2 / 2 ^ i % 2 = 0 then [] else [33, 48 + i, 91]) (some (aI (nI i))) none none) [] (spW M (l ++ if x.2.2.2.2.2 / 2 ^ i % 2 = 0 then [] else [33, 48 + i, 91]))) : X 33 (spL x l (some (aI (nI i))) none none) [] (spW M l) := by
  have h15 : x.2.2.2.2.2 < 16 := ow.2.2.2.2.2
  refine am_run hX 7 _ _ _ _ ?_
  conv => whnf
  refine am_c1 (ct_zerosOf (d := d + 3)) ?_
  rw [bk_zz hW ow]
  conv => whnf
  rw [nI_sh (by omega) i (by omega), nI_m1]
  refine ⟨fun c => ?_, fun c => ?_⟩
  · have c0 : x.2.2.2.2.2 / 2 ^ i % 2 = 0 := by
      rcases Nat.mod_two_eq_zero_or_one (x.2.2.2.2.2 / 2 ^ i) with e | e
      · exact e
      · rw [e] at c; exact absurd c (by decide)
    rw [if_pos c0, List.append_nil] at k
    refine am_run hX 2 _ _ _ _ ?_
    conv => whnf
    exact k
  · have c0 : ¬ x.2.2.2.2.2 / 2 ^ i % 2 = 0 := fun e => c (by rw [e]; rfl)
    rw [if_neg c0] at k
    refine am_run hX 7 _ _ _ _ ?_
    conv => whnf
    rw [show (33 : Int32) = nI 33 from rfl]
    refine am_c1 (ct_spA (d := d + 2) hl (by omega) (by omega)) ?_
    conv => whnf
    exact k
set_option maxRecDepth 100000 in
theorem spl1 (hX : am_K (d + 4) false nm_X0_spell P X) (hW : W ≤ 8) (ow : bk_w W x) (k : X 63 (spL x (txB x.2.2.2.2.1 x.2.2.2.2.2 4) (some (aI (nI 4))) none none) [] (spW M (txB x.2.2.2.2.1 x.2.2.2.2.2 4))) : ∀ m i : Nat, i + m = 4 → X 4 (spL x (txB x.2.2.2.2.1 x.2.2.2.2.2 i) (some (aI (nI i))) none none) [] (spW M (txB x.2.2.2.2.1 x.2.2.2.2.2 i)) := by
  intro m
  induction m with
  | zero =>
    intro i e
    obtain rfl : i = 4 := by omega
    refine am_run hX 3 _ _ _ _ ?_
    conv => whnf
    exact ⟨fun _ => k, fun c => absurd (by decide) c⟩
  | succ m ih =>
    intro i e
    have hb := txB_len x.2.2.2.2.1 x.2.2.2.2.2 i
    refine am_run hX 3 _ _ _ _ ?_
    conv => whnf
    refine ⟨fun c => absurd c (nI_ge (a := i) (b := 4) (by omega) (by decide)), fun _ => ?_⟩
    refine sp_h1 hX hW ow (by omega) (by omega) ?_
    refine sp_h2 hX hW ow ?_ (by omega) ?_
    · simp only [List.length_append]
      split <;> simp <;> omega
    · have ih := ih (i + 1) (by omega)
      simp only [txB, txA] at ih
      refine am_run hX 2 _ _ _ _ ?_
      conv => whnf
      rw [nI_1]
      rw [← List.append_assoc] at ih
      exact ih
set_option maxRecDepth 100000 in
theorem spl2 (hX : am_K (d + 4) false nm_X0_spell P X) (hW : W ≤ 8) (ow : bk_w W x) {b : List Nat} {cl : Int32} (hb : b.length ≤ 24) (k : X 113 (spL x (b ++ txC x.2.2.2.1 8) (some (aI cl)) (some (aI (nI 8))) none) [] (spW M (b ++ txC x.2.2.2.1 8))) : ∀ m i : Nat, i + m = 8 → X 70 (spL x (b ++ txC x.2.2.2.1 i) (some (aI cl)) (some (aI (nI i))) none) [] (spW M (b ++ txC x.2.2.2.1 i)) := by
  have h256 : x.2.2.2.1 < 256 := by
    have : 2 ^ W ≤ 2 ^ 8 := Nat.pow_le_pow_right (by decide) hW
    have := ow.2.2.2.1
    omega
  intro m
  induction m with
  | zero =>
    intro i e
    obtain rfl : i = 8 := by omega
    refine am_run hX 3 _ _ _ _ ?_
    conv => whnf
    exact ⟨fun _ => k, fun c => absurd (by decide) c⟩
  | succ m ih =>
    intro i e
    have hc := txC_len x.2.2.2.1 i
    refine am_run hX 10 _ _ _ _ ?_
    conv => whnf
    refine ⟨fun c => absurd c (nI_ge (a := i) (b := 8) (by omega) (by decide)), fun _ => ?_⟩
    conv => whnf
    refine am_c1 (ct_controlsOf (d := d + 3)) ?_
    rw [bk_cc hW ow]
    conv => whnf
    rw [nI_sh (by omega) i (by omega), nI_m1]
    have ih := ih (i + 1) (by omega)
    simp only [txC] at ih
    rw [← List.append_assoc] at ih
    refine ⟨fun c => ?_, fun c => ?_⟩
    · have c0 : x.2.2.2.1 / 2 ^ i % 2 = 0 := by
        rcases Nat.mod_two_eq_zero_or_one (x.2.2.2.1 / 2 ^ i) with e | e
        · exact e
        · rw [e] at c; exact absurd c (by decide)
      rw [if_pos c0, List.append_nil] at ih
      refine am_run hX 2 _ _ _ _ ?_
      conv => whnf
      rw [nI_1]
      exact ih
    · have c0 : ¬ x.2.2.2.1 / 2 ^ i % 2 = 0 := fun e => c (by rw [e]; rfl)
      rw [if_neg c0] at ih
      refine am_run hX 13 _ _ _ _ ?_
      conv => whnf
      rw [show (48 : Int32) = nI 48 from rfl, nI_add, tx_c2 (48 + i) (by omega)]
      refine am_c1 (ct_sp1 (d := d + 3) (by simp only [List.length_append]; omega) (by omega)) ?_
      conv => whnf
      rw [show (62 : Int32) = nI 62 from rfl, show (b ++ txC x.2.2.2.1 i).length + 1 = (b ++ txC x.2.2.2.1 i ++ [48 + i]).length from (by simp <;> omega)]
      refine am_c1 (ct_sp1 (d := d + 3) (by simp only [List.length_append, List.length_cons, List.length_nil]; omega) (by omega)) ?_
      conv => whnf
      rw [nI_1, show (b ++ txC x.2.2.2.1 i ++ [48 + i]).length + 1 = (b ++ txC x.2.2.2.1 i ++ [48 + i, 62]).length from (by simp <;> omega), show b ++ txC x.2.2.2.1 i ++ [48 + i] ++ [62] = b ++ txC x.2.2.2.1 i ++ [48 + i, 62] by simp]
      exact ih
set_option maxRecDepth 100000 in
theorem spl3 (hX : am_K (d + 4) false nm_X0_spell P X) {b : List Nat} {n : Nat} {kd : Int32} (hb : b.length + n ≤ 64) (k : X 247 (spL x (b ++ List.replicate n 93) (some (aI (nI n))) (some (aI kd)) (some (aI (nI n)))) [] (spW M (b ++ List.replicate n 93))) : ∀ m i : Nat, i + m = n → X 227 (spL x (b ++ List.replicate i 93) (some (aI (nI n))) (some (aI kd)) (some (aI (nI i)))) [] (spW M (b ++ List.replicate i 93)) := by
  intro m
  induction m with
  | zero =>
    intro i e
    obtain rfl : i = n := by omega
    refine am_run hX 3 _ _ _ _ ?_
    conv => whnf
    exact ⟨fun _ => k, fun c => absurd (nI_le (Nat.le_refl _) (by omega)) c⟩
  | succ m ih =>
    intro i e
    refine am_run hX 10 _ _ _ _ ?_
    conv => whnf
    refine ⟨fun c => absurd c (nI_ge (a := i) (b := n) (by omega) (by omega)), fun _ => ?_⟩
    conv => whnf
    rw [show (93 : Int32) = nI 93 from rfl]
    refine am_c1 (ct_sp1 (d := d + 3) (by simp only [List.length_append, List.length_replicate]; omega) (by omega)) ?_
    conv => whnf
    have ih := ih (i + 1) (by omega)
    have hl9 : (b ++ List.replicate i 93).length + 1 = (b ++ List.replicate (i + 1) 93).length := by simp <;> omega
    have hl8 : b ++ List.replicate i 93 ++ [93] = b ++ List.replicate (i + 1) 93 := by rw [List.append_assoc, ← List.replicate_succ']
    rw [nI_1, hl9, hl8]
    exact ih
theorem tx_kd : ∀ k, k ≤ 10 → (nI k = 6 ↔ k = 6) ∧ (nI k = 7 ↔ k = 7) ∧ (nI k = 8 ↔ k = 8) ∧ (nI k = 9 ↔ k = 9) ∧ ¬ (10 : Int32) < nI k ∧ am_chr xp_l0 (nI k) = nI (txL k) ∧ txL k < 128 ∧ k < 11 := by decide +kernel
theorem tx_d3 : ∀ a, a < 64 → nI a / 3 = nI (a / 3) := by decide +kernel
set_option maxRecDepth 100000 in
/-- a kind's sign -/
theorem sp_k1 (hX : am_K (d + 4) false nm_X0_spell P X) (hW : W ≤ 8) (ow : bk_w W x) {l : List Nat} {cl : Int32} {u : Option am_V} (hl : l.length + 1 ≤ 64) (k : X 145 (spL x (l ++ txH x.1) (some (aI cl)) (some (aI (nI x.1))) none) [] (spW M (l ++ txH x.1))) : X 113 (spL x l (some (aI cl)) u none) [] (spW M l) := by
  obtain ⟨k6, k7, -⟩ := tx_kd x.1 ow.1
  have hyes : (x.1 = 6 ∨ x.1 = 7) → X 133 (spL x l (some (aI cl)) (some (aI (nI x.1))) none) [] (spW M l) := by
    intro h
    rw [show txH x.1 = [45] from if_pos h] at k
    refine am_run hX 6 _ _ _ _ ?_
    conv => whnf
    rw [show (45 : Int32) = nI 45 from rfl]
    refine am_c1 (ct_sp1 (d := d + 3) (by omega) (by omega)) ?_
    conv => whnf
    rw [show l.length + 1 = (l ++ [45]).length by simp]
    exact k
  refine am_run hX 6 _ _ _ _ ?_
  conv => whnf
  refine am_c1 (ct_kind (d := d + 3)) ?_
  rw [bk_k hW ow]
  conv => whnf
  refine ⟨fun c => hyes (Or.inl (k6.mp c)), fun c => ?_⟩
  refine am_run hX 3 _ _ _ _ ?_
  conv => whnf
  refine ⟨fun c2 => ?_, fun c2 => hyes (Or.inr (k7.mp (Classical.not_not.mp c2)))⟩
  rw [show txH x.1 = [] from if_neg (fun q => q.elim (fun e => c (k6.mpr e)) (fun e => c2 (k7.mpr e))), List.append_nil] at k
  refine am_run hX 2 _ _ _ _ ?_
  conv => whnf
  exact k
set_option maxRecDepth 100000 in
/-- its letter, its WIRE -/
theorem sp_k2 (hX : am_K (d + 4) false nm_X0_spell P X) (hW : W ≤ 8) (ow : bk_w W x) {l : List Nat} {cl : Int32} (hl : l.length + 2 ≤ 64) (k : X 184 (spL x (l ++ [txL x.1] ++ [48 + x.2.1]) (some (aI cl)) (some (aI (nI x.1))) none) [] (spW M (l ++ [txL x.1] ++ [48 + x.2.1]))) : X 145 (spL x l (some (aI cl)) (some (aI (nI x.1))) none) [] (spW M l) := by
  obtain ⟨-, -, -, -, k10, kc, kl, k11⟩ := tx_kd x.1 ow.1
  have hwi : x.2.1 < 8 := by have := ow.2.1; omega
  refine am_run hX 6 _ _ _ _ ?_
  conv => whnf
  refine ⟨fun c => absurd c k10, fun _ => ?_⟩
  refine am_run hX 10 _ _ _ _ ?_
  conv => whnf
  refine ⟨⟨by omega, vp_in_nI (show x.1 < 11 from k11) (by decide)⟩, ?_⟩
  conv => whnf
  rw [kc]
  refine am_c1 (ct_sp1 (d := d + 3) (by omega) kl) ?_
  conv => whnf
  refine am_c1 (ct_wireOf (d := d + 3)) ?_
  rw [bk_wi hW ow]
  refine am_run hX 4 _ _ _ _ ?_
  conv => whnf
  rw [show (48 : Int32) = nI 48 from rfl, nI_add, tx_c2 (48 + x.2.1) (by omega), show l.length + 1 = (l ++ [txL x.1]).length by simp]
  refine am_c1 (ct_sp1 (d := d + 3) (by simp only [List.length_append, List.length_cons, List.length_nil]; omega) (by omega)) ?_
  conv => whnf
  rw [show (l ++ [txL x.1]).length + 1 = (l ++ [txL x.1] ++ [48 + x.2.1]).length by simp]
  exact k
set_option maxRecDepth 100000 in
/-- its second WIRE -/
theorem sp_k3 (hX : am_K (d + 4) false nm_X0_spell P X) (hW : W ≤ 8) (ow : bk_w W x) {l : List Nat} {cl : Int32} (hl : l.length + 1 ≤ 64) (k : X 216 (spL x (l ++ txS x.1 x.2.2.1) (some (aI cl)) (some (aI (nI x.1))) none) [] (spW M (l ++ txS x.1 x.2.2.1))) : X 184 (spL x l (some (aI cl)) (some (aI (nI x.1))) none) [] (spW M l) := by
  obtain ⟨-, -, k8, k9, -⟩ := tx_kd x.1 ow.1
  have hse : x.2.2.1 < 8 := ow.2.2.1
  have hyes : (x.1 = 8 ∨ x.1 = 9) → X 198 (spL x l (some (aI cl)) (some (aI (nI x.1))) none) [] (spW M l) := by
    intro h
    rw [show txS x.1 x.2.2.1 = [48 + x.2.2.1] from if_pos h] at k
    refine am_run hX 10 _ _ _ _ ?_
    conv => whnf
    refine am_c1 (ct_secondOf (d := d + 3)) ?_
    rw [bk_s hW ow]
    conv => whnf
    rw [show (48 : Int32) = nI 48 from rfl, nI_add, tx_c2 (48 + x.2.2.1) (by omega)]
    refine am_c1 (ct_sp1 (d := d + 3) (by omega) (by omega)) ?_
    conv => whnf
    rw [show l.length + 1 = (l ++ [48 + x.2.2.1]).length by simp]
    exact k
  refine am_run hX 3 _ _ _ _ ?_
  conv => whnf
  refine ⟨fun c => hyes (Or.inl (k8.mp c)), fun c => ?_⟩
  refine am_run hX 3 _ _ _ _ ?_
  conv => whnf
  refine ⟨fun c2 => ?_, fun c2 => hyes (Or.inr (k9.mp (Classical.not_not.mp c2)))⟩
  rw [show txS x.1 x.2.2.1 = [] from if_neg (fun q => q.elim (fun e => c (k8.mpr e)) (fun e => c2 (k9.mpr e))), List.append_nil] at k
  refine am_run hX 2 _ _ _ _ ?_
  conv => whnf
  exact k
set_option maxRecDepth 100000 in
/-- an OP is spelt -/
theorem ct_spell (hW : W ≤ 8) (ow : bk_w W x) : am_M (d + 5) false nm_X0_spell [aR 9, aI (nI (bk_p x))] M (am_q1 (aI (nI (txO x).length)) (spW M (txO x))) := by
  have h1 := txB_len x.2.2.2.2.1 x.2.2.2.2.2 4
  have h2 := txC_len x.2.2.2.1 8
  have h3 := txH_len x.1
  have h4 := txS_len x.1 x.2.2.1
  have h5 := txN_le x
  refine ⟨rfl, rfl, rfl, fun X hX => am_run hX 4 _ _ _ _ ?_⟩
  rw [show am_s0 _ [aR 9, aI (nI (bk_p x))] = [some (aR 9), some (aI (nI (bk_p x))), none, none, none, none] from rfl]
  conv => whnf
  have hgo := spl1 (M := M) (x := x) (W := W) (P := am_q1 (aI (nI (txO x).length)) (spW M (txO x))) (X := X) (d := d) hX hW ow ?_ 4 0 rfl
  · rw [show txB x.2.2.2.2.1 x.2.2.2.2.2 0 = [] from rfl, spW_0] at hgo
    exact hgo
  refine am_run hX 6 _ _ _ _ ?_
  conv => whnf
  refine ⟨by decide, ?_⟩
  conv => whnf
  rw [tx_d3 _ (by omega)]
  have hl2 := spl2 (M := M) (x := x) (W := W) (P := am_q1 (aI (nI (txO x).length)) (spW M (txO x))) (X := X) (d := d) (b := txB x.2.2.2.2.1 x.2.2.2.2.2 4) (cl := nI (txN x)) hX hW ow (by omega) ?_ 8 0 rfl
  · rw [show txC x.2.2.2.1 0 = [] from rfl, List.append_nil] at hl2
    exact hl2
  refine sp_k1 hX hW ow (by simp only [List.length_append]; omega) ?_
  refine sp_k2 hX hW ow (by simp only [List.length_append]; omega) ?_
  refine sp_k3 hX hW ow (by simp only [List.length_append, List.length_cons, List.length_nil]; omega) ?_
  refine am_run hX 7 _ _ _ _ ?_
  conv => whnf
  rw [show (59 : Int32) = nI 59 from rfl]
  refine am_c1 (ct_sp1 (d := d + 3) (by simp only [List.length_append, List.length_cons, List.length_nil]; omega) (by omega)) ?_
  conv => whnf
  have hl3 := spl3 (M := M) (x := x) (P := am_q1 (aI (nI (txO x).length)) (spW M (txO x))) (X := X) (d := d) (b := (((((txB x.2.2.2.2.1 x.2.2.2.2.2 4 ++ txC x.2.2.2.1 8) ++ txH x.1) ++ [txL x.1]) ++ [48 + x.2.1]) ++ txS x.1 x.2.2.1) ++ [59]) (n := txN x) (kd := nI x.1) hX (by simp only [List.length_append, List.length_cons, List.length_nil]; omega) ?_ (txN x) 0 (Nat.zero_add _)
  · rw [show List.replicate 0 93 = [] from rfl, List.append_nil] at hl3
    rw [← List.length_singleton (a := 59), ← List.length_append]
    exact hl3
  refine am_run hX 2 _ _ _ _ ?_
  conv => whnf
  exact ⟨trivial, rfl, rfl⟩
end SPM
