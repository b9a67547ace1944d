/-! look, written: an OP and a circuit are written at the reference -/
section WRU
variable {d : Nat} {M : mm_M} {P : am_Q} {X : am_X} {k : Nat} {x : bk_X}
/-- an OP's six numbers at the reference -/
def wrO (M : mm_M) (k : Nat) (x : bk_X) : Prop := M.1 112 k = nI x.1 ∧ M.1 113 k = nI x.2.1 ∧ M.1 114 k = nI x.2.2.1 ∧ M.1 115 k = nI x.2.2.2.1 ∧ M.1 116 k = nI x.2.2.2.2.1 ∧ M.1 117 k = nI x.2.2.2.2.2
set_option maxRecDepth 100000 in
theorem wr_k1 (hX : am_K (d + 1) false nm_X12_writeOp P X) (hk : k < 6300) (hx : wrO M k x) (h10 : x.1 ≤ 10) {l : List Nat} {a : Nat} {i v : Option am_V} (hl : l.length + 1 ≤ 18000) (K : X 166 (wrL k a i v) [] (wrW M (l ++ txH x.1))) : X 138 (wrL k a i v) [] (wrW M l) := by
  obtain ⟨k6, k7, -⟩ := tx_kd x.1 h10
  have e0 : (wrW M l).1 112 (nI k).toNatClampNeg = nI x.1 := by
    rw [nI_clamp (by omega)]
    exact hx.1
  have hyes : (x.1 = 6 ∨ x.1 = 7) → X 160 (wrL k a i v) [] (wrW M l) := by
    intro h
    rw [show txH x.1 = [45] from if_pos h] at K
    refine am_run hX 3 _ _ _ _ ?_
    conv => whnf
    rw [show (45 : Int32) = nI 45 from rfl]
    refine am_c0 (ct_wput (d := d) (by omega)) ?_
    conv => whnf
    exact K
  refine am_run hX 6 _ _ _ _ ?_
  conv => whnf
  refine ⟨vp_in_nI (by show k < 6300; omega) (by decide), ?_⟩
  conv => whnf
  rw [e0]
  refine ⟨fun c => hyes (Or.inl (k6.mp c)), fun c => ?_⟩
  refine am_run hX 6 _ _ _ _ ?_
  conv => whnf
  refine ⟨vp_in_nI (by show k < 6300; omega) (by decide), ?_⟩
  conv => whnf
  rw [e0]
  refine ⟨fun c2 => ?_, fun c2 => hyes (Or.inr (k7.mp (Classical.not_not.mp c2)))⟩
  rw [show txH x.1 = [] from if_neg (fun q => q.elim (fun e => c (k6.mpr e)) (fun e => c2 (k7.mpr e))), List.append_nil] at K
  exact K
set_option maxRecDepth 100000 in
theorem wr_k2 (hX : am_K (d + 1) false nm_X12_writeOp P X) (hk : k < 6300) (hx : wrO M k x) (h10 : x.1 ≤ 10) {l : List Nat} {a : Nat} {i v : Option am_V} (hl : l.length + 2 ≤ 18000) (K : X 192 (wrL k a i v) [] (wrW M (l ++ [txL x.1] ++ [48 + x.2.1]))) : X 166 (wrL k a i v) [] (wrW M l) := by
  have e0 : (wrW M l).1 112 (nI k).toNatClampNeg = nI x.1 := by
    rw [nI_clamp (by omega)]
    exact hx.1
  have e1 : (wrW M (l ++ [txL x.1])).1 113 (nI k).toNatClampNeg = nI x.2.1 := by
    rw [nI_clamp (by omega)]
    exact hx.2.1
  refine am_run hX 15 _ _ _ _ ?_
  conv => whnf
  refine ⟨vp_in_nI (by show k < 6300; omega) (by decide), ?_⟩
  conv => whnf
  rw [e0]
  refine am_c1 (ct_wlet (d := d) h10) ?_
  conv => whnf
  refine am_c0 (ct_wput (d := d) (by omega)) ?_
  conv => whnf
  refine ⟨vp_in_nI (by show k < 6300; omega) (by decide), ?_⟩
  conv => whnf
  rw [e1, show (48 : Int32) = nI 48 from rfl, nI_add]
  refine am_c0 (ct_wput (d := d) (by simp; omega)) ?_
  conv => whnf
  exact K
set_option maxRecDepth 100000 in
theorem wr_k3 (hX : am_K (d + 1) false nm_X12_writeOp P X) (hk : k < 6300) (hx : wrO M k x) (h10 : x.1 ≤ 10) {l : List Nat} {a : Nat} {i v : Option am_V} (hl : l.length + 1 ≤ 18000) (K : X 227 (wrL k a i v) [] (wrW M (l ++ txS x.1 x.2.2.1))) : X 192 (wrL k a i v) [] (wrW M l) := by
  obtain ⟨-, -, k8, k9, -⟩ := tx_kd x.1 h10
  have e0 : (wrW M l).1 112 (nI k).toNatClampNeg = nI x.1 := by
    rw [nI_clamp (by omega)]
    exact hx.1
  have e1 : (wrW M l).1 114 (nI k).toNatClampNeg = nI x.2.2.1 := by
    rw [nI_clamp (by omega)]
    exact hx.2.2.1
  have hyes : (x.1 = 8 ∨ x.1 = 9) → X 214 (wrL k a i v) [] (wrW M l) := by
    intro h
    rw [show txS x.1 x.2.2.1 = [48 + x.2.2.1] from if_pos h] at K
    refine am_run hX 8 _ _ _ _ ?_
    conv => whnf
    refine ⟨vp_in_nI (by show k < 6300; omega) (by decide), ?_⟩
    conv => whnf
    rw [e1, show (48 : Int32) = nI 48 from rfl, nI_add]
    refine am_c0 (ct_wput (d := d) (by omega)) ?_
    conv => whnf
    exact K
  refine am_run hX 6 _ _ _ _ ?_
  conv => whnf
  refine ⟨vp_in_nI (by show k < 6300; omega) (by decide), ?_⟩
  conv => whnf
  rw [e0]
  refine ⟨fun c => hyes (Or.inl (k8.mp c)), fun c => ?_⟩
  refine am_run hX 6 _ _ _ _ ?_
  conv => whnf
  refine ⟨vp_in_nI (by show k < 6300; omega) (by decide), ?_⟩
  conv => whnf
  rw [e0]
  refine ⟨fun c2 => ?_, fun c2 => hyes (Or.inr (k9.mp (Classical.not_not.mp c2)))⟩
  rw [show txS x.1 x.2.2.1 = [] from if_neg (fun q => q.elim (fun e => c (k8.mpr e)) (fun e => c2 (k9.mpr e))), List.append_nil] at K
  exact K
set_option maxRecDepth 100000 in
theorem ct_wrO {W : Nat} (hW : W ≤ 8) (ow : bk_w W x) (hk : k < 6300) (hx : wrO M k x) {l : List Nat} (hl : l.length + 53 ≤ 18000) : am_M (d + 2) false nm_X12_writeOp [aR 108, aI (nI k)] (wrW M l) (am_q0 (wrW M (l ++ txO x))) := by
  have h1 := txB_len x.2.2.2.2.1 x.2.2.2.2.2 4
  have h2 := txC_len x.2.2.2.1 8
  have h3 := txH_len x.1
  have h4 := txS_len x.1 x.2.2.1
  have h5 := txN_le x
  have h256 : x.2.2.2.1 < 256 := by
    have : 2 ^ W ≤ 2 ^ 8 := Nat.pow_le_pow_right (by decide) hW
    have := ow.2.2.2.1
    omega
  refine ⟨rfl, rfl, rfl, fun X hX => am_run hX 4 _ _ _ _ ?_⟩
  conv => whnf
  have hgo := wr_l1 (M := M) (d := d) (P := am_q0 (wrW M (l ++ txO x))) (X := X) (b0 := l) hX hk hx.2.2.2.2.1 hx.2.2.2.2.2 ow.2.2.2.2.1 ow.2.2.2.2.2 (by omega) (fun v => ?_) 4 0 none rfl
  · rw [show txB x.2.2.2.2.1 x.2.2.2.2.2 0 = [] from rfl, List.append_nil] at hgo
    exact hgo
  refine am_run hX 2 _ _ _ _ ?_
  conv => whnf
  have hl2 := wr_l2 (M := M) (d := d) (P := am_q0 (wrW M (l ++ txO x))) (X := X) (b := l ++ txB x.2.2.2.2.1 x.2.2.2.2.2 4) (a := txE x.2.2.2.2.1 x.2.2.2.2.2 4) (v := v) hX hk hx.2.2.2.1 h256 (by simp only [List.length_append]; omega) ?_ 8 0 rfl
  · rw [show txC x.2.2.2.1 0 = [] from rfl, List.append_nil] at hl2
    exact hl2
  refine wr_k1 hX hk hx ow.1 (by simp only [List.length_append]; omega) ?_
  refine wr_k2 hX hk hx ow.1 (by simp only [List.length_append]; omega) ?_
  refine wr_k3 hX hk hx ow.1 (by simp only [List.length_append, List.length_cons, List.length_nil]; omega) ?_
  refine am_run hX 5 _ _ _ _ ?_
  conv => whnf
  rw [show (59 : Int32) = nI 59 from rfl]
  refine am_c0 (ct_wput (d := d) (by simp only [List.length_append, List.length_cons, List.length_nil]; omega)) ?_
  conv => whnf
  rw [← txN_E x]
  have hl3 := wr_l3 (M := M) (d := d) (k := k) (P := am_q0 (wrW M (l ++ txO x))) (X := X) (b := l ++ txB x.2.2.2.2.1 x.2.2.2.2.2 4 ++ txC x.2.2.2.1 8 ++ txH x.1 ++ [txL x.1] ++ [48 + x.2.1] ++ txS x.1 x.2.2.1 ++ [59]) (n := txN x) (v := v) hX (by simp only [List.length_append, List.length_cons, List.length_nil]; omega) ?_ (txN x) 0 (Nat.zero_add _)
  · rw [show List.replicate 0 93 = [] from rfl, List.append_nil] at hl3
    exact hl3
  refine am_run hX 1 _ _ _ _ ?_
  conv => whnf
  refine ⟨trivial, rfl, ?_⟩
  unfold txO
  simp only [List.append_assoc]
variable {n c W S : Nat} {op : Nat → bk_X}
set_option maxRecDepth 100000 in
theorem wrl0 (hX : am_K (d + 2) false nm_X12_write P X) (hc : c < 20) (hW : W ≤ 8) (hS : S ≤ 300) (e8 : M.1 111 c = nI S) (ho : ∀ j, j < S → bk_w W (op j) ∧ wrO M (300 * c + j) (op j)) (hP : P (.inl none) (wrW M ((48 + W) :: 58 :: txT op S))) : ∀ (m i : Nat), i + m = S → X 30 [some (aR 108), some (aI (nI c)), some (aI (nI (300 * c + i)))] [] (wrW M ((48 + W) :: 58 :: txT op i)) := by
  have eS : ∀ l, (wrW M l).1 111 (nI c).toNatClampNeg = nI S := fun l => by
    rw [nI_clamp (by omega)]
    exact e8
  intro m
  induction m with
  | zero =>
    intro i e
    obtain rfl : i = S := by omega
    refine am_run hX 10 _ _ _ _ ?_
    conv => whnf
    refine ⟨vp_in_nI (by show c < 21; omega) (by decide), ?_⟩
    conv => whnf
    rw [eS, show (300 : Int32) = nI 300 from rfl, nI_mul, nI_add]
    refine ⟨fun _ => ?_, fun z => absurd (nI_le (Nat.le_refl _) (by omega)) z⟩
    refine am_run hX 1 _ _ _ _ ?_
    conv => whnf
    exact ⟨trivial, hP⟩
  | succ m ih =>
    intro i e
    have hl := txT_len op i
    refine am_run hX 15 _ _ _ _ ?_
    conv => whnf
    refine ⟨vp_in_nI (by show c < 21; omega) (by decide), ?_⟩
    conv => whnf
    rw [eS, show (300 : Int32) = nI 300 from rfl, nI_mul, nI_add]
    refine ⟨fun z => absurd z (nI_ge (by omega) (by omega)), fun _ => ?_⟩
    conv => whnf
    refine am_c0 (ct_wrO (d := d) hW (ho i (by omega)).1 (by omega) (ho i (by omega)).2 (by simp only [List.length_cons]; omega)) ?_
    conv => whnf
    rw [nI_1]
    exact ih (i + 1) (by omega)
set_option maxRecDepth 100000 in
theorem ct_write (hc : c < 20) (hW : W ≤ 8) (hS : S ≤ 300) (e7 : M.1 110 c = nI W) (e8 : M.1 111 c = nI S) (ho : ∀ j, j < S → bk_w W (op j) ∧ wrO M (300 * c + j) (op j)) : am_M (d + 3) false nm_X12_write [aR 108, aI (nI c)] M (am_q0 (wrW M ((48 + W) :: 58 :: txT op S))) := by
  have eW : (wrW M []).1 110 (nI c).toNatClampNeg = nI W := by
    rw [nI_clamp (by omega)]
    exact e7
  refine ⟨rfl, rfl, rfl, fun X hX => am_run hX 18 _ _ _ _ ?_⟩
  conv => whnf
  rw [wrW_0]
  refine ⟨vp_in_nI (by show c < 21; omega) (by decide), ?_⟩
  conv => whnf
  rw [eW, show (48 : Int32) = nI 48 from rfl, nI_add]
  refine am_c0 (ct_wput (d := d + 1) (by decide)) ?_
  conv => whnf
  rw [show (58 : Int32) = nI 58 from rfl]
  refine am_c0 (ct_wput (d := d + 1) (by simp)) ?_
  conv => whnf
  rw [show (300 : Int32) = nI 300 from rfl, nI_mul]
  exact wrl0 (d := d) (M := M) hX hc hW hS e8 ho ⟨rfl, rfl⟩ S 0 (by omega)
end WRU
