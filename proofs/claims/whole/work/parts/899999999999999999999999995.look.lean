/-! the pairs look, written -/
section LKP
variable {d : Nat} {M : mm_M} {n c W S : Nat} {op : Nat → bk_X}
set_option maxRecDepth 100000 in
theorem hb_l {P : am_Q} {X : am_X} (hX : am_K (d + 1) false nm_X0_hsIn P X) (hc : c < 20) (hW : W ≤ 8) (hS : S ≤ 300) (ho : ∀ j, j < S → bk_w W (op j) ∧ bk_o M (300 * c + j) (op j)) (hP : P (.inl (some (aI (nI (hcn op S))))) M) : ∀ (m i : Nat), i + m = S → X 5 [some (aR 10), some (aI (nI (300 * c))), some (aI (nI (300 * c + S))), some (aI (nI (hcn op i))), some (aI (nI (300 * c + i)))] [] M := by
  intro m
  induction m with
  | zero =>
    intro i hi
    obtain rfl : i = S := by omega
    refine am_run hX 5 _ _ _ _ ?_
    conv => whnf
    refine ⟨fun _ => ?_, fun c => absurd (nI_le (Nat.le_refl _) (by omega)) c⟩
    conv => whnf
    exact ⟨trivial, hP⟩
  | succ m ih =>
    intro i hi
    have ih := ih (i + 1) (by omega)
    have e : hcn op (i + 1) = hcn op i + (if (op i).1 = 3 then 1 else 0) := rfl
    obtain ⟨ow, oe⟩ := ho i (by omega)
    have e10 : M.1 10 (nI (300 * c + i)).toNatClampNeg = nI (bk_p (op i)) := by
      rw [nI_clamp (by omega)]
      exact oe.1
    have k3 : nI (op i).1 = 3 ↔ (op i).1 = 3 := (by decide +kernel : ∀ k, k ≤ 10 → (nI k = 3 ↔ k = 3)) _ ow.1
    rw [e] at ih
    refine am_run hX 3 _ _ _ _ ?_
    conv => whnf
    refine ⟨fun c => absurd c (nI_ge (by omega) (by omega)), fun _ => ?_⟩
    refine am_run hX 4 _ _ _ _ ?_
    conv => whnf
    refine ⟨fun z => absurd z (nI_ge (a := 300 * c + i) (b := 6000) (by omega) (by decide)), fun _ => ?_⟩
    refine am_run hX 7 _ _ _ _ ?_
    conv => whnf
    refine ⟨vp_in_nI (by show 300 * c + i < 6000; omega) (by decide), ?_⟩
    conv => whnf
    rw [e10]
    refine am_c1 ct_kind ?_
    rw [bk_k hW ow]
    conv => whnf
    refine ⟨fun z => ?_, fun z => ?_⟩
    · rw [if_neg (fun y => z (k3.mpr y))] at ih
      refine am_run hX 5 _ _ _ _ ?_
      conv => whnf
      rw [nI_1, show nI (hcn op i) + 0 = nI (hcn op i + 0) from nI_add _ 0]
      exact ih
    · rw [if_pos (k3.mp (Decidable.byContradiction z))] at ih
      refine am_run hX 6 _ _ _ _ ?_
      conv => whnf
      rw [nI_1, nI_1]
      exact ih
set_option maxRecDepth 100000 in
theorem ct_countH (h : bk_iv M n) (hc : c < n) (hS : bk_c M c W S) (ho : ∀ j, j < S → bk_w W (op j) ∧ bk_o M (300 * c + j) (op j)) : am_M (d + 3) false nm_X0_countHs [aR 9, aI (nI c)] M (am_q1 (aI (nI (hcn op S))) M) := by
  have hn := h.1
  refine ⟨rfl, rfl, rfl, fun X hX => am_run hX 20 _ _ _ _ ?_⟩
  conv => whnf
  refine ⟨vp_in_nI (by show c < 20; omega) (by decide), ?_⟩
  conv => whnf
  rw [nI_clamp (n := c) (by omega), hS.2.2.2.2.2.1, show (300 : Int32) = nI 300 from rfl, nI_mul, nI_add, Nat.mul_comm c 300]
  refine am_c1 (v := aI (nI (hcn op S))) (M1 := M) (show am_M (d + 2) false nm_X0_hsIn [aR 10, aI (nI (300 * c)), aI (nI (300 * c + S))] M (am_q1 (aI (nI (hcn op S))) M) from ?_) ?_
  · refine ⟨rfl, rfl, rfl, fun X hX => am_run hX 4 _ _ _ _ ?_⟩
    conv => whnf
    exact hb_l (d := d) hX (by omega) hS.2.1 hS.2.2.1 ho ⟨rfl, rfl⟩ S 0 (by omega)
  conv => whnf
  exact ⟨trivial, rfl, rfl⟩
set_option maxRecDepth 100000 in
theorem tu_l {P : am_Q} {X : am_X} (hX : am_K d false nm_X12_turnsOf P X) (hc : c < 20) (hS : S ≤ 300) (e8 : M.1 111 c = nI S) (ho : ∀ j, j < S → (op j).1 ≤ 10 ∧ M.1 112 (300 * c + j) = nI (op j).1) (hP : P (.inl (some (aI (nI (hcn op S))))) M) : ∀ (m i : Nat), i + m = S → X 8 [some (aR 108), some (aI (nI c)), some (aI (nI (hcn op i))), some (aI (nI (300 * c + i)))] [] M := by
  have eS : M.1 111 (nI c).toNatClampNeg = nI S := by
    rw [nI_clamp (by omega)]
    exact e8
  intro m
  induction m with
  | zero =>
    intro i hi
    obtain rfl : i = S := by omega
    refine am_run hX 12 _ _ _ _ ?_
    conv => whnf
    refine ⟨vp_in_nI (by show c < 21; omega) (by decide), ?_⟩
    conv => whnf
    rw [eS, show (300 : Int32) = nI 300 from rfl, nI_mul, nI_add]
    refine ⟨fun _ => ?_, fun c => absurd (nI_le (Nat.le_refl _) (by omega)) c⟩
    conv => whnf
    exact ⟨trivial, hP⟩
  | succ m ih =>
    intro i hi
    have ih := ih (i + 1) (by omega)
    have e : hcn op (i + 1) = hcn op i + (if (op i).1 = 3 then 1 else 0) := rfl
    obtain ⟨o10, oe⟩ := ho i (by omega)
    have e10 : M.1 112 (nI (300 * c + i)).toNatClampNeg = nI (op i).1 := by
      rw [nI_clamp (by omega)]
      exact oe
    have k3 : nI (op i).1 = 3 ↔ (op i).1 = 3 := (by decide +kernel : ∀ k, k ≤ 10 → (nI k = 3 ↔ k = 3)) _ o10
    rw [e] at ih
    refine am_run hX 10 _ _ _ _ ?_
    conv => whnf
    refine ⟨vp_in_nI (by show c < 21; omega) (by decide), ?_⟩
    conv => whnf
    rw [eS, show (300 : Int32) = nI 300 from rfl, nI_mul, nI_add]
    refine ⟨fun z => absurd z (nI_ge (by omega) (by omega)), fun _ => ?_⟩
    refine am_run hX 7 _ _ _ _ ?_
    conv => whnf
    refine ⟨vp_in_nI (by show 300 * c + i < 6300; omega) (by decide), ?_⟩
    conv => whnf
    rw [e10]
    refine ⟨fun z => ?_, fun z => ?_⟩
    · rw [if_neg (fun y => z (k3.mpr y))] at ih
      refine am_run hX 5 _ _ _ _ ?_
      conv => whnf
      rw [nI_1, show nI (hcn op i) + 0 = nI (hcn op i + 0) from nI_add _ 0]
      exact ih
    · rw [if_pos (k3.mp (Decidable.byContradiction z))] at ih
      refine am_run hX 6 _ _ _ _ ?_
      conv => whnf
      rw [nI_1, nI_1]
      exact ih
set_option maxRecDepth 100000 in
theorem ct_turns (hc : c < 20) (hS : S ≤ 300) (e8 : M.1 111 c = nI S) (ho : ∀ j, j < S → (op j).1 ≤ 10 ∧ M.1 112 (300 * c + j) = nI (op j).1) : am_M (d + 1) false nm_X12_turnsOf [aR 108, aI (nI c)] M (am_q1 (aI (nI (hcn op S))) M) := by
  refine ⟨rfl, rfl, rfl, fun X hX => am_run hX 6 _ _ _ _ ?_⟩
  conv => whnf
  rw [show (300 : Int32) = nI 300 from rfl, nI_mul]
  exact tu_l (d := d) hX hc hS e8 ho ⟨rfl, rfl⟩ S 0 (by omega)
/-- what look tells -/
def lkV (W S : Nat) (op : Nat → bk_X) (w : Int32) : Int32 := if w = 0 then nI W else if w = 1 then nI S else if w = 2 then nI (hcn op S) else if w = 3 then nI (2 + (txT op S).length) else -1
set_option maxRecDepth 100000 in
theorem lk_c (w : Int32) (h : bk_iv M n) (hc : c < n) (hS : bk_c M c W S) (ho : ∀ j, j < S → bk_w W (op j) ∧ bk_o M (300 * c + j) (op j)) : am_M (d + 7) false nm_X11_look [aR 0, aI (nI c), aI w] M (fun r M' => r = .inl (some (aI (lkV W S op w))) ∧ ∃ f, M' = mm_i M 14 f) := by
  have hn := h.1
  have e0 : ∃ f, M = mm_i M 14 f := ⟨M.1 14, (mm_iz M 14).symm⟩
  refine ⟨rfl, rfl, rfl, fun X hX => am_run hX 30 _ _ _ _ ?_⟩
  conv => whnf
  refine am_c1 (bk_has (d := d + 5) (nI c)) ?_
  rw [h.2.1, if_neg (bk_yes h.1 hc)]
  conv => whnf
  refine ⟨fun _ => ?_, fun c => absurd (by decide) c⟩
  conv => whnf
  refine ⟨fun w0 => ?_, fun w0 => ?_⟩
  · conv => whnf
    refine ⟨vp_in_nI (by show c < 20; omega) (by decide), ?_⟩
    conv => whnf
    rw [nI_clamp (n := c) (by omega), hS.2.2.2.1]
    exact ⟨trivial, by unfold lkV; rw [if_pos w0], e0⟩
  conv => whnf
  refine ⟨fun w1 => ?_, fun w1 => ?_⟩
  · conv => whnf
    refine ⟨vp_in_nI (by show c < 20; omega) (by decide), ?_⟩
    conv => whnf
    rw [nI_clamp (n := c) (by omega), hS.2.2.2.2.2.1]
    exact ⟨trivial, by unfold lkV; rw [if_neg w0, if_pos w1], e0⟩
  conv => whnf
  refine ⟨fun w2 => ?_, fun w2 => ?_⟩
  · conv => whnf
    refine am_c1 (ct_countH (d := d + 3) h hc hS ho) ?_
    conv => whnf
    exact ⟨trivial, by unfold lkV; rw [if_neg w0, if_neg w1, if_pos w2], e0⟩
  conv => whnf
  refine ⟨fun w3 => ?_, fun w3 => ?_⟩
  · conv => whnf
    refine am_cq (ct_spLen (d := d) h hc hS ho) fun r M' q => ⟨_, q.1, ?_⟩
    conv => whnf
    exact ⟨trivial, by unfold lkV; rw [if_neg w0, if_neg w1, if_neg w2, if_pos w3], q.2⟩
  conv => whnf
  exact ⟨trivial, by unfold lkV; rw [if_neg w0, if_neg w1, if_neg w2, if_neg w3], e0⟩
theorem wrO_of {a : Nat} {x : bk_X} (h : bk_o M a x) : wrO (th0 M) a x := h.2
set_option maxRecDepth 100000 in
theorem lk_r (w : Int32) (h : bk_iv M n) (hc : c < n) (hS : bk_c M c W S) (ho : ∀ j, j < S → bk_w W (op j) ∧ bk_o M (300 * c + j) (op j)) : am_M (d + 7) false nm_X12_look [aR 108, aI (nI c), aI w] M (fun r M' => r = .inl (some (aI (lkV W S op w))) ∧ (M' = th0 M ∨ ∃ l, M' = wrW (th0 M) l)) := by
  have hn := h.1
  have e6 : (th0 M).1 108 6 = nI n := h.2.2.1
  refine ⟨rfl, rfl, rfl, fun X hX => am_run hX 40 _ _ _ _ ?_⟩
  conv => whnf
  refine am_c1 (bk_isc (d := d + 5) (M := th0 M) (nI c)) ?_
  rw [e6, if_neg (bk_yes h.1 hc)]
  conv => whnf
  refine ⟨fun _ => ?_, fun c => absurd (by decide) c⟩
  conv => whnf
  refine ⟨fun w0 => ?_, fun w0 => ?_⟩
  · conv => whnf
    refine ⟨vp_in_nI (by show c < 21; omega) (by decide), ?_⟩
    conv => whnf
    rw [nI_clamp (n := c) (by omega), show (th0 M).1 110 c = nI W from hS.2.2.2.2.1]
    exact ⟨trivial, by unfold lkV; rw [if_pos w0], Or.inl rfl⟩
  conv => whnf
  refine ⟨fun w1 => ?_, fun w1 => ?_⟩
  · conv => whnf
    refine ⟨vp_in_nI (by show c < 21; omega) (by decide), ?_⟩
    conv => whnf
    rw [nI_clamp (n := c) (by omega), show (th0 M).1 111 c = nI S from hS.2.2.2.2.2.2.1]
    exact ⟨trivial, by unfold lkV; rw [if_neg w0, if_pos w1], Or.inl rfl⟩
  conv => whnf
  refine ⟨fun w2 => ?_, fun w2 => ?_⟩
  · conv => whnf
    refine am_c1 (ct_turns (d := d + 5) (M := th0 M) (by omega) hS.2.2.1 hS.2.2.2.2.2.2.1 (fun j hj => ⟨(ho j hj).1.1, (ho j hj).2.2.1⟩)) ?_
    conv => whnf
    exact ⟨trivial, by unfold lkV; rw [if_neg w0, if_neg w1, if_pos w2], Or.inl rfl⟩
  conv => whnf
  refine ⟨fun w3 => ?_, fun w3 => ?_⟩
  · conv => whnf
    refine am_c0 (ct_write (d := d + 3) (M := th0 M) (by omega) hS.2.1 hS.2.2.1 hS.2.2.2.2.1 hS.2.2.2.2.2.2.1 (fun j hj => ⟨(ho j hj).1, wrO_of (ho j hj).2⟩)) ?_
    conv => whnf
    refine ⟨trivial, ?_, Or.inr ⟨_, rfl⟩⟩
    unfold lkV
    rw [if_neg w0, if_neg w1, if_neg w2, if_pos w3]
    have : (wrW (th0 M) ((48 + W) :: 58 :: txT op S)).1 108 40 = nI (2 + (txT op S).length) := by
      show nI ((48 + W) :: 58 :: txT op S).length = _
      rw [List.length_cons, List.length_cons, Nat.add_comm 2]
    rw [this]
  conv => whnf
  exact ⟨trivial, by unfold lkV; rw [if_neg w0, if_neg w1, if_neg w2, if_neg w3], Or.inl rfl⟩
set_option maxRecDepth 100000 in
theorem lk_c0 {p w : Int32} (h : bk_iv M n) (hp : p < 0 ∨ nI n ≤ p) : am_M (d + 7) false nm_X11_look [aR 0, aI p, aI w] M (am_q1 (aI (-1)) M) := by
  refine ⟨rfl, rfl, rfl, fun X hX => am_run hX 30 _ _ _ _ ?_⟩
  conv => whnf
  refine am_c1 (bk_has (d := d + 5) p) ?_
  rw [h.2.1, if_pos hp]
  conv => whnf
  refine ⟨fun c => absurd rfl c, fun _ => ?_⟩
  conv => whnf
  exact ⟨trivial, rfl, rfl⟩
set_option maxRecDepth 100000 in
theorem lk_r0 {p w : Int32} (h : bk_iv M n) (hp : p < 0 ∨ nI n ≤ p) : am_M (d + 7) false nm_X12_look [aR 108, aI p, aI w] M (am_q1 (aI (-1)) (th0 M)) := by
  have e6 : (th0 M).1 108 6 = nI n := h.2.2.1
  refine ⟨rfl, rfl, rfl, fun X hX => am_run hX 40 _ _ _ _ ?_⟩
  conv => whnf
  refine am_c1 (bk_isc (d := d + 5) (M := th0 M) p) ?_
  rw [e6, if_pos hp]
  conv => whnf
  refine ⟨fun c => absurd rfl c, fun _ => ?_⟩
  conv => whnf
  exact ⟨trivial, rfl, rfl⟩
set_option maxRecDepth 100000 in
theorem wtt_c (k : Int32) (h : bk_iv M n) (hc : c < n) (hS : bk_c M c W S) (ho : ∀ j, j < S → bk_w W (op j) ∧ bk_o M (300 * c + j) (op j)) : am_M (d + 7) false nm_X11_written [aR 0, aI (nI c), aI k] M (fun r M' => r = .inl (some (aI (txV W (txT op S) k))) ∧ ∃ f, M' = mm_i M 14 f) := by
  refine ⟨rfl, rfl, rfl, fun X hX => am_run hX 30 _ _ _ _ ?_⟩
  conv => whnf
  refine am_c1 (bk_has (d := d + 5) (nI c)) ?_
  rw [h.2.1, if_neg (bk_yes h.1 hc)]
  conv => whnf
  refine ⟨fun c => absurd c (by decide), fun _ => ?_⟩
  conv => whnf
  refine am_cq (ct_spAt (d := d) k h hc hS ho) fun r M' q => ⟨_, q.1, ?_⟩
  conv => whnf
  exact ⟨trivial, rfl, q.2⟩
set_option maxRecDepth 100000 in
theorem wt_c0 {p w : Int32} (h : bk_iv M n) (hp : p < 0 ∨ nI n ≤ p) : am_M (d + 7) false nm_X11_written [aR 0, aI p, aI w] M (am_q1 (aI (-1)) M) := by
  refine ⟨rfl, rfl, rfl, fun X hX => am_run hX 30 _ _ _ _ ?_⟩
  conv => whnf
  refine am_c1 (bk_has (d := d + 5) p) ?_
  rw [h.2.1, if_pos hp]
  conv => whnf
  refine ⟨fun _ => ?_, fun c => absurd rfl c⟩
  conv => whnf
  exact ⟨trivial, rfl, rfl⟩
set_option maxRecDepth 100000 in
theorem wt_r0 {p w : Int32} (h : bk_iv M n) (hp : p < 0 ∨ nI n ≤ p) : am_M (d + 7) false nm_X12_written [aR 108, aI p, aI w] M (am_q1 (aI (-1)) (th0 M)) := by
  have e6 : (th0 M).1 108 6 = nI n := h.2.2.1
  refine ⟨rfl, rfl, rfl, fun X hX => am_run hX 40 _ _ _ _ ?_⟩
  conv => whnf
  refine am_c1 (bk_isc (d := d + 5) (M := th0 M) p) ?_
  rw [e6, if_pos hp]
  conv => whnf
  refine ⟨fun c => absurd rfl c, fun _ => ?_⟩
  conv => whnf
  exact ⟨trivial, rfl, rfl⟩
set_option maxRecDepth 100000 in
theorem wt_r (k : Int32) (h : bk_iv M n) (hc : c < n) (hS : bk_c M c W S) (ho : ∀ j, j < S → bk_w W (op j) ∧ bk_o M (300 * c + j) (op j)) : am_M (d + 7) false nm_X12_written [aR 108, aI (nI c), aI k] M (fun r M' => r = .inl (some (aI (txV W (txT op S) k))) ∧ ∃ l, M' = wrW (th0 M) l) := by
  have hn := h.1
  have hl := txT_len op S
  have hs := hS.2.2.1
  have e6 : (th0 M).1 108 6 = nI n := h.2.2.1
  have e40 : (wrW (th0 M) ((48 + W) :: 58 :: txT op S)).1 108 40 = nI ((txT op S).length + 2) := rfl
  refine ⟨rfl, rfl, rfl, fun X hX => am_run hX 40 _ _ _ _ ?_⟩
  conv => whnf
  refine am_c1 (bk_isc (d := d + 5) (M := th0 M) (nI c)) ?_
  rw [e6, if_neg (bk_yes h.1 hc)]
  conv => whnf
  refine ⟨fun _ => ?_, fun c => absurd (by decide) c⟩
  conv => whnf
  refine am_c0 (ct_write (d := d + 3) (M := th0 M) (by omega) hS.2.1 hS.2.2.1 hS.2.2.2.2.1 hS.2.2.2.2.2.2.1 (fun j hj => ⟨(ho j hj).1, wrO_of (ho j hj).2⟩)) ?_
  conv => whnf
  refine ⟨fun z => ?_, fun z => ?_⟩
  · conv => whnf
    exact ⟨trivial, by unfold txV; rw [if_pos z], _, rfl⟩
  obtain ⟨j, hj, rfl⟩ := nI_of z
  conv => whnf
  rw [e40]
  refine ⟨fun y => ?_, fun y => ?_⟩
  · have hj2 : j < (txT op S).length + 2 := by
      rcases Nat.lt_or_ge j ((txT op S).length + 2) with q | q
      · exact q
      · exact absurd y (nI_nlt q hj)
    conv => whnf
    refine ⟨vp_in_nI (by show j < 18000; omega) (by decide), ?_⟩
    conv => whnf
    refine ⟨trivial, ?_, _, rfl⟩
    unfold txV
    rw [if_neg z, if_pos y, nI_clamp hj]
    have : (wrW (th0 M) ((48 + W) :: 58 :: txT op S)).1 132 j = nI (((48 + W) :: 58 :: txT op S).getD j 0) := by
      unfold wrW
      rw [mm_ne _ _ _ _ (by decide), mm_i1, if_pos (by simp only [List.length_cons]; omega)]
    rw [this]
  · conv => whnf
    exact ⟨trivial, by unfold txV; rw [if_neg z, if_neg y], _, rfl⟩
end LKP
section LKQ
variable {ac : Nat → ClassId} {lo : Nat} {ad as : Nat → Nat} {b L : Nat} {xs : Nat → Int32} {hp : mm_M → Nat → xm_H} {I J : mm_M → Prop}
theorem pr_look (H : mm_L ac lo hp) (h1 : ∀ M, I M → ∃ n, bk_iv M n) (hJ0 : ∀ M f, I M → J (th0 (mm_i M 14 f))) (hJ1 : ∀ M f l, I M → J (wrW (th0 (mm_i M 14 f)) l)) (p w : Int32) : la_I ac lo ad as b L xs hp I J nm_X11_look nm_X12_look [.int p, .int w] := by
  refine am_la_I (us := [aI p, aI w]) H fun M hI => ?_
  obtain ⟨n, h⟩ := h1 M hI
  rcases bk_no (p := p) h.1 with hx | ⟨c, hc, rfl⟩
  · refine am_wk (lk_c0 (d := 993) h hx) fun r M1 e => ⟨-1, e.1, ?_⟩
    rw [e.2]
    refine am_wk (lk_r0 (d := 993) h hx) fun r M1 e => ⟨e.1, ?_⟩
    have := hJ0 M (M.1 14) hI
    rw [mm_iz] at this
    rw [e.2]
    exact this
  · obtain ⟨W, S, hS⟩ := h.2.2.2 c hc
    obtain ⟨op, ho⟩ := tx_op hS
    refine am_wk (lk_c (d := 993) w h hc hS ho) fun r M1 e => ⟨_, e.1, ?_⟩
    obtain ⟨f, e2⟩ := e.2
    subst e2
    refine am_wk (lk_r (d := 993) (M := mm_i M 14 f) (n := n) (c := c) (W := W) (S := S) (op := op) w h hc hS ho) fun r M1 e => ⟨e.1, ?_⟩
    rcases e.2 with e3 | ⟨l, e3⟩
    · rw [e3]; exact hJ0 M f hI
    · rw [e3]; exact hJ1 M f l hI
theorem pr_written (H : mm_L ac lo hp) (h1 : ∀ M, I M → ∃ n, bk_iv M n) (hJ0 : ∀ M f, I M → J (th0 (mm_i M 14 f))) (hJ1 : ∀ M f l, I M → J (wrW (th0 (mm_i M 14 f)) l)) (p w : Int32) : la_I ac lo ad as b L xs hp I J nm_X11_written nm_X12_written [.int p, .int w] := by
  refine am_la_I (us := [aI p, aI w]) H fun M hI => ?_
  obtain ⟨n, h⟩ := h1 M hI
  rcases bk_no (p := p) h.1 with hx | ⟨c, hc, rfl⟩
  · refine am_wk (wt_c0 (d := 993) h hx) fun r M1 e => ⟨-1, e.1, ?_⟩
    rw [e.2]
    refine am_wk (wt_r0 (d := 993) h hx) fun r M1 e => ⟨e.1, ?_⟩
    have := hJ0 M (M.1 14) hI
    rw [mm_iz] at this
    rw [e.2]
    exact this
  · obtain ⟨W, S, hS⟩ := h.2.2.2 c hc
    obtain ⟨op, ho⟩ := tx_op hS
    refine am_wk (wtt_c (d := 993) w h hc hS ho) fun r M1 e => ⟨_, e.1, ?_⟩
    obtain ⟨f, e2⟩ := e.2
    subst e2
    refine am_wk (wt_r (d := 993) (M := mm_i M 14 f) (n := n) (c := c) (W := W) (S := S) (op := op) w h hc hS ho) fun r M1 e => ⟨e.1, ?_⟩
    obtain ⟨l, e3⟩ := e.2
    rw [e3]
    exact hJ1 M f l hI
end LKQ
