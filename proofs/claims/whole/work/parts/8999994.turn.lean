/-! TURN: the first program's eighths and putTurn; the second program's bases and eighths -/
section TRO
variable {d : Nat} {M : mm_M}
set_option maxRecDepth 100000 in
theorem pe_0 {l : List bk_X} {w : Nat} (hw : w < 8) (hl : l.length < 10000) : am_M (d + 2) false nm_X0_putEighths [aR 9, aI (nI w), aI (nI 0)] (dlM M l) (am_q0 (dlM M (l ++ eis 0 w))) := by
  refine ⟨rfl, rfl, rfl, fun X hX => am_run hX 60 _ _ _ _ ?_⟩
  conv => whnf
  refine ⟨fun c => absurd c (by decide), fun _ => ?_⟩
  conv => whnf
  refine ⟨fun _ => ?_, fun c => absurd (by decide) c⟩
  conv => whnf
  refine ⟨fun _ => ?_, fun c => absurd rfl c⟩
  conv => whnf
  rw [show l ++ eis 0 w = l from List.append_nil l]
  exact ⟨trivial, rfl, rfl⟩
set_option maxRecDepth 100000 in
theorem pe_1 {l : List bk_X} {w : Nat} (hw : w < 8) (hl : l.length < 10000) : am_M (d + 2) false nm_X0_putEighths [aR 9, aI (nI w), aI (nI 1)] (dlM M l) (am_q0 (dlM M (l ++ eis 1 w))) := by
  refine ⟨rfl, rfl, rfl, fun X hX => am_run hX 60 _ _ _ _ ?_⟩
  conv => whnf
  refine ⟨fun c => absurd c (by decide), fun _ => ?_⟩
  conv => whnf
  refine ⟨fun _ => ?_, fun c => absurd (by decide) c⟩
  conv => whnf
  refine ⟨fun c => absurd c (by decide), fun _ => ?_⟩
  conv => whnf
  refine ⟨vp_in_nI (n := 1) (N := 8) (by decide) (by decide), ?_⟩
  conv => whnf
  rw [show (fun j => xp_a0.getD j 0) (nI 1 &&& 7).toNatClampNeg = nI 5 from by decide]
  refine am_c1 (pk_1 (k := 5) (by decide) hw) ?_
  conv => whnf
  refine am_c0 (ct_putL rfl (by simp; omega)) ?_
  conv => whnf
  rw [show l ++ eis 1 w = l ++ [o1 5 w] from rfl]
  exact ⟨trivial, rfl, rfl⟩
set_option maxRecDepth 100000 in
theorem pe_2 {l : List bk_X} {w : Nat} (hw : w < 8) (hl : l.length < 10000) : am_M (d + 2) false nm_X0_putEighths [aR 9, aI (nI w), aI (nI 2)] (dlM M l) (am_q0 (dlM M (l ++ eis 2 w))) := by
  refine ⟨rfl, rfl, rfl, fun X hX => am_run hX 60 _ _ _ _ ?_⟩
  conv => whnf
  refine ⟨fun c => absurd c (by decide), fun _ => ?_⟩
  conv => whnf
  refine ⟨fun _ => ?_, fun c => absurd (by decide) c⟩
  conv => whnf
  refine ⟨fun c => absurd c (by decide), fun _ => ?_⟩
  conv => whnf
  refine ⟨vp_in_nI (n := 2) (N := 8) (by decide) (by decide), ?_⟩
  conv => whnf
  rw [show (fun j => xp_a0.getD j 0) (nI 2 &&& 7).toNatClampNeg = nI 4 from by decide]
  refine am_c1 (pk_1 (k := 4) (by decide) hw) ?_
  conv => whnf
  refine am_c0 (ct_putL rfl (by simp; omega)) ?_
  conv => whnf
  rw [show l ++ eis 2 w = l ++ [o1 4 w] from rfl]
  exact ⟨trivial, rfl, rfl⟩
set_option maxRecDepth 100000 in
theorem pe_3 {l : List bk_X} {w : Nat} (hw : w < 8) (hl : l.length < 10000) : am_M (d + 2) false nm_X0_putEighths [aR 9, aI (nI w), aI (nI 3)] (dlM M l) (am_q0 (dlM M (l ++ eis 3 w))) := by
  refine ⟨rfl, rfl, rfl, fun X hX => am_run hX 60 _ _ _ _ ?_⟩
  conv => whnf
  refine ⟨fun _ => ?_, fun c => absurd (by decide) c⟩
  conv => whnf
  refine ⟨fun c => absurd c (by decide), fun _ => ?_⟩
  conv => whnf
  refine am_c1 (pk_1 (k := 4) (by decide) hw) ?_
  conv => whnf
  refine am_c0 (ct_putL rfl (by simp; omega)) ?_
  conv => whnf
  refine am_c1 (pk_1 (k := 5) (by decide) hw) ?_
  conv => whnf
  refine am_c0 (ct_putL rfl (by simp; omega)) ?_
  conv => whnf
  rw [show l ++ eis 3 w = l ++ [o1 4 w] ++ [o1 5 w] from by rw [List.append_assoc]; rfl]
  exact ⟨trivial, rfl, rfl⟩
set_option maxRecDepth 100000 in
theorem pe_4 {l : List bk_X} {w : Nat} (hw : w < 8) (hl : l.length < 10000) : am_M (d + 2) false nm_X0_putEighths [aR 9, aI (nI w), aI (nI 4)] (dlM M l) (am_q0 (dlM M (l ++ eis 4 w))) := by
  refine ⟨rfl, rfl, rfl, fun X hX => am_run hX 60 _ _ _ _ ?_⟩
  conv => whnf
  refine ⟨fun c => absurd c (by decide), fun _ => ?_⟩
  conv => whnf
  refine ⟨fun _ => ?_, fun c => absurd (by decide) c⟩
  conv => whnf
  refine ⟨fun c => absurd c (by decide), fun _ => ?_⟩
  conv => whnf
  refine ⟨vp_in_nI (n := 4) (N := 8) (by decide) (by decide), ?_⟩
  conv => whnf
  rw [show (fun j => xp_a0.getD j 0) (nI 4 &&& 7).toNatClampNeg = nI 2 from by decide]
  refine am_c1 (pk_1 (k := 2) (by decide) hw) ?_
  conv => whnf
  refine am_c0 (ct_putL rfl (by simp; omega)) ?_
  conv => whnf
  rw [show l ++ eis 4 w = l ++ [o1 2 w] from rfl]
  exact ⟨trivial, rfl, rfl⟩
set_option maxRecDepth 100000 in
theorem pe_5 {l : List bk_X} {w : Nat} (hw : w < 8) (hl : l.length < 10000) : am_M (d + 2) false nm_X0_putEighths [aR 9, aI (nI w), aI (nI 5)] (dlM M l) (am_q0 (dlM M (l ++ eis 5 w))) := by
  refine ⟨rfl, rfl, rfl, fun X hX => am_run hX 60 _ _ _ _ ?_⟩
  conv => whnf
  refine ⟨fun c => absurd c (by decide), fun _ => ?_⟩
  conv => whnf
  refine ⟨fun c => absurd rfl c, fun _ => ?_⟩
  conv => whnf
  refine ⟨fun _ => ?_, fun c => absurd (by decide) c⟩
  conv => whnf
  refine am_c1 (pk_1 (k := 2) (by decide) hw) ?_
  conv => whnf
  refine am_c0 (ct_putL rfl (by simp; omega)) ?_
  conv => whnf
  refine am_c1 (pk_1 (k := 5) (by decide) hw) ?_
  conv => whnf
  refine am_c0 (ct_putL rfl (by simp; omega)) ?_
  conv => whnf
  rw [show l ++ eis 5 w = l ++ [o1 2 w] ++ [o1 5 w] from by rw [List.append_assoc]; rfl]
  exact ⟨trivial, rfl, rfl⟩
set_option maxRecDepth 100000 in
theorem pe_6 {l : List bk_X} {w : Nat} (hw : w < 8) (hl : l.length < 10000) : am_M (d + 2) false nm_X0_putEighths [aR 9, aI (nI w), aI (nI 6)] (dlM M l) (am_q0 (dlM M (l ++ eis 6 w))) := by
  refine ⟨rfl, rfl, rfl, fun X hX => am_run hX 60 _ _ _ _ ?_⟩
  conv => whnf
  refine ⟨fun c => absurd c (by decide), fun _ => ?_⟩
  conv => whnf
  refine ⟨fun _ => ?_, fun c => absurd (by decide) c⟩
  conv => whnf
  refine ⟨fun c => absurd c (by decide), fun _ => ?_⟩
  conv => whnf
  refine ⟨vp_in_nI (n := 6) (N := 8) (by decide) (by decide), ?_⟩
  conv => whnf
  rw [show (fun j => xp_a0.getD j 0) (nI 6 &&& 7).toNatClampNeg = nI 6 from by decide]
  refine am_c1 (pk_1 (k := 6) (by decide) hw) ?_
  conv => whnf
  refine am_c0 (ct_putL rfl (by simp; omega)) ?_
  conv => whnf
  rw [show l ++ eis 6 w = l ++ [o1 6 w] from rfl]
  exact ⟨trivial, rfl, rfl⟩
set_option maxRecDepth 100000 in
theorem pe_7 {l : List bk_X} {w : Nat} (hw : w < 8) (hl : l.length < 10000) : am_M (d + 2) false nm_X0_putEighths [aR 9, aI (nI w), aI (nI 7)] (dlM M l) (am_q0 (dlM M (l ++ eis 7 w))) := by
  refine ⟨rfl, rfl, rfl, fun X hX => am_run hX 60 _ _ _ _ ?_⟩
  conv => whnf
  refine ⟨fun c => absurd c (by decide), fun _ => ?_⟩
  conv => whnf
  refine ⟨fun _ => ?_, fun c => absurd (by decide) c⟩
  conv => whnf
  refine ⟨fun c => absurd c (by decide), fun _ => ?_⟩
  conv => whnf
  refine ⟨vp_in_nI (n := 7) (N := 8) (by decide) (by decide), ?_⟩
  conv => whnf
  rw [show (fun j => xp_a0.getD j 0) (nI 7 &&& 7).toNatClampNeg = nI 7 from by decide]
  refine am_c1 (pk_1 (k := 7) (by decide) hw) ?_
  conv => whnf
  refine am_c0 (ct_putL rfl (by simp; omega)) ?_
  conv => whnf
  rw [show l ++ eis 7 w = l ++ [o1 7 w] from rfl]
  exact ⟨trivial, rfl, rfl⟩
theorem ct_pe {l : List bk_X} {w e : Nat} (he : e < 8) (hw : w < 8) (hl : l.length < 10000) : am_M (d + 2) false nm_X0_putEighths [aR 9, aI (nI w), aI (nI e)] (dlM M l) (am_q0 (dlM M (l ++ eis e w))) := by
  rcases (by omega : e = 0 ∨ e = 1 ∨ e = 2 ∨ e = 3 ∨ e = 4 ∨ e = 5 ∨ e = 6 ∨ e = 7) with rfl | rfl | rfl | rfl | rfl | rfl | rfl | rfl
  · exact pe_0 hw hl
  · exact pe_1 hw hl
  · exact pe_2 hw hl
  · exact pe_3 hw hl
  · exact pe_4 hw hl
  · exact pe_5 hw hl
  · exact pe_6 hw hl
  · exact pe_7 hw hl
theorem eis_n (e w : Nat) : (eis e w).length ≤ 2 := by
  unfold eis
  split <;> simp
/-- all that turn puts behind the circuit -/
def trL (X Z e : Nat) : List bk_X := bs1 X Z 8 ++ ((ups (X ||| Z) 8).1 ++ (eis e ((ups (X ||| Z) 8).2 - 1) ++ (dns (X ||| Z) ((ups (X ||| Z) 8).2 - 1) ((ups (X ||| Z) 8).2 - 1) ++ bs2 X Z 8)))
set_option maxRecDepth 100000 in
theorem ct_ptn {X Z e : Nat} {l : List bk_X} (x8 : X < 256) (z8 : Z < 256) (s0 : X ||| Z ≠ 0) (he : e < 8) (hl : l.length < 900) : am_M (d + 3) false nm_X0_putTurn [aR 9, aI (nI X), aI (nI Z), aI (nI e)] (dlM M l) (am_q0 (dlM M (l ++ trL X Z e))) := by
  have s8 : X ||| Z < 256 := Nat.or_lt_two_pow (n := 8) x8 z8
  have ⟨w8, w1, w0⟩ := lw_p _ s8 s0
  have n1 := bs1_n X Z 8
  have n2 := ups_n (X ||| Z) 8
  have n3 := eis_n e ((ups (X ||| Z) 8).2 - 1)
  have ⟨u1, u2⟩ := ups_l w1 w8
  have n4 := dns_n (X ||| Z) ((ups (X ||| Z) 8).2 - 1) ((ups (X ||| Z) 8).2 - 1)
  have eu := ups_1 w1 w0
  refine ⟨rfl, rfl, rfl, fun Y hX => am_run hX 6 _ _ _ _ ?_⟩
  conv => whnf
  rw [nI_or]
  have k := tx_b1 (M := M) (l0 := l) (S := X ||| Z) (e := nI e) hX x8 z8 (by omega) (fun i _ => bs1_n X Z i) (fun l5 => ?_) 8 0 (by omega)
  · rw [show bs1 X Z 0 = [] from rfl, List.append_nil] at k
    exact k
  refine am_run hX 7 _ _ _ _ ?_
  conv => whnf
  refine am_c1 (ct_low (by omega) (by omega)) ?_
  conv => whnf
  rw [nI_1]
  have ku := tx_up (M := M) (X := X) (Z := Z) (e := nI e) (l0 := l ++ bs1 X Z 8) (w := lw (X ||| Z)) hX s8 (by simp; omega) w1 (fun l6 => ?_) (8 - (lw (X ||| Z) + 1)) (lw (X ||| Z) + 1) (by omega) (by omega)
  · rw [eu, List.append_nil] at ku
    exact ku
  refine am_run hX 8 _ _ _ _ ?_
  conv => whnf
  refine am_c0 (ct_pe he (by omega) (by simp; omega)) ?_
  conv => whnf
  refine tx_dn (M := M) (X := X) (Z := Z) (e := nI e) hX s8 ((ups (X ||| Z) 8).2 - 1) ((ups (X ||| Z) 8).2 - 1) _ _ (by omega) (by omega) (by simp; omega) rfl (fun q5 l6 => ?_)
  refine am_run hX 2 _ _ _ _ ?_
  conv => whnf
  have kb := tx_b2 (M := M) (S := X ||| Z) (e := nI e) (q5 := q5) (l0 := l ++ bs1 X Z 8 ++ (ups (X ||| Z) 8).1 ++ eis e ((ups (X ||| Z) 8).2 - 1) ++ dns (X ||| Z) ((ups (X ||| Z) 8).2 - 1) ((ups (X ||| Z) 8).2 - 1)) hX x8 z8 (by simp; omega) (fun i _ => bs2_n X Z i) (fun l6 => ?_) 8 0 (by omega)
  · rw [show bs2 X Z 0 = [] from rfl, List.append_nil] at kb
    exact kb
  refine am_run hX 1 _ _ _ _ ?_
  conv => whnf
  refine ⟨trivial, rfl, ?_⟩
  unfold trL
  simp only [List.append_assoc]
variable {n : Nat}
/-- one OP laid -/
theorem ly_1 {l : List bk_X} {k w : Nat} (h6 : M.1 108 6 = nI n) (hn : n < 20) (hk : k < 16) : am_M (d + 1) false nm_X12_lay [aR 108, aI (nI k), aI (nI w), aI 0, aI 0, aI 0, aI 0] (llM M n l) (am_q0 (llM M n (l ++ [o1 k w]))) := ct_layL (x := o1 k w) h6 hn hk
theorem ly_X {l : List bk_X} {w b : Nat} (h6 : M.1 108 6 = nI n) (hn : n < 20) : am_M (d + 1) false nm_X12_lay [aR 108, aI 0, aI (nI w), aI 0, aI (nI (2 ^ b)), aI 0, aI 0] (llM M n l) (am_q0 (llM M n (l ++ [oX w b]))) := ct_layL (x := oX w b) h6 hn (by show 0 < 16; decide)
set_option maxRecDepth 100000 in
theorem le_0 {l : List bk_X} {w : Nat} (h6 : M.1 108 6 = nI n) (hn : n < 20) : am_M (d + 2) false nm_X12_layEighths [aR 108, aI (nI 0), aI (nI w)] (llM M n l) (am_q0 (llM M n (l ++ eis 0 w))) := by
  refine ⟨rfl, rfl, rfl, fun X hX => am_run hX 90 _ _ _ _ ?_⟩
  conv => whnf
  refine ⟨fun _ => ?_, fun c => absurd (by decide) c⟩
  conv => whnf
  refine ⟨fun c => absurd c (by decide), fun _ => ?_⟩
  conv => whnf
  refine ⟨fun _ => ?_, fun c => absurd (by decide) c⟩
  conv => whnf
  refine ⟨fun c => absurd c (by decide), fun _ => ?_⟩
  conv => whnf
  refine ⟨fun c => absurd c (by decide), fun _ => ?_⟩
  conv => whnf
  refine ⟨fun _ => ?_, fun c => absurd (by decide) c⟩
  conv => whnf
  refine ⟨fun _ => ?_, fun c => absurd (by decide) c⟩
  conv => whnf
  refine ⟨fun _ => ?_, fun c => absurd (by decide) c⟩
  conv => whnf
  refine ⟨fun _ => ?_, fun c => absurd (by decide) c⟩
  conv => whnf
  rw [show l ++ eis 0 w = l from List.append_nil l]
  exact ⟨trivial, rfl, rfl⟩
set_option maxRecDepth 100000 in
theorem le_1 {l : List bk_X} {w : Nat} (h6 : M.1 108 6 = nI n) (hn : n < 20) : am_M (d + 2) false nm_X12_layEighths [aR 108, aI (nI 1), aI (nI w)] (llM M n l) (am_q0 (llM M n (l ++ eis 1 w))) := by
  refine ⟨rfl, rfl, rfl, fun X hX => am_run hX 90 _ _ _ _ ?_⟩
  conv => whnf
  refine ⟨fun _ => ?_, fun c => absurd (by decide) c⟩
  conv => whnf
  refine ⟨fun c => absurd c (by decide), fun _ => ?_⟩
  conv => whnf
  refine ⟨fun _ => ?_, fun c => absurd (by decide) c⟩
  conv => whnf
  refine ⟨fun _ => ?_, fun c => absurd (by decide) c⟩
  conv => whnf
  refine am_c0 (ly_1 (k := 5) h6 hn (by decide)) ?_
  conv => whnf
  refine ⟨fun _ => ?_, fun c => absurd (by decide) c⟩
  conv => whnf
  refine ⟨fun _ => ?_, fun c => absurd (by decide) c⟩
  conv => whnf
  refine ⟨fun _ => ?_, fun c => absurd (by decide) c⟩
  conv => whnf
  rw [show l ++ eis 1 w = l ++ [o1 5 w] from rfl]
  exact ⟨trivial, rfl, rfl⟩
set_option maxRecDepth 100000 in
theorem le_2 {l : List bk_X} {w : Nat} (h6 : M.1 108 6 = nI n) (hn : n < 20) : am_M (d + 2) false nm_X12_layEighths [aR 108, aI (nI 2), aI (nI w)] (llM M n l) (am_q0 (llM M n (l ++ eis 2 w))) := by
  refine ⟨rfl, rfl, rfl, fun X hX => am_run hX 90 _ _ _ _ ?_⟩
  conv => whnf
  refine ⟨fun _ => ?_, fun c => absurd (by decide) c⟩
  conv => whnf
  refine ⟨fun c => absurd c (by decide), fun _ => ?_⟩
  conv => whnf
  refine ⟨fun _ => ?_, fun c => absurd (by decide) c⟩
  conv => whnf
  refine ⟨fun c => absurd c (by decide), fun _ => ?_⟩
  conv => whnf
  refine ⟨fun c => absurd c (by decide), fun _ => ?_⟩
  conv => whnf
  refine ⟨fun _ => ?_, fun c => absurd (by decide) c⟩
  conv => whnf
  refine ⟨fun c => absurd rfl c, fun _ => ?_⟩
  conv => whnf
  refine am_c0 (ly_1 (k := 4) h6 hn (by decide)) ?_
  conv => whnf
  refine ⟨fun _ => ?_, fun c => absurd (by decide) c⟩
  conv => whnf
  refine ⟨fun _ => ?_, fun c => absurd (by decide) c⟩
  conv => whnf
  rw [show l ++ eis 2 w = l ++ [o1 4 w] from rfl]
  exact ⟨trivial, rfl, rfl⟩
set_option maxRecDepth 100000 in
theorem le_3 {l : List bk_X} {w : Nat} (h6 : M.1 108 6 = nI n) (hn : n < 20) : am_M (d + 2) false nm_X12_layEighths [aR 108, aI (nI 3), aI (nI w)] (llM M n l) (am_q0 (llM M n (l ++ eis 3 w))) := by
  refine ⟨rfl, rfl, rfl, fun X hX => am_run hX 90 _ _ _ _ ?_⟩
  conv => whnf
  refine ⟨fun c => absurd rfl c, fun _ => ?_⟩
  conv => whnf
  refine am_c0 (ly_1 (k := 4) h6 hn (by decide)) ?_
  conv => whnf
  refine ⟨fun c => absurd c (by decide), fun _ => ?_⟩
  conv => whnf
  refine ⟨fun _ => ?_, fun c => absurd (by decide) c⟩
  conv => whnf
  refine ⟨fun c => absurd c (by decide), fun _ => ?_⟩
  conv => whnf
  refine ⟨fun _ => ?_, fun c => absurd (by decide) c⟩
  conv => whnf
  refine am_c0 (ly_1 (k := 5) h6 hn (by decide)) ?_
  conv => whnf
  refine ⟨fun _ => ?_, fun c => absurd (by decide) c⟩
  conv => whnf
  refine ⟨fun _ => ?_, fun c => absurd (by decide) c⟩
  conv => whnf
  refine ⟨fun _ => ?_, fun c => absurd (by decide) c⟩
  conv => whnf
  rw [show l ++ eis 3 w = l ++ [o1 4 w] ++ [o1 5 w] from by rw [List.append_assoc]; rfl]
  exact ⟨trivial, rfl, rfl⟩
set_option maxRecDepth 100000 in
theorem le_4 {l : List bk_X} {w : Nat} (h6 : M.1 108 6 = nI n) (hn : n < 20) : am_M (d + 2) false nm_X12_layEighths [aR 108, aI (nI 4), aI (nI w)] (llM M n l) (am_q0 (llM M n (l ++ eis 4 w))) := by
  refine ⟨rfl, rfl, rfl, fun X hX => am_run hX 90 _ _ _ _ ?_⟩
  conv => whnf
  refine ⟨fun _ => ?_, fun c => absurd (by decide) c⟩
  conv => whnf
  refine ⟨fun _ => ?_, fun c => absurd (by decide) c⟩
  conv => whnf
  refine am_c0 (ly_1 (k := 2) h6 hn (by decide)) ?_
  conv => whnf
  refine ⟨fun c => absurd c (by decide), fun _ => ?_⟩
  conv => whnf
  refine ⟨fun c => absurd c (by decide), fun _ => ?_⟩
  conv => whnf
  refine ⟨fun _ => ?_, fun c => absurd (by decide) c⟩
  conv => whnf
  refine ⟨fun _ => ?_, fun c => absurd (by decide) c⟩
  conv => whnf
  refine ⟨fun _ => ?_, fun c => absurd (by decide) c⟩
  conv => whnf
  refine ⟨fun _ => ?_, fun c => absurd (by decide) c⟩
  conv => whnf
  rw [show l ++ eis 4 w = l ++ [o1 2 w] from rfl]
  exact ⟨trivial, rfl, rfl⟩
set_option maxRecDepth 100000 in
theorem le_5 {l : List bk_X} {w : Nat} (h6 : M.1 108 6 = nI n) (hn : n < 20) : am_M (d + 2) false nm_X12_layEighths [aR 108, aI (nI 5), aI (nI w)] (llM M n l) (am_q0 (llM M n (l ++ eis 5 w))) := by
  refine ⟨rfl, rfl, rfl, fun X hX => am_run hX 90 _ _ _ _ ?_⟩
  conv => whnf
  refine ⟨fun _ => ?_, fun c => absurd (by decide) c⟩
  conv => whnf
  refine ⟨fun c => absurd c (by decide), fun _ => ?_⟩
  conv => whnf
  refine ⟨fun c => absurd rfl c, fun _ => ?_⟩
  conv => whnf
  refine am_c0 (ly_1 (k := 2) h6 hn (by decide)) ?_
  conv => whnf
  refine ⟨fun c => absurd c (by decide), fun _ => ?_⟩
  conv => whnf
  refine ⟨fun c => absurd c (by decide), fun _ => ?_⟩
  conv => whnf
  refine ⟨fun c => absurd rfl c, fun _ => ?_⟩
  conv => whnf
  refine am_c0 (ly_1 (k := 5) h6 hn (by decide)) ?_
  conv => whnf
  refine ⟨fun _ => ?_, fun c => absurd (by decide) c⟩
  conv => whnf
  refine ⟨fun _ => ?_, fun c => absurd (by decide) c⟩
  conv => whnf
  refine ⟨fun _ => ?_, fun c => absurd (by decide) c⟩
  conv => whnf
  rw [show l ++ eis 5 w = l ++ [o1 2 w] ++ [o1 5 w] from by rw [List.append_assoc]; rfl]
  exact ⟨trivial, rfl, rfl⟩
set_option maxRecDepth 100000 in
theorem le_6 {l : List bk_X} {w : Nat} (h6 : M.1 108 6 = nI n) (hn : n < 20) : am_M (d + 2) false nm_X12_layEighths [aR 108, aI (nI 6), aI (nI w)] (llM M n l) (am_q0 (llM M n (l ++ eis 6 w))) := by
  refine ⟨rfl, rfl, rfl, fun X hX => am_run hX 90 _ _ _ _ ?_⟩
  conv => whnf
  refine ⟨fun _ => ?_, fun c => absurd (by decide) c⟩
  conv => whnf
  refine ⟨fun c => absurd c (by decide), fun _ => ?_⟩
  conv => whnf
  refine ⟨fun _ => ?_, fun c => absurd (by decide) c⟩
  conv => whnf
  refine ⟨fun c => absurd c (by decide), fun _ => ?_⟩
  conv => whnf
  refine ⟨fun c => absurd c (by decide), fun _ => ?_⟩
  conv => whnf
  refine ⟨fun _ => ?_, fun c => absurd (by decide) c⟩
  conv => whnf
  refine ⟨fun _ => ?_, fun c => absurd (by decide) c⟩
  conv => whnf
  refine ⟨fun c => absurd rfl c, fun _ => ?_⟩
  conv => whnf
  refine am_c0 (ly_1 (k := 6) h6 hn (by decide)) ?_
  conv => whnf
  refine ⟨fun _ => ?_, fun c => absurd (by decide) c⟩
  conv => whnf
  rw [show l ++ eis 6 w = l ++ [o1 6 w] from rfl]
  exact ⟨trivial, rfl, rfl⟩
set_option maxRecDepth 100000 in
theorem le_7 {l : List bk_X} {w : Nat} (h6 : M.1 108 6 = nI n) (hn : n < 20) : am_M (d + 2) false nm_X12_layEighths [aR 108, aI (nI 7), aI (nI w)] (llM M n l) (am_q0 (llM M n (l ++ eis 7 w))) := by
  refine ⟨rfl, rfl, rfl, fun X hX => am_run hX 90 _ _ _ _ ?_⟩
  conv => whnf
  refine ⟨fun _ => ?_, fun c => absurd (by decide) c⟩
  conv => whnf
  refine ⟨fun c => absurd c (by decide), fun _ => ?_⟩
  conv => whnf
  refine ⟨fun _ => ?_, fun c => absurd (by decide) c⟩
  conv => whnf
  refine ⟨fun c => absurd c (by decide), fun _ => ?_⟩
  conv => whnf
  refine ⟨fun c => absurd c (by decide), fun _ => ?_⟩
  conv => whnf
  refine ⟨fun _ => ?_, fun c => absurd (by decide) c⟩
  conv => whnf
  refine ⟨fun _ => ?_, fun c => absurd (by decide) c⟩
  conv => whnf
  refine ⟨fun _ => ?_, fun c => absurd (by decide) c⟩
  conv => whnf
  refine ⟨fun c => absurd rfl c, fun _ => ?_⟩
  conv => whnf
  refine am_c0 (ly_1 (k := 7) h6 hn (by decide)) ?_
  conv => whnf
  rw [show l ++ eis 7 w = l ++ [o1 7 w] from rfl]
  exact ⟨trivial, rfl, rfl⟩
theorem ct_le {l : List bk_X} {w e : Nat} (h6 : M.1 108 6 = nI n) (hn : n < 20) (he : e < 8) : am_M (d + 2) false nm_X12_layEighths [aR 108, aI (nI e), aI (nI w)] (llM M n l) (am_q0 (llM M n (l ++ eis e w))) := by
  rcases (by omega : e = 0 ∨ e = 1 ∨ e = 2 ∨ e = 3 ∨ e = 4 ∨ e = 5 ∨ e = 6 ∨ e = 7) with rfl | rfl | rfl | rfl | rfl | rfl | rfl | rfl
  · exact le_0 h6 hn
  · exact le_1 h6 hn
  · exact le_2 h6 hn
  · exact le_3 h6 hn
  · exact le_4 h6 hn
  · exact le_5 h6 hn
  · exact le_6 h6 hn
  · exact le_7 h6 hn
end TRO
