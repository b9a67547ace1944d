/-! TURN: the first program, the pair -/
section TRR
variable {d : Nat} {M : mm_M} {n c W X Z e : Nat} {l : List bk_X}
theorem us_0 {S W : Nat} (hS : S < 2 ^ 32) (hW : W ≤ 8) : ((nI S).toUInt32 >>> ((nI W).toUInt32 &&& Int32.toUInt32 31)).toInt32 = 0 ↔ S < 2 ^ W := by
  have e := nI_us hS W (by omega)
  rw [e]
  have p : 0 < 2 ^ W := Nat.pow_pos (by decide)
  have l : S / 2 ^ W < 2 ^ 32 := Nat.lt_of_le_of_lt (Nat.div_le_self _ _) hS
  constructor
  · intro h
    have h0 : S / 2 ^ W = 0 := by
      have b := congrArg (fun v : Int32 => v.toBitVec.toNat) h
      have b2 : (BitVec.ofNat 32 (S / 2 ^ W)).toNat = 0 := b
      rw [BitVec.toNat_ofNat, Nat.mod_eq_of_lt l] at b2
      exact b2
    exact Nat.lt_of_not_le fun q => by
      have := Nat.div_pos q p
      omega
  · intro h
    rw [Nat.div_eq_of_lt h]
    rfl
set_option maxRecDepth 100000 in
theorem tn_x1 (hb : bk_iv M n) (hc : c < n) (hC : bk_c M c W l.length) (hl : opsL M c W l) (hX : X < 2 ^ W) (hZ : Z < 2 ^ W) (s0 : X ||| Z ≠ 0) (he : e < 8) : am_M (d + 5) false nm_X11_turn [aR 0, aI (nI c), aI (nI X), aI (nI Z), aI (nI e)] M (fun r M' => (okL (l ++ trL X Z e) ∧ n < 20 ∧ r = .inl (some (aI (nI n))) ∧ M' = kpM (dlM M (l ++ trL X Z e)) n (l ++ trL X Z e).length W) ∨ ((¬ okL (l ++ trL X Z e) ∨ n = 20) ∧ r = .inl (some (aI (-1))) ∧ M' = dlM M (l ++ trL X Z e))) := by
  have w8 := hC.2.1
  have hW := hC.2.2.2.1
  have p8 : 2 ^ W ≤ 2 ^ 8 := Nat.pow_le_pow_right (by decide) w8
  have x8 : X < 256 := Nat.lt_of_lt_of_le hX p8
  have z8 : Z < 256 := Nat.lt_of_lt_of_le hZ p8
  have s8 := or_w hX hZ
  have s9 : X ||| Z < 256 := Nat.lt_of_lt_of_le s8 p8
  have hn := hb.1
  have l3 := hl.2.2.1
  have wl := w_all hl (w_tr (e := e) w8 hX hZ s0)
  have tn : (trL X Z e).length ≤ 60 := by
    have n1 := bs1_n X Z 8
    have n2 := ups_n (X ||| Z) 8
    have n3 := eis_n e ((ups (X ||| Z) 8).2 - 1)
    have n4 := dns_n (X ||| Z) ((ups (X ||| Z) 8).2 - 1) ((ups (X ||| Z) 8).2 - 1)
    have n5 := bs2_n X Z 8
    have n6 := ups_b (X ||| Z) 8
    unfold trL
    simp only [List.length_append]
    omega
  have tot : (l ++ trL X Z e).length ≤ 360 := by rw [List.length_append]; omega
  refine ⟨rfl, rfl, rfl, fun Y hY => am_run hY 100 _ _ _ _ ?_⟩
  conv => whnf
  refine am_c1 (bk_has (nI c)) ?_
  rw [hb.2.1, if_neg (bk_yes hn hc)]
  conv => whnf
  refine ⟨fun q => absurd q (by decide), fun _ => ?_⟩
  conv => whnf
  refine ⟨fun q => absurd q (nI_pos (by omega)), fun _ => ?_⟩
  conv => whnf
  refine ⟨fun q => absurd q (nI_nlt (a := 7) (by omega) (by decide)), fun _ => ?_⟩
  conv => whnf
  rw [nI_or]
  refine ⟨fun q => absurd ((nI_eq (b := 0) (by omega) (by decide)).mp q) s0, fun _ => ?_⟩
  conv => whnf
  refine ⟨vp_in_nI (by show c < 20; omega) (by decide), ?_⟩
  conv => whnf
  rw [nI_clamp (n := c) (by omega), hW, nI_or]
  refine ⟨fun _ => ?_, fun q => absurd ((us_0 (by omega) w8).mpr s8) q⟩
  conv => whnf
  refine am_c0 ct_stDL ?_
  conv => whnf
  refine am_c0 (ct_putAll (l0 := []) hb hc hC hl (by decide)) ?_
  rw [List.nil_append]
  conv => whnf
  refine am_c0 (ct_ptn x8 z8 s0 he (by omega)) ?_
  conv => whnf
  refine ⟨vp_in_nI (by show c < 20; omega) (by decide), ?_⟩
  conv => whnf
  rw [nI_clamp (n := c) (by omega), dl_r _ _ (by decide) (by decide), hW]
  by_cases ok : okL (l ++ trL X Z e) ∧ n < 20
  · refine am_c1 (ct_keep1 (V := W) hb.2.1 ok.2 w8 wl ok.1) ?_
    conv => whnf
    exact ⟨trivial, .inl ⟨ok.1, ok.2, rfl, rfl⟩⟩
  · have no : ¬ okL (l ++ trL X Z e) ∨ n = 20 := by
      by_cases z : n = 20
      · exact .inr z
      · exact .inl fun y => ok ⟨y, by omega⟩
    refine am_c1 (ct_keep0 (V := W) hb.2.1 hn w8 wl (by omega) no) ?_
    conv => whnf
    exact ⟨trivial, .inr ⟨no, rfl, rfl⟩⟩
/-- what turn refuses at once -/
def tnk (W : Nat) (xs zs e : Int32) : Prop := ∃ X Z E, X < 2 ^ W ∧ Z < 2 ^ W ∧ X ||| Z ≠ 0 ∧ E < 8 ∧ xs = nI X ∧ zs = nI Z ∧ e = nI E
set_option maxRecDepth 100000 in
theorem tn_x0 {p xs zs e : Int32} (hb : bk_iv M n) (h : (p < 0 ∨ nI n ≤ p) ∨ ∃ c W S, c < n ∧ p = nI c ∧ bk_c M c W S ∧ ¬ tnk W xs zs e) : am_M (d + 5) false nm_X11_turn [aR 0, aI p, aI xs, aI zs, aI e] M (am_q1 (aI (-1)) M) := by
  have hn := hb.1
  refine ⟨rfl, rfl, rfl, fun Y hY => am_run hY 100 _ _ _ _ ?_⟩
  conv => whnf
  refine am_c1 (bk_has p) ?_
  rw [hb.2.1]
  rcases h with h | ⟨c, W, S, hc, rfl, hC, no⟩
  · rw [if_pos h]
    conv => whnf
    refine ⟨fun _ => ?_, fun q => absurd rfl q⟩
    conv => whnf
    exact ⟨trivial, rfl, rfl⟩
  · rw [if_neg (bk_yes hn hc)]
    have w8 := hC.2.1
    have hW := hC.2.2.2.1
    conv => whnf
    refine ⟨fun q => absurd q (by decide), fun _ => ?_⟩
    conv => whnf
    refine ⟨fun _ => ?_, fun e0 => ?_⟩
    · conv => whnf
      exact ⟨trivial, rfl, rfl⟩
    conv => whnf
    refine ⟨fun _ => ?_, fun e7 => ?_⟩
    · conv => whnf
      exact ⟨trivial, rfl, rfl⟩
    conv => whnf
    refine ⟨fun _ => ?_, fun s0 => ?_⟩
    · conv => whnf
      exact ⟨trivial, rfl, rfl⟩
    conv => whnf
    refine ⟨vp_in_nI (by show c < 20; omega) (by decide), ?_⟩
    conv => whnf
    rw [nI_clamp (n := c) (by omega), hW]
    refine ⟨fun u => ?_, fun _ => ?_⟩
    · exfalso
      rw [nI_bv xs, nI_bv zs, nI_or] at u s0
      have lx : xs.toBitVec.toNat < 2 ^ 32 := xs.toBitVec.isLt
      have lz : zs.toBitVec.toNat < 2 ^ 32 := zs.toBitVec.isLt
      have lo := (us_0 (Nat.or_lt_two_pow (n := 32) lx lz) w8).mp u
      obtain ⟨E, hE, rfl⟩ := nI_of e0
      refine no ⟨xs.toBitVec.toNat, zs.toBitVec.toNat, E, Nat.lt_of_le_of_lt Nat.left_le_or lo, Nat.lt_of_le_of_lt Nat.right_le_or lo, fun z => s0 (by rw [z]; rfl), ?_, nI_bv xs, nI_bv zs, rfl⟩
      exact Nat.lt_of_not_le fun q => e7 (nI_lt (a := 7) (by omega) hE)
    · conv => whnf
      exact ⟨trivial, rfl, rfl⟩
set_option maxRecDepth 100000 in
theorem tn_m0 {p xs zs e : Int32} (h6 : M.1 108 6 = nI n) (hn : n ≤ 20) (h : (p < 0 ∨ nI n ≤ p) ∨ ∃ c W, c < n ∧ p = nI c ∧ M.1 110 c = nI W ∧ W ≤ 8 ∧ (n = 20 ∨ ¬ tnk W xs zs e)) : am_M (d + 5) false nm_X12_turn [aR 108, aI p, aI xs, aI zs, aI e] M (am_q1 (aI (-1)) (th0 M)) := by
  have t6 : (th0 M).1 108 6 = nI n := by
    unfold th0
    rw [mm_i1, up_ne (by decide)]; exact h6
  refine ⟨rfl, rfl, rfl, fun Y hY => am_run hY 60 _ _ _ _ ?_⟩
  conv => whnf
  refine am_c1 (bk_isc (M := th0 M) p) ?_
  rw [t6]
  rcases h with h | ⟨c, W, hc, rfl, hW, w8, no⟩
  · rw [if_pos h]
    conv => whnf
    refine ⟨fun _ => ?_, fun q => absurd rfl q⟩
    conv => whnf
    exact ⟨trivial, rfl, rfl⟩
  · rw [if_neg (bk_yes hn hc)]
    have tW : (th0 M).1 110 c = nI W := hW
    conv => whnf
    refine ⟨fun q => absurd q (by decide), fun _ => ?_⟩
    conv => whnf
    rw [t6]
    refine ⟨fun _ => ?_, fun n0 => ?_⟩
    · conv => whnf
      exact ⟨trivial, rfl, rfl⟩
    have no : ¬ tnk W xs zs e := no.resolve_left fun z => n0 (by rw [z]; rfl)
    conv => whnf
    refine ⟨fun _ => ?_, fun e0 => ?_⟩
    · conv => whnf
      exact ⟨trivial, rfl, rfl⟩
    conv => whnf
    refine ⟨fun e7 => ?_, fun _ => ?_⟩
    case refine_2 =>
      conv => whnf
      exact ⟨trivial, rfl, rfl⟩
    conv => whnf
    refine ⟨vp_in_nI (by show c < 21; omega) (by decide), ?_⟩
    conv => whnf
    rw [nI_clamp (n := c) (by omega), tW, sh2 _ (by omega)]
    refine ⟨fun _ => ?_, fun x0 => ?_⟩
    · conv => whnf
      exact ⟨trivial, rfl, rfl⟩
    conv => whnf
    refine ⟨fun _ => ?_, fun x1 => ?_⟩
    · conv => whnf
      exact ⟨trivial, rfl, rfl⟩
    conv => whnf
    refine ⟨fun _ => ?_, fun z0 => ?_⟩
    · conv => whnf
      exact ⟨trivial, rfl, rfl⟩
    conv => whnf
    refine ⟨fun _ => ?_, fun z1 => ?_⟩
    · conv => whnf
      exact ⟨trivial, rfl, rfl⟩
    conv => whnf
    refine ⟨fun s0 => ?_, fun _ => ?_⟩
    · exfalso
      obtain ⟨E, hE, rfl⟩ := nI_of e0
      obtain ⟨X, hX, rfl⟩ := nI_of x0
      obtain ⟨Z, hZ, rfl⟩ := nI_of z0
      rw [nI_or] at s0
      refine no ⟨X, Z, E, Nat.lt_of_not_le fun q => x1 (nI_le q hX), Nat.lt_of_not_le fun q => z1 (nI_le q hZ), fun y => s0 (by rw [y]; rfl), ?_, rfl, rfl, rfl⟩
      exact Nat.lt_of_not_le fun q => nI_ge (a := 7) (by omega) hE e7
    · conv => whnf
      exact ⟨trivial, rfl, rfl⟩
theorem dl_ops {k : List bk_X} (hl : opsL M c W l) : opsL (dlM M k) c W l := by
  unfold opsL bk_o at hl ⊢
  rw [dl_r _ _ (by decide) (by decide), dl_r _ _ (by decide) (by decide), dl_r _ _ (by decide) (by decide), dl_r _ _ (by decide) (by decide), dl_r _ _ (by decide) (by decide), dl_r _ _ (by decide) (by decide), dl_r _ _ (by decide) (by decide), dl_r _ _ (by decide) (by decide), dl_r _ _ (by decide) (by decide)]
  exact hl
theorem kp_10 (D : mm_M) {n a : Nat} (k V : Nat) (h : a < 300 * n) : (kpM D n k V).1 10 a = D.1 10 a := by
  unfold kpM
  rw [mm_ne _ _ _ _ (by decide), mm_ne _ _ _ _ (by decide), mm_ne _ _ _ _ (by decide), mm_i1]
  exact if_neg (by omega)
theorem kp_11 (D : mm_M) {n c : Nat} (k V : Nat) (h : c ≠ n) : (kpM D n k V).1 11 c = D.1 11 c := by
  unfold kpM
  rw [mm_ne _ _ _ _ (by decide), mm_ne _ _ _ _ (by decide), mm_i1, up_ne h]
theorem kp_ops {D : mm_M} {k V : Nat} (hc : c < n) (hl : opsL D c W l) : opsL (kpM D n k V) c W l := by
  obtain ⟨h1, h2, h3, h4⟩ := hl
  refine ⟨by rw [kp_11 _ _ _ (by omega)]; exact h1, by rw [kp_r _ _ _ _ (by decide)]; exact h2, h3, fun j hj => ?_⟩
  have ⟨w, o1, o2, o3, o4, o5, o6, o7⟩ := h4 j hj
  refine ⟨w, ?_⟩
  unfold bk_o
  rw [kp_10 _ _ _ (by omega), kp_r _ _ _ _ (by decide), kp_r _ _ _ _ (by decide), kp_r _ _ _ _ (by decide), kp_r _ _ _ _ (by decide), kp_r _ _ _ _ (by decide), kp_r _ _ _ _ (by decide)]
  exact ⟨o1, o2, o3, o4, o5, o6, o7⟩
end TRR
/-- what both leave behind, of a list of OPS: too many circuits; a list that can't be kept; a new circuit -/
def bkA (M : mm_M) (L : List bk_X) : mm_M := th0 (dlM M L)
def bkB (M : mm_M) (n : Nat) (L : List bk_X) : mm_M := llM (th0 (dlM M L)) n L
def bkC (M : mm_M) (n W : Nat) (L : List bk_X) : mm_M := stM (llM (th0 (kpM (dlM M L) n L.length W)) n L) n W
section TRS
variable {ac : Nat → ClassId} {lo : Nat} {ad as : Nat → Nat} {b L : Nat} {xs : Nat → Int32} {hp : mm_M → Nat → xm_H} {I J : mm_M → Prop}
theorem pr_turn (H : mm_L ac lo hp) (h1 : ∀ M, I M → ∃ n, bk_iv M n) (hJ0 : ∀ M, I M → J (th0 M)) (hJA : ∀ M K, I M → bk_iv M 20 → J (bkA M K)) (hJB : ∀ M n K, I M → bk_iv M n → n < 20 → ¬ okL K → J (bkB M n K)) (hJC : ∀ M n W K, I M → bk_iv M n → n < 20 → okL K → 1 ≤ W → W ≤ 8 → (∀ j, j < K.length → bk_w W (zg K j)) → J (bkC M n W K)) (p x z e : Int32) : la_I ac lo ad as b L xs hp I J nm_X11_turn nm_X12_turn [.int p, .int x, .int z, .int e] := by
  refine am_la_I (us := [aI p, aI x, aI z, aI e]) H fun M hI => ?_
  obtain ⟨n, h⟩ := h1 M hI
  have hn := h.1
  have h6 := h.2.2.1
  rcases bk_no (p := p) hn with c | ⟨c, hc, rfl⟩
  · refine am_wk (tn_x0 (d := 995) h (.inl c)) fun r M1 e => ⟨-1, e.1, ?_⟩
    rw [e.2]
    exact am_wk (tn_m0 (d := 995) h6 hn (.inl c)) fun r M1 e => ⟨e.1, by rw [e.2]; exact hJ0 M hI⟩
  · obtain ⟨W, S, hC⟩ := h.2.2.2 c hc
    have w1 := hC.1
    have w8 := hC.2.1
    have hW := hC.2.2.2.2.1
    by_cases k : tnk W x z e
    · obtain ⟨X, Z, E, hX, hZ, s0, hE, rfl, rfl, rfl⟩ := k
      obtain ⟨l, rfl, hl⟩ := opsL_x hC
      have wl := w_all hl (w_tr (e := E) w8 hX hZ s0)
      refine am_wk (tn_x1 (d := 995) h hc hC hl hX hZ s0 hE) fun r M1 q => ?_
      rcases q with ⟨ok, n20, rfl, rfl⟩ | ⟨no, rfl, rfl⟩
      · refine ⟨nI n, rfl, ?_⟩
        refine am_wk (tn_m1 (d := 997) (n := n) (by rw [kp_r _ _ _ _ (by decide), dl_r _ _ (by decide) (by decide)]; exact h6) n20 hc (by rw [kp_r _ _ _ _ (by decide), dl_r _ _ (by decide) (by decide)]; exact hW) w1 w8 (kp_ops hc (dl_ops hl)) hX hZ s0 hE) fun r M2 q => ?_
        rcases q with ⟨_, rfl, rfl⟩ | ⟨no, _⟩
        · exact ⟨rfl, hJC M n W _ hI h n20 ok w1 w8 wl⟩
        · exact absurd ok no
      · refine ⟨-1, rfl, ?_⟩
        by_cases n20 : n = 20
        · refine am_wk (tn_m0 (d := 995) (n := n) (by rw [dl_r _ _ (by decide) (by decide)]; exact h6) hn (.inr ⟨c, W, hc, rfl, by rw [dl_r _ _ (by decide) (by decide)]; exact hW, w8, .inl n20⟩)) fun r M2 q => ⟨q.1, ?_⟩
          rw [q.2]
          exact hJA M _ hI (n20 ▸ h)
        · have nok : ¬ okL (l ++ trL X Z E) := no.resolve_right n20
          refine am_wk (tn_m1 (d := 997) (n := n) (by rw [dl_r _ _ (by decide) (by decide)]; exact h6) (by omega) hc (by rw [dl_r _ _ (by decide) (by decide)]; exact hW) w1 w8 (dl_ops hl) hX hZ s0 hE) fun r M2 q => ?_
          rcases q with ⟨ok, _⟩ | ⟨_, rfl, rfl⟩
          · exact absurd ok nok
          · exact ⟨rfl, hJB M n _ hI h (by omega) nok⟩
    · refine am_wk (tn_x0 (d := 995) h (.inr ⟨c, W, S, hc, rfl, hC, k⟩)) fun r M1 e => ⟨-1, e.1, ?_⟩
      rw [e.2]
      exact am_wk (tn_m0 (d := 995) h6 hn (.inr ⟨c, W, hc, rfl, hW, w8, .inr k⟩)) fun r M1 e => ⟨e.1, by rw [e.2]; exact hJ0 M hI⟩
end TRS
