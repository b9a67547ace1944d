/-! the pair op; a callee walked in place -/
/-- a callee is walked in place -/
theorem am_inl {cs : am_C} {x : Nat} {as : List am_V} {M : mm_M} {K : Option am_V → mm_M → Prop} (hc : cs x as M (fun r M' => ∃ v' : Option am_V, r = .inl v' ∧ K v' M')) : ∃ q : am_Q, cs x as M q ∧ ∀ r M', q r M' → ∃ v' : Option am_V, r = .inl v' ∧ K v' M' :=
  ⟨_, hc, fun _ _ h => h⟩
theorem bk_d {W : Nat} {x : bk_X} (hW : W ≤ 8) (h : bk_w W x) : bk_p x % 16 = x.1 ∧ bk_p x / 2 ^ 4 % 8 = x.2.1 ∧ bk_p x / 2 ^ 7 % 8 = x.2.2.1 ∧ bk_p x / 2 ^ 10 % 256 = x.2.2.2.1 ∧ bk_p x / 2 ^ 18 % 16 = x.2.2.2.2.1 ∧ bk_p x / 2 ^ 22 % 16 = x.2.2.2.2.2 := by
  obtain ⟨h1, h2, h3, h4, h5, h6⟩ := h
  have : 2 ^ W ≤ 2 ^ 8 := Nat.pow_le_pow_right (by decide) hW
  obtain ⟨k, w, s, c, o, z⟩ := x
  simp only [bk_p] at *
  omega
/-- the six numbers of a packed OP -/
theorem bk_k {W : Nat} {x : bk_X} (hW : W ≤ 8) (h : bk_w W x) : nI (bk_p x) &&& 15 = nI x.1 := by rw [nI_m15, (bk_d hW h).1]
theorem bk_wi {W : Nat} {x : bk_X} (hW : W ≤ 8) (h : bk_w W x) : nI (bk_p x) >>> (4 &&& 31) &&& 7 = nI x.2.1 := by
  rw [show (4 : Int32) = nI 4 from rfl, nI_sh (Nat.lt_trans (bk_lt hW h) (by decide)) 4 (by decide), nI_m7, (bk_d hW h).2.1]
theorem bk_s {W : Nat} {x : bk_X} (hW : W ≤ 8) (h : bk_w W x) : nI (bk_p x) >>> (7 &&& 31) &&& 7 = nI x.2.2.1 := by
  rw [show nI (bk_p x) >>> ((7 : Int32) &&& 31) = nI (bk_p x / 2 ^ 7) from nI_sh (Nat.lt_trans (bk_lt hW h) (by decide)) 7 (by decide), nI_m7, (bk_d hW h).2.2.1]
theorem bk_cc {W : Nat} {x : bk_X} (hW : W ≤ 8) (h : bk_w W x) : nI (bk_p x) >>> (10 &&& 31) &&& 255 = nI x.2.2.2.1 := by
  rw [show nI (bk_p x) >>> ((10 : Int32) &&& 31) = nI (bk_p x / 2 ^ 10) from nI_sh (Nat.lt_trans (bk_lt hW h) (by decide)) 10 (by decide), nI_m255, (bk_d hW h).2.2.2.1]
theorem bk_oo {W : Nat} {x : bk_X} (hW : W ≤ 8) (h : bk_w W x) : nI (bk_p x) >>> (18 &&& 31) &&& 15 = nI x.2.2.2.2.1 := by
  rw [show nI (bk_p x) >>> ((18 : Int32) &&& 31) = nI (bk_p x / 2 ^ 18) from nI_sh (Nat.lt_trans (bk_lt hW h) (by decide)) 18 (by decide), nI_m15, (bk_d hW h).2.2.2.2.1]
theorem bk_zz {W : Nat} {x : bk_X} (hW : W ≤ 8) (h : bk_w W x) : nI (bk_p x) >>> (22 &&& 31) &&& 15 = nI x.2.2.2.2.2 := by
  rw [show nI (bk_p x) >>> ((22 : Int32) &&& 31) = nI (bk_p x / 2 ^ 22) from nI_sh (Nat.lt_trans (bk_lt hW h) (by decide)) 22 (by decide), nI_m15, (bk_d hW h).2.2.2.2.2]
/-- an invariant of the bank does not see what was thrown -/
theorem bk_th {M : mm_M} {n : Nat} (h : bk_iv M n) : bk_iv (th0 M) n := h
theorem bk_sp {M : mm_M} {n : Nat} (h : bk_iv M n) (p q : Int32) : ((p < 0 ∨ nI n ≤ p) ∨ ∃ c W S, c < n ∧ p = nI c ∧ bk_c M c W S ∧ (q < 0 ∨ nI S ≤ q)) ∨ ∃ c W S j, c < n ∧ p = nI c ∧ bk_c M c W S ∧ j < S ∧ q = nI j := by
  rcases bk_no (p := p) h.1 with hp | ⟨c, hc, rfl⟩
  · exact Or.inl (Or.inl hp)
  · obtain ⟨W, S, hS⟩ := h.2.2.2 c hc
    by_cases hq : q < 0
    · exact Or.inl (Or.inr ⟨c, W, S, hc, rfl, hS, Or.inl hq⟩)
    · obtain ⟨j, hj, rfl⟩ := nI_of hq
      by_cases h2 : j < S
      · exact Or.inr ⟨c, W, S, j, hc, rfl, hS, h2, rfl⟩
      · exact Or.inl (Or.inr ⟨c, W, S, hc, rfl, hS, Or.inr (nI_le (by omega) hj)⟩)
section OPP
variable {ac : Nat → ClassId} {lo : Nat} {ad as : Nat → Nat} {b L : Nat} {xs : Nat → Int32} {hp : mm_M → Nat → xm_H} {I J : mm_M → Prop}
set_option maxRecDepth 100000 in
theorem op_x0 {M : mm_M} {n : Nat} {p q w : Int32} (h : bk_iv M n) (hp : (p < 0 ∨ nI n ≤ p) ∨ ∃ c W S, c < n ∧ p = nI c ∧ bk_c M c W S ∧ (q < 0 ∨ nI S ≤ q)) (d : Nat) : am_M (d + 3) false nm_X11_op [aR 0, aI p, aI q, aI w] M (am_q1 (aI (-1)) M) := by
  refine ⟨rfl, rfl, rfl, fun X hX => am_run hX 50 _ _ _ _ ?_⟩
  conv => whnf
  refine am_c1 (bk_ho0 h hp) ?_
  conv => whnf
  refine ⟨fun c => absurd rfl c, fun _ => ?_⟩
  conv => whnf
  exact ⟨trivial, rfl, rfl⟩
set_option maxRecDepth 100000 in
theorem op_m0 {M : mm_M} {n : Nat} {p q w : Int32} (h : bk_iv M n) (hp : (p < 0 ∨ nI n ≤ p) ∨ ∃ c W S, c < n ∧ p = nI c ∧ bk_c M c W S ∧ (q < 0 ∨ nI S ≤ q)) (d : Nat) : am_M (d + 3) false nm_X12_op [aR 108, aI p, aI q, aI w] M (am_q1 (aI (-1)) (th0 M)) := by
  refine ⟨rfl, rfl, rfl, fun X hX => am_run hX 50 _ _ _ _ ?_⟩
  conv => whnf
  refine am_c1 (bk_isc p) ?_
  have e6 : (mm_i M 108 (upd (M.1 108) 0 0)).1 108 6 = nI n := h.2.2.1
  rw [e6]
  rcases hp with hp | ⟨c, W, S, hc, rfl, hS, hq⟩
  · rw [if_pos hp]
    conv => whnf
    refine ⟨fun _ => ?_, fun c => absurd rfl c⟩
    conv => whnf
    exact ⟨trivial, rfl, rfl⟩
  · rw [if_neg (bk_yes h.1 hc)]
    conv => whnf
    refine ⟨fun c => absurd c (by decide), fun _ => ?_⟩
    conv => whnf
    refine ⟨fun _ => ?_, fun hq0 => ?_⟩
    · conv => whnf
      exact ⟨trivial, rfl, rfl⟩
    · conv => whnf
      refine ⟨vp_in_nI (by have := h.1; show c < 21; omega) (by decide), ?_⟩
      conv => whnf
      have eS : (mm_i M 108 (upd (M.1 108) 0 0)).1 111 (nI c).toNatClampNeg = nI S := by
        rw [nI_clamp (by have := h.1; omega)]
        exact hS.2.2.2.2.2.2.1
      rw [eS]
      refine ⟨fun c => absurd c (Int32.not_lt.mpr (hq.resolve_left hq0)), fun _ => ?_⟩
      conv => whnf
      exact ⟨trivial, rfl, rfl⟩
set_option maxRecDepth 100000 in
theorem op_x1 {M : mm_M} {n c W S j : Nat} {w : Int32} {x : bk_X} (h : bk_iv M n) (hc : c < n) (hS : bk_c M c W S) (hj : j < S) (ow : bk_w W x) (oe : bk_o M (300 * c + j) x) (d : Nat) : am_M (d + 4) false nm_X11_op [aR 0, aI (nI c), aI (nI j), aI w] M (am_q1 (aI (if w = 0 then nI x.1 else if w = 1 then nI x.2.1 else if w = 2 then nI x.2.2.1 else if w = 3 then nI x.2.2.2.1 else if w = 4 then nI x.2.2.2.2.1 else if w = 5 then nI x.2.2.2.2.2 else -1)) M) := by
  refine ⟨rfl, rfl, rfl, fun X hX => am_run hX 100 _ _ _ _ ?_⟩
  conv => whnf
  refine am_c1 (bk_ho1 h hc hS hj) ?_
  conv => whnf
  refine ⟨fun _ => ?_, fun c => absurd (by decide) c⟩
  conv => whnf
  refine am_c1 (bk_at h hc hS hj) ?_
  rw [oe.1]
  conv => whnf
  refine ⟨fun e => ?_, fun e0 => ?_⟩
  · conv => whnf
    refine am_inl ⟨rfl, rfl, rfl, fun X hX => am_run hX 20 _ _ _ _ ?_⟩
    conv => whnf
    refine ⟨trivial, _, rfl, ?_⟩
    conv => whnf
    refine ⟨trivial, ?_, rfl⟩
    rw [if_pos e]; exact congrArg (fun v => Sum.inl (some (aI v))) (bk_k hS.2.1 ow)
  ·
    conv => whnf
    refine ⟨fun e => ?_, fun e1 => ?_⟩
    · conv => whnf
      refine am_inl ⟨rfl, rfl, rfl, fun X hX => am_run hX 20 _ _ _ _ ?_⟩
      conv => whnf
      refine ⟨trivial, _, rfl, ?_⟩
      conv => whnf
      refine ⟨trivial, ?_, rfl⟩
      rw [if_neg e0]; rw [if_pos e]; exact congrArg (fun v => Sum.inl (some (aI v))) (bk_wi hS.2.1 ow)
    ·
      conv => whnf
      refine ⟨fun e => ?_, fun e2 => ?_⟩
      · conv => whnf
        refine am_inl ⟨rfl, rfl, rfl, fun X hX => am_run hX 20 _ _ _ _ ?_⟩
        conv => whnf
        refine ⟨trivial, _, rfl, ?_⟩
        conv => whnf
        refine ⟨trivial, ?_, rfl⟩
        rw [if_neg e0]; rw [if_neg e1]; rw [if_pos e]; exact congrArg (fun v => Sum.inl (some (aI v))) (bk_s hS.2.1 ow)
      ·
        conv => whnf
        refine ⟨fun e => ?_, fun e3 => ?_⟩
        · conv => whnf
          refine am_inl ⟨rfl, rfl, rfl, fun X hX => am_run hX 20 _ _ _ _ ?_⟩
          conv => whnf
          refine ⟨trivial, _, rfl, ?_⟩
          conv => whnf
          refine ⟨trivial, ?_, rfl⟩
          rw [if_neg e0]; rw [if_neg e1]; rw [if_neg e2]; rw [if_pos e]; exact congrArg (fun v => Sum.inl (some (aI v))) (bk_cc hS.2.1 ow)
        ·
          conv => whnf
          refine ⟨fun e => ?_, fun e4 => ?_⟩
          · conv => whnf
            refine am_inl ⟨rfl, rfl, rfl, fun X hX => am_run hX 20 _ _ _ _ ?_⟩
            conv => whnf
            refine ⟨trivial, _, rfl, ?_⟩
            conv => whnf
            refine ⟨trivial, ?_, rfl⟩
            rw [if_neg e0]; rw [if_neg e1]; rw [if_neg e2]; rw [if_neg e3]; rw [if_pos e]; exact congrArg (fun v => Sum.inl (some (aI v))) (bk_oo hS.2.1 ow)
          ·
            conv => whnf
            refine ⟨fun e => ?_, fun e5 => ?_⟩
            · conv => whnf
              refine am_inl ⟨rfl, rfl, rfl, fun X hX => am_run hX 20 _ _ _ _ ?_⟩
              conv => whnf
              refine ⟨trivial, _, rfl, ?_⟩
              conv => whnf
              refine ⟨trivial, ?_, rfl⟩
              rw [if_neg e0]; rw [if_neg e1]; rw [if_neg e2]; rw [if_neg e3]; rw [if_neg e4]; rw [if_pos e]; exact congrArg (fun v => Sum.inl (some (aI v))) (bk_zz hS.2.1 ow)
            ·
              conv => whnf
              exact ⟨trivial, by rw [if_neg e0, if_neg e1, if_neg e2, if_neg e3, if_neg e4, if_neg e5], rfl⟩
set_option maxRecDepth 100000 in
theorem op_m1 {M : mm_M} {n c W S j : Nat} {w : Int32} {x : bk_X} (h : bk_iv M n) (hc : c < n) (hS : bk_c M c W S) (hj : j < S) (oe : bk_o M (300 * c + j) x) (d : Nat) : am_M (d + 4) false nm_X12_op [aR 108, aI (nI c), aI (nI j), aI w] M (am_q1 (aI (if w = 0 then nI x.1 else if w = 1 then nI x.2.1 else if w = 2 then nI x.2.2.1 else if w = 3 then nI x.2.2.2.1 else if w = 4 then nI x.2.2.2.2.1 else if w = 5 then nI x.2.2.2.2.2 else -1)) (th0 M)) := by
  have hn := h.1
  have hs := hS.2.2.1
  refine ⟨rfl, rfl, rfl, fun X hX => am_run hX 100 _ _ _ _ ?_⟩
  conv => whnf
  refine am_c1 (bk_isc (nI c)) ?_
  have e6 : (mm_i M 108 (upd (M.1 108) 0 0)).1 108 6 = nI n := h.2.2.1
  rw [e6, if_neg (bk_yes h.1 hc)]
  conv => whnf
  refine ⟨fun c => absurd c (by decide), fun _ => ?_⟩
  conv => whnf
  refine ⟨fun c => absurd c (nI_pos (by omega)), fun _ => ?_⟩
  conv => whnf
  refine ⟨vp_in_nI (by show c < 21; omega) (by decide), ?_⟩
  conv => whnf
  have eS : (mm_i M 108 (upd (M.1 108) 0 0)).1 111 (nI c).toNatClampNeg = nI S := by
    rw [nI_clamp (by omega)]
    exact hS.2.2.2.2.2.2.1
  rw [eS]
  refine ⟨fun _ => ?_, fun c => absurd (nI_lt hj (by omega)) c⟩
  conv => whnf
  refine ⟨fun e => ?_, fun e0 => ?_⟩
  · conv => whnf
    rw [bk_ix2 hn hc (by omega)]
    refine ⟨vp_in_nI (by show _ < 6300; omega) (by decide), ?_⟩
    conv => whnf
    refine ⟨trivial, ?_, rfl⟩
    rw [if_pos e, nI_clamp (by omega)]; exact congrArg (fun v => Sum.inl (some (aI v))) (show (mm_i M 108 (upd (M.1 108) 0 0)).1 112 (300 * c + j) = _ from oe.2.1)
  ·
    conv => whnf
    refine ⟨fun e => ?_, fun e1 => ?_⟩
    · conv => whnf
      rw [bk_ix2 hn hc (by omega)]
      refine ⟨vp_in_nI (by show _ < 6300; omega) (by decide), ?_⟩
      conv => whnf
      refine ⟨trivial, ?_, rfl⟩
      rw [if_neg e0]; rw [if_pos e, nI_clamp (by omega)]; exact congrArg (fun v => Sum.inl (some (aI v))) (show (mm_i M 108 (upd (M.1 108) 0 0)).1 113 (300 * c + j) = _ from oe.2.2.1)
    ·
      conv => whnf
      refine ⟨fun e => ?_, fun e2 => ?_⟩
      · conv => whnf
        rw [bk_ix2 hn hc (by omega)]
        refine ⟨vp_in_nI (by show _ < 6300; omega) (by decide), ?_⟩
        conv => whnf
        refine ⟨trivial, ?_, rfl⟩
        rw [if_neg e0]; rw [if_neg e1]; rw [if_pos e, nI_clamp (by omega)]; exact congrArg (fun v => Sum.inl (some (aI v))) (show (mm_i M 108 (upd (M.1 108) 0 0)).1 114 (300 * c + j) = _ from oe.2.2.2.1)
      ·
        conv => whnf
        refine ⟨fun e => ?_, fun e3 => ?_⟩
        · conv => whnf
          rw [bk_ix2 hn hc (by omega)]
          refine ⟨vp_in_nI (by show _ < 6300; omega) (by decide), ?_⟩
          conv => whnf
          refine ⟨trivial, ?_, rfl⟩
          rw [if_neg e0]; rw [if_neg e1]; rw [if_neg e2]; rw [if_pos e, nI_clamp (by omega)]; exact congrArg (fun v => Sum.inl (some (aI v))) (show (mm_i M 108 (upd (M.1 108) 0 0)).1 115 (300 * c + j) = _ from oe.2.2.2.2.1)
        ·
          conv => whnf
          refine ⟨fun e => ?_, fun e4 => ?_⟩
          · conv => whnf
            rw [bk_ix2 hn hc (by omega)]
            refine ⟨vp_in_nI (by show _ < 6300; omega) (by decide), ?_⟩
            conv => whnf
            refine ⟨trivial, ?_, rfl⟩
            rw [if_neg e0]; rw [if_neg e1]; rw [if_neg e2]; rw [if_neg e3]; rw [if_pos e, nI_clamp (by omega)]; exact congrArg (fun v => Sum.inl (some (aI v))) (show (mm_i M 108 (upd (M.1 108) 0 0)).1 116 (300 * c + j) = _ from oe.2.2.2.2.2.1)
          ·
            conv => whnf
            refine ⟨fun e => ?_, fun e5 => ?_⟩
            · conv => whnf
              rw [bk_ix2 hn hc (by omega)]
              refine ⟨vp_in_nI (by show _ < 6300; omega) (by decide), ?_⟩
              conv => whnf
              refine ⟨trivial, ?_, rfl⟩
              rw [if_neg e0]; rw [if_neg e1]; rw [if_neg e2]; rw [if_neg e3]; rw [if_neg e4]; rw [if_pos e, nI_clamp (by omega)]; exact congrArg (fun v => Sum.inl (some (aI v))) (show (mm_i M 108 (upd (M.1 108) 0 0)).1 117 (300 * c + j) = _ from oe.2.2.2.2.2.2)
            ·
              conv => whnf
              exact ⟨trivial, by rw [if_neg e0, if_neg e1, if_neg e2, if_neg e3, if_neg e4, if_neg e5], rfl⟩
theorem pr_op (H : mm_L ac lo hp) (h1 : ∀ M, I M → ∃ n, bk_iv M n) (hJ : ∀ M, I M → J (th0 M)) (p q w : Int32) : la_I ac lo ad as b L xs hp I J nm_X11_op nm_X12_op [.int p, .int q, .int w] := by
  refine am_la_I (us := [aI p, aI q, aI w]) H fun M hI => ?_
  obtain ⟨n, h⟩ := h1 M hI
  have hJ := hJ M hI
  rcases bk_sp h p q with hx | ⟨c, W, S, j, hc, rfl, hS, hj, rfl⟩
  · refine am_wk (op_x0 h hx 997) fun r M1 e => ⟨-1, e.1, ?_⟩
    rw [e.2]
    exact am_wk (op_m0 h hx 997) fun r M1 e => ⟨e.1, by rw [e.2]; exact hJ⟩
  · obtain ⟨x, ow, oe⟩ := hS.2.2.2.2.2.2.2 j hj
    refine am_wk (op_x1 h hc hS hj ow oe 996) fun r M1 e => ⟨_, e.1, ?_⟩
    rw [e.2]
    exact am_wk (op_m1 h hc hS hj oe 996) fun r M1 e => ⟨e.1, by rw [e.2]; exact hJ⟩
end OPP
