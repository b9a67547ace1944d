/-! mix -/
section MXX
variable {d W K n c S j a : Nat} {M : mm_M} {xs : Nat → R4} {op : Nat → bk_X}
theorem ask_0 {x : bk_X} (hW : W ≤ 8) (ow : bk_w W x) : nI (bk_p x) >>> (18 &&& 31) = 0 ↔ (x.2.2.2.2.1 = 0 ∧ x.2.2.2.2.2 = 0) := by
  have hl := bk_lt hW ow
  have h8 := w256 hW
  obtain ⟨k1, k2, k3, k4, k5, k6⟩ := ow
  rw [show (18 : Int32) &&& 31 = nI 18 &&& 31 from rfl, nI_sh (by omega) 18 (by decide), show (0 : Int32) = nI 0 from rfl, nI_eq (by omega) (by decide)]
  unfold bk_p
  omega
/-- it can be done -/
def mxO (W j S Wc a : Nat) (op : Nat → bk_X) : Prop := j < S ∧ Wc = W ∧ ((op j).2.2.2.2.1 = 0 ∧ (op j).2.2.2.2.2 = 0) ∧ ((op j).1 = 3 → a < 24)
set_option maxRecDepth 100000 in
theorem mxX_g {p q : Int32} {Pp : am_Q} (h1 : ¬ M.1 104 1 = 0) {b : Nat} (hb : b < 2) (hh : am_M (d + 5) false nm_X0_hasOp [aR 9, aI p, aI q] M (am_q1 (aI (nI b)) M)) (hno : b = 0 → Pp (.inl (some (aI 0))) M) (hyes : b = 1 → ∀ X, am_K (d + 5) false nm_X11_mix Pp X → X 22 [some (aR 0), some (aI p), some (aI q), none] [] M) : am_M (d + 6) false nm_X11_mix [aR 0, aI p, aI q] M Pp := by
  refine ⟨rfl, rfl, rfl, fun X hX => am_run hX 4 _ _ _ _ ?_⟩
  conv => whnf
  refine ⟨fun c => absurd c h1, fun _ => ?_⟩
  refine am_run hX 5 _ _ _ _ ?_
  conv => whnf
  refine am_c1 hh ?_
  conv => whnf
  refine am_run hX 1 _ _ _ _ ?_
  conv => whnf
  rcases (by omega : b = 0 ∨ b = 1) with e | e
  · subst e
    refine ⟨fun _ => ?_, fun c => absurd rfl c⟩
    refine am_run hX 2 _ _ _ _ ?_
    conv => whnf
    exact ⟨rfl, hno rfl⟩
  · subst e
    exact ⟨fun c => absurd c (by decide), fun _ => hyes rfl X hX⟩
set_option maxRecDepth 100000 in
theorem mxX_00 {p q : Int32} (h1 : M.1 104 1 = 0) : am_M (d + 1) false nm_X11_mix [aR 0, aI p, aI q] M (am_q1 (aI 0) M) := by
  refine ⟨rfl, rfl, rfl, fun X hX => am_run hX 4 _ _ _ _ ?_⟩
  conv => whnf
  refine ⟨fun _ => ?_, fun c => absurd h1 c⟩
  refine am_run hX 2 _ _ _ _ ?_
  conv => whnf
  exact ⟨rfl, rfl, rfl⟩
set_option maxRecDepth 100000 in
theorem mxX_1 {Wc : Nat} (h : de_d M W K xs) (hc : cir M n c Wc S op) (ha : M.1 104 2 = nI a) (a24 : a ≤ 24) (hj : j < S) : am_M (d + 6) false nm_X11_mix [aR 0, aI (nI c), aI (nI j)] M (fun t N => (¬ mxO W j S Wc a op ∧ t = .inl (some (aI 0)) ∧ N = M) ∨ (mxO W j S Wc a op ∧ t = .inl (some (aI 1)) ∧ N = mxM M (2 ^ (2 * W)) (mxA (op j) a) (mxK (op j) K) (mxN W (op j) xs))) := by
  obtain ⟨hbk, hcc, hbc, hops, _⟩ := hc
  have hn20 := hbk.1
  have e4 := h.2.2.2.1
  have w1 := h.1
  have w3 := h.2.1
  have w8 := hbc.2.1
  have s300 := hbc.2.2.1
  obtain ⟨og, bo⟩ := hops j hj
  refine mxX_g (d := d) (b := 1) (by rw [e4]; exact fun z => by have := (nI_eq (b := 0) (by omega) (by decide)).mp z; omega) (by decide) (bk_ho1 (d := d + 3) hbk hcc hbc hj) (fun z => absurd z (by decide)) (fun _ X hX => ?_)
  have no : ¬ mxO W j S Wc a op → X 41 [some (aR 0), some (aI (nI c)), some (aI (nI j)), none] [] M := fun z => by
    refine am_run hX 2 _ _ _ _ ?_
    conv => whnf
    exact ⟨rfl, Or.inl ⟨z, rfl, rfl⟩⟩
  refine am_run hX 5 _ _ _ _ ?_
  conv => whnf
  refine ⟨vp_in_nI (by show c < 20; omega) (by decide), ?_⟩
  conv => whnf
  rw [nI_clamp (n := c) (by omega), hbc.2.2.2.1]
  refine am_run hX 4 _ _ _ _ ?_
  conv => whnf
  rw [e4]
  by_cases eW : Wc = W
  · subst eW
    refine ⟨fun _ => ?_, fun z => absurd rfl z⟩
    refine am_run hX 5 _ _ _ _ ?_
    conv => whnf
    refine am_c1 (bk_at (d := d + 2) hbk hcc hbc hj) ?_
    rw [bo.1]
    conv => whnf
    refine am_run hX 3 _ _ _ _ ?_
    conv => whnf
    refine am_c1 (ct_asks (d := d + 4)) ?_
    conv => whnf
    refine am_run hX 1 _ _ _ _ ?_
    conv => whnf
    have no75 : ¬ mxO Wc j S Wc a op → X 75 [some (aR 0), some (aI (nI c)), some (aI (nI j)), some (aI (nI (bk_p (op j))))] [] M := fun z => by
      refine am_run hX 2 _ _ _ _ ?_
      conv => whnf
      exact ⟨rfl, Or.inl ⟨z, rfl, rfl⟩⟩
    by_cases q : nI (bk_p (op j)) >>> (18 &&& 31) = 0
    · have q0 := (ask_0 w8 og.1).mp q
      rw [if_pos q]
      refine ⟨fun z => absurd rfl z, fun _ => ?_⟩
      refine am_run hX 4 _ _ _ _ ?_
      conv => whnf
      by_cases k3 : (op j).1 = 3 → a < 24
      · refine am_c1 (ct_perf (d := d) h og ha a24 k3) ?_
        conv => whnf
        refine am_run hX 1 _ _ _ _ ?_
        conv => whnf
        refine ⟨fun z => absurd z (by decide), fun _ => ?_⟩
        refine am_run hX 3 _ _ _ _ ?_
        conv => whnf
        exact ⟨rfl, Or.inr ⟨⟨hj, rfl, q0, k3⟩, rfl, rfl⟩⟩
      · have k3' : (op j).1 = 3 := Decidable.byContradiction fun z => k3 fun y => absurd y z
        have a24' : a = 24 := by
          have : ¬ a < 24 := fun z => k3 fun _ => z
          omega
        refine am_c1 (ct_perf0 (d := d) og w3 (by rw [ha, a24']) k3') ?_
        conv => whnf
        refine am_run hX 1 _ _ _ _ ?_
        conv => whnf
        exact ⟨fun _ => no75 fun z => k3 z.2.2.2, fun z => absurd rfl z⟩
    · rw [if_neg q]
      exact ⟨fun _ => no75 fun z => q ((ask_0 w8 og.1).mpr z.2.2.1), fun z => absurd (by decide) z⟩
  · exact ⟨fun z => absurd ((nI_eq (by omega) (by omega)).mp z) eW, fun _ => no fun z => eW z.2.1⟩
end MXX
