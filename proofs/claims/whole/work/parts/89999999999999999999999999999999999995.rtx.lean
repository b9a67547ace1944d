/-! ROUTE: both sides whole, THE PAIR -/
/-- a circuit that is ROUTED, and its WAY -/
def rvR (n : Nat) (F : Nat → Nat × List bk_X) (Lk : Nat → Nat → Bool) (p : Int32) (c : Nat) (w : List Nat) : Prop := c < n ∧ p = nI c ∧ n < 20 ∧ rtE (F c).1 (F c).2 ∧ rtY (F c).1 (F c).2 Lk w ∧ okL (rtT (F c).1 (F c).2 Lk w)
/-- what the class changes -/
def rcF (M N : mm_M) : Prop := (∀ k, k ≠ 9 → k ≠ 13 → k ≠ 73 → k ≠ 74 → k ≠ 76 → N.1 k = M.1 k) ∧ (∀ k, k ≠ 75 → k ≠ 77 → N.2 k = M.2 k) ∧ ∀ y, y ≠ 8 → N.1 9 y = M.1 9 y
theorem rcF_r (M : mm_M) : rcF M M := ⟨fun _ _ _ _ _ _ => rfl, fun _ _ _ => rfl, fun _ _ => rfl⟩
theorem rcF_w {M N : mm_M} (h : rwyF M N) : rcF M N := ⟨fun k _ _ a b c => h.1 k a b c, h.2, fun y _ => by rw [h.1 9 (by decide) (by decide) (by decide)]⟩
theorem rcF_d {M N : mm_M} (T : List bk_X) (h : rwyF M N) : rcF M (dlM N T) := ⟨fun k z9 z13 a b c => by
  rw [dl_r _ _ z13 z9]
  exact h.1 k a b c, h.2, fun y hy => by
  rw [dl_9, up_ne hy, h.1 9 (by decide) (by decide) (by decide)]⟩
theorem rcF_b {M N : mm_M} (h : rcF M N) : bkF M N := ⟨fun k hk => h.1 k (by omega) (by omega) (by omega) (by omega) (by omega), h.2.2 7 (by decide), by rw [h.1 108 (by decide) (by decide) (by decide) (by decide) (by decide)]⟩
/-- the CHIP on both sides -/
def chJ (M : mm_M) (Lk : Nat → Nat → Bool) : Prop := nrM M Lk ∧ lnK M Lk ∧ lkR M Lk
theorem chJ_f {M N : mm_M} {Lk : Nat → Nat → Bool} (e : N.1 72 = M.1 72) (e1 : N.1 70 12 = M.1 70 12) (e2 : N.1 195 = M.1 195) (h : chJ M Lk) : chJ N Lk := by
  obtain ⟨h1, h2, h3⟩ := h
  refine ⟨?_, ?_, ?_⟩
  · unfold nrM at h1 ⊢
    rw [e]
    exact h1
  · unfold lnK at h2 ⊢
    rw [e1]
    exact h2
  · unfold lkR at h3 ⊢
    rw [e2]
    exact h3
theorem rtE_D {M : mm_M} {n c : Nat} {F : Nat → Nat × List bk_X} {Lk : Nat → Nat → Bool} (hB : bkX M n F) (hc : c < n) (hJ : chJ M Lk) (hE : rtE (F c).1 (F c).2) : rtD M n c (F c).1 (F c).2 Lk := by
  obtain ⟨w1, w8, f12, _, hl, ok, hg⟩ := hB.2.2.2 c hc
  exact ⟨bkX_i hB, hc, ⟨w1, hE.2.1⟩, bkX_c hB hc, hl, fun j hj => ⟨hg j hj, hE.1 j hj⟩, hE.2.2, hJ.1, hJ.2.1⟩
theorem rtY_l {W : Nat} {l : List bk_X} {Lk : Nat → Nat → Bool} {w : List Nat} (h : rtY W l Lk w) : (rtT W l Lk w).length = w.length + l.length := by
  rw [rtT_n]
  have : (awS (rtS Lk (rtPp l) l.length) w (rt0 Lk (rtPp l) l.length W)).2 = l.length := h.2.1
  omega
section RTX
variable {M : mm_M} {n : Nat} {F : Nat → Nat × List bk_X} {Lk : Nat → Nat → Bool}
/-- what the class's route comes to -/
def rtcQ (M : mm_M) (n : Nat) (F : Nat → Nat × List bk_X) (Lk : Nat → Nat → Bool) (p : Int32) (r : am_R) (N : mm_M) : Prop := (∃ c w N1, rvR n F Lk p c w ∧ r = .inl (some (aI (nI n))) ∧ rcF M N1 ∧ drw N1 (rtT (F c).1 (F c).2 Lk w) ∧ N = mm_i (kpM N1 n (rtT (F c).1 (F c).2 Lk w).length 6) 70 (upd (M.1 70) 13 (nI w.length))) ∨ ((∀ c w, ¬ rvR n F Lk p c w) ∧ r = .inl (some (aI (-1))) ∧ rcF M N)
set_option maxRecDepth 100000 in
theorem ct_rtC (hB : bkX M n F) (hJ : chJ M Lk) (p : Int32) : am_M 1000 false nm_X11_route [aR 0, aI p] M (rtcQ M n F Lk p) := by
  have n20 := hB.1
  refine ⟨rfl, rfl, rfl, fun X hX => am_run hX 4 _ _ _ _ ?_⟩
  have no : (∀ c w, ¬ rvR n F Lk p c w) → X 38 [some (aR 0), some (aI p), none, none] [] M := by
    intro hno
    refine am_run hX 2 _ _ _ _ ?_
    conv => whnf
    exact ⟨trivial, Or.inr ⟨hno, rfl, rcF_r M⟩⟩
  conv => whnf
  refine am_c1 (bk_hasV (d := 998) (h := p) hB) ?_
  refine am_run hX 1 _ _ _ _ ?_
  conv => whnf
  by_cases hp : p < 0 ∨ nI n ≤ p
  · rw [if_pos hp]
    refine ⟨fun _ => no (fun c w h => ?_), fun z => absurd rfl z⟩
    obtain ⟨hc, rfl, _⟩ := h
    rcases hp with z | z
    · exact absurd z (nI_n0 (by omega))
    · exact absurd z (nI_ge hc (by omega))
  · rw [if_neg hp]
    refine ⟨fun z => absurd z (by decide), fun _ => ?_⟩
    obtain ⟨c, c31, rfl⟩ := nI_of (fun z => hp (Or.inl z))
    have hc : c < n := Classical.byContradiction fun z => hp (Or.inr (nI_le (by omega) (by omega)))
    have cc : ∀ {c' : Nat} {w : List Nat}, rvR n F Lk (nI c) c' w → c' = c := fun {c' w} h => ((nI_eq (by omega) (by have := h.1; omega)).mp h.2.1).symm
    refine am_run hX 5 _ _ _ _ ?_
    conv => whnf
    rw [hB.2.1]
    refine ⟨fun z => ?_, fun z => ?_⟩
    · have : ¬ n < 20 := fun q => absurd z (nI_ge (a := n) (b := 20) q (by decide))
      exact no (fun c w h => this h.2.2.1)
    · have hn : n < 20 := Classical.byContradiction fun q => z (nI_le (a := 20) (b := n) (by omega) (by omega))
      refine am_run hX 6 _ _ _ _ ?_
      conv => whnf
      refine am_cq (ct_canRo (d := 994) hB hc) ?_
      rintro r1 N1 ⟨rfl, ⟨hE, rfl⟩ | ⟨hE, rfl⟩⟩
      · refine ⟨_, rfl, ?_⟩
        have hD := rtE_D hB hc hJ hE
        refine am_run hX 1 _ _ _ _ ?_
        conv => whnf
        refine ⟨fun _ => ?_, fun z => absurd (by decide) z⟩
        refine am_run hX 6 _ _ _ _ ?_
        conv => whnf
        refine am_cq (ct_fWy (d := 993) (M := N1) hD) ?_
        rintro r2 N2 ⟨f2, ⟨w, hw, wl, rfl, w73⟩ | ⟨rfl, hno⟩⟩
        · refine ⟨_, rfl, ?_⟩
          have lw : w.length ≤ 300 := by omega
          refine am_run hX 4 _ _ _ _ ?_
          conv => whnf
          refine ⟨fun _ => ?_, fun z => absurd (nI_nm (by omega)) z⟩
          refine am_run hX 3 _ _ _ _ ?_
          conv => whnf
          refine am_c0 (ct_stDL (d := 998) (M := N2)) ?_
          refine am_run hX 7 _ _ _ _ ?_
          conv => whnf
          refine am_c0 (ct_putW (d := 994) (M := N2) (rtD_f f2 hD) hw.1 lw w73) ?_
          have hO := rtT_o (W := (F c).1) (Lk := Lk) (w := w) hE.2.1 (hB.2.2.2 c hc).2.2.2.2.2.2 hw.1
          have hO := zg_all.mpr hO
          have h7 : N2.1 9 7 = nI n := by rw [f2.1 9 (by decide) (by decide) (by decide)]; exact hB.2.1
          have hlen := rtY_l hw
          refine am_run hX 4 _ _ _ _ ?_
          conv => whnf
          by_cases ok : okL (rtT (F c).1 (F c).2 Lk w)
          · refine am_c1 (ct_keep1 (d := 996) (M := N2) (W := 6) (V := 6) h7 hn (by decide) (fun j hj => (hO j hj).1) ok) ?_
            refine am_run hX 4 _ _ _ _ ?_
            conv => whnf
            refine ⟨fun z => absurd z (nI_nm (by omega)), fun _ => ?_⟩
            refine am_run hX 4 _ _ _ _ ?_
            conv => whnf
            refine am_run hX 2 _ _ _ _ ?_
            conv => whnf
            refine ⟨trivial, Or.inl ⟨c, w, dlM N2 (rtT (F c).1 (F c).2 Lk w), ⟨hc, rfl, hn, hE, hw, ok⟩, rfl, rcF_d _ f2, drw_l _ _, ?_⟩⟩
            rw [kp_r _ _ _ _ (by decide), dl_r _ _ (by decide) (by decide), f2.1 70 (by decide) (by decide) (by decide)]
          · refine am_c1 (ct_keep0 (d := 996) (M := N2) (W := 6) (V := 6) h7 (by omega) (by decide) (fun j hj => (hO j hj).1) (by rw [hlen]; omega) (Or.inl ok)) ?_
            refine am_run hX 4 _ _ _ _ ?_
            conv => whnf
            refine ⟨fun _ => ?_, fun z => absurd rfl z⟩
            refine am_run hX 2 _ _ _ _ ?_
            conv => whnf
            refine ⟨trivial, Or.inr ⟨fun c' w' h => ?_, rfl, rcF_d _ f2⟩⟩
            have e := cc h
            subst e
            have e := rtY_u h.2.2.2.2.1 hw
            subst e
            exact ok h.2.2.2.2.2
        · refine ⟨_, rfl, ?_⟩
          refine am_run hX 4 _ _ _ _ ?_
          conv => whnf
          refine ⟨fun z => absurd rfl z, fun _ => ?_⟩
          refine am_run hX 2 _ _ _ _ ?_
          conv => whnf
          refine ⟨trivial, Or.inr ⟨fun c' w' h => ?_, rfl, rcF_w f2⟩⟩
          have e := cc h
          subst e
          have a := hno w' h.2.2.2.2.1
          have b := h.2.2.2.2.2.1
          rw [rtY_l h.2.2.2.2.1] at b
          omega
      · refine ⟨_, rfl, ?_⟩
        refine am_run hX 1 _ _ _ _ ?_
        conv => whnf
        refine ⟨fun z => absurd rfl z, fun _ => no (fun c' w' h => ?_)⟩
        have e := cc h
        subst e
        exact hE h.2.2.2.1
/-- what the reference's route comes to -/
def rtrQ (M : mm_M) (n : Nat) (F : Nat → Nat × List bk_X) (Lk : Nat → Nat → Bool) (p : Int32) (r : am_R) (N : mm_M) : Prop := (∃ c w N1, rvR n F Lk p c w ∧ r = .inl (some (aI (nI n))) ∧ rqG n (th0 M) N1 ∧ lfn N1 n (rtT (F c).1 (F c).2 Lk w) ∧ N1.1 108 139 = nI w.length ∧ N = stM N1 n 6) ∨ ((∀ c w, ¬ rvR n F Lk p c w) ∧ r = .inl (some (aI (-1))) ∧ rqF n (th0 M) N)
set_option maxRecDepth 100000 in
theorem ct_rtR (hB : bkR M n F) (hk : lkR M Lk) (p : Int32) : am_M 1000 false nm_X12_route [aR 108, aI p] M (rtrQ M n F Lk p) := by
  have n20 := hB.1
  have hB' : bkR (th0 M) n F := hB
  have hk' : lkR (th0 M) Lk := hk
  refine ⟨rfl, rfl, rfl, fun X hX => am_run hX 3 _ _ _ _ ?_⟩
  have no : (∀ c w, ¬ rvR n F Lk p c w) → X 30 [some (aR 108), some (aI p), none, none, none, none] [] (th0 M) := by
    intro hno
    refine am_run hX 2 _ _ _ _ ?_
    conv => whnf
    exact ⟨trivial, Or.inr ⟨hno, rfl, rqF_r n _⟩⟩
  conv => whnf
  refine am_run hX 3 _ _ _ _ ?_
  conv => whnf
  refine am_c1 (bk_iscV (d := 998) (h := p) hB) ?_
  refine am_run hX 1 _ _ _ _ ?_
  conv => whnf
  by_cases hp : p < 0 ∨ nI n ≤ p
  · rw [if_pos hp]
    refine ⟨fun _ => no (fun c w h => ?_), fun z => absurd rfl z⟩
    obtain ⟨hc, rfl, _⟩ := h
    rcases hp with z | z
    · exact absurd z (nI_n0 (by omega))
    · exact absurd z (nI_ge hc (by omega))
  · rw [if_neg hp]
    refine ⟨fun z => absurd z (by decide), fun _ => ?_⟩
    obtain ⟨c, c31, rfl⟩ := nI_of (fun z => hp (Or.inl z))
    have hc : c < n := Classical.byContradiction fun z => hp (Or.inr (nI_le (by omega) (by omega)))
    have cc : ∀ {c' : Nat} {w : List Nat}, rvR n F Lk (nI c) c' w → c' = c := fun {c' w} h => ((nI_eq (by omega) (by have := h.1; omega)).mp h.2.1).symm
    obtain ⟨w1, w8, f110, hl, ok, hg⟩ := hB'.2.2 c hc
    refine am_run hX 4 _ _ _ _ ?_
    conv => whnf
    rw [hB'.2.1]
    refine ⟨fun z => ?_, fun z => ?_⟩
    · have : ¬ n < 20 := fun q => by
        have := (nI_eq (a := n) (b := 20) (by omega) (by decide)).mp z
        omega
      exact no (fun c w h => this h.2.2.1)
    · have hn : n < 20 := by
        have : n ≠ 20 := fun q => z (by rw [q]; rfl)
        omega
      refine am_run hX 3 _ _ _ _ ?_
      conv => whnf
      refine am_cq (ct_canRr (d := 996) (M := th0 M) (by omega) w8 f110 hl) ?_
      rintro r1 N1 ⟨rfl, ⟨hE, rfl⟩ | ⟨hE, rfl⟩⟩
      · refine ⟨_, rfl, ?_⟩
        refine am_run hX 1 _ _ _ _ ?_
        conv => whnf
        refine ⟨fun _ => ?_, fun z => absurd (by decide) z⟩
        refine rr_t (d := 993) (M := th0 M) (b := n) (c := c) hX hn hc hB'.2.1 ⟨by omega, ⟨w1, hE.2.1⟩, hl, f110, hk', fun j hj => ⟨hg j hj, hE.1 j hj⟩, hE.2.2⟩ (fun r N hq => ?_)
        rcases hq with ⟨w, N1, hY, ok, rfl, rfl, f, L, s⟩ | ⟨hno, rfl, f⟩
        · exact Or.inl ⟨c, w, N1, ⟨hc, rfl, hn, hE, hY, ok⟩, rfl, f, L, s, rfl⟩
        · refine Or.inr ⟨fun c' w' h => ?_, rfl, f⟩
          have e := cc h
          subst e
          exact hno w' h.2.2.2.2.1 h.2.2.2.2.2
      · refine ⟨_, rfl, ?_⟩
        refine am_run hX 1 _ _ _ _ ?_
        conv => whnf
        refine ⟨fun z => absurd rfl z, fun _ => no (fun c' w' h => ?_)⟩
        have e := cc h
        subst e
        exact hE h.2.2.2.1
end RTX
theorem bkX_rq {M N : mm_M} {n : Nat} {F : Nat → Nat × List bk_X} (h : rqF n (th0 M) N) (hB : bkX M n F) : bkX N n F := by
  have e : ∀ k, k < 108 → N.1 k = M.1 k := fun k hk => (h.1 k (by omega) (by omega) (by omega) (by omega)).trans (mm_ne _ _ _ _ (by omega))
  have e1 : ∀ k, k = 110 ∨ k = 111 → N.1 k = M.1 k := fun k hk => (h.1 k (by omega) (by omega) (by omega) (by omega)).trans (mm_ne _ _ _ _ (by omega))
  have e2 : ∀ k a, 112 ≤ k → k ≤ 117 → a < 300 * n → N.1 k a = M.1 k a := fun k a k1 k2 ha => (h.2.2.2 k a k1 k2 ha).trans (by unfold th0; rw [mm_ne _ _ _ _ (by omega)])
  obtain ⟨b1, b2, b3, b4⟩ := hB
  refine ⟨b1, by rw [e 9 (by decide)]; exact b2, by rw [h.2.2.1 6 (by decide) (by decide) (by decide) (by decide)]; exact b3, fun c hc => ?_⟩
  obtain ⟨a1, a2, a3, a4, ⟨l1, l2, l3, l4⟩, a6⟩ := b4 c hc
  refine ⟨a1, a2, by rw [e 12 (by decide)]; exact a3, by rw [e1 110 (by omega)]; exact a4, ⟨by rw [e 11 (by decide)]; exact l1, by rw [e1 111 (by omega)]; exact l2, l3, fun j hj => ⟨(l4 j hj).1, ?_⟩⟩, a6⟩
  have h := (l4 j hj).2
  unfold bk_o at h ⊢
  rw [e 10 (by decide), e2 112 _ (by decide) (by decide) (by omega), e2 113 _ (by decide) (by decide) (by omega), e2 114 _ (by decide) (by decide) (by omega), e2 115 _ (by decide) (by decide) (by omega), e2 116 _ (by decide) (by decide) (by omega), e2 117 _ (by decide) (by decide) (by omega)]
  exact h
/-- the bank with one more, from what is known of both sides -/
theorem bkX_ng {N1 N2 : mm_M} {n V : Nat} {F : Nat → Nat × List bk_X} {L : List bk_X} (hB : bkX N1 n F) (hn : n < 20) (ok : okL L) (hd : drw N1 L) (eK : ∀ k, 9 ≤ k → k ≤ 12 → N2.1 k = (kpM N1 n L.length V).1 k) (o1 : ∀ k, k = 110 ∨ k = 111 → N2.1 k = N1.1 k) (o2 : ∀ k a, 112 ≤ k → k ≤ 117 → a < 300 * n → N2.1 k a = N1.1 k a) (hL : lfn N2 n L) (v1 : 1 ≤ V) (v8 : V ≤ 8) (ho : ∀ x ∈ L, ogd V x) : bkX (stM N2 n V) (n + 1) (nwF F n V L) := by
  have ho := zg_all.mpr ho
  have eS : ∀ k, k ≠ 108 → k ≠ 110 → k ≠ 111 → (stM N2 n V).1 k = N2.1 k := fun k a b c => by
    unfold stM
    rw [mm_ne _ _ _ _ a, mm_ne _ _ _ _ c, mm_ne _ _ _ _ b]
  have e : ∀ k, 9 ≤ k → k ≤ 12 → (stM N2 n V).1 k = (kpM N1 n L.length V).1 k := fun k h1 h2 => (eS k (by omega) (by omega) (by omega)).trans (eK k h1 h2)
  have s110 : (stM N2 n V).1 110 = upd (N1.1 110) n (nI V) := by
    unfold stM
    rw [mm_ne _ _ _ _ (by decide), mm_ne _ _ _ _ (by decide), mm_i1, o1 110 (by omega)]
  obtain ⟨g1, g2, g3⟩ := hL.1 ok
  have s111 : (stM N2 n V).1 111 = upd (N1.1 111) n (nI L.length) := by
    unfold stM
    rw [mm_ne _ _ _ _ (by decide), mm_i1, o1 111 (by omega), g2]
  have e2 : ∀ k a, 112 ≤ k → k ≤ 117 → a < 300 * n → (stM N2 n V).1 k a = N1.1 k a := fun k a k1 k2 ha => by
    rw [eS k (by omega) (by omega) (by omega), o2 k a k1 k2 ha]
  obtain ⟨b1, b2, b3, b4⟩ := hB
  refine ⟨by omega, by rw [e 9 (by decide) (by decide)]; exact kp_9 _ _ _ _, ?_, fun c hc => ?_⟩
  · unfold stM
    rw [mm_i1]
    exact up_at
  by_cases q : c = n
  · subst q
    rw [nw_n]
    refine ⟨v1, v8, by rw [e 12 (by decide) (by decide), kp_12]; exact up_at, by rw [s110]; exact up_at, ⟨by rw [e 11 (by decide) (by decide), kp_11u]; exact up_at, by rw [s111]; exact up_at, ok.1, fun j hj => ⟨(ho j hj).1, ?_⟩⟩, ok, ho⟩
    obtain ⟨r1, r2, r3, r4, r5, r6⟩ := g3 j hj
    unfold bk_o
    rw [e 10 (by decide) (by decide), eS 112 (by decide) (by decide) (by decide), eS 113 (by decide) (by decide) (by decide), eS 114 (by decide) (by decide) (by decide), eS 115 (by decide) (by decide) (by decide), eS 116 (by decide) (by decide) (by decide), eS 117 (by decide) (by decide) (by decide)]
    refine ⟨?_, r1, r2, r3, r4, r5, r6⟩
    have hj : j < L.length := hj
    have ok1 := ok.1
    rw [kp_10u]
    unfold va_cpy
    rw [if_pos ⟨by omega, by omega⟩, show 0 + (300 * c + j - 300 * c) = j by omega]
    exact hd.2 j (by omega)
  · have hc : c < n := by omega
    rw [nw_o q]
    obtain ⟨a1, a2, a3, a4, a5, a6⟩ := b4 c hc
    obtain ⟨l1, l2, l3, l4⟩ := a5
    refine ⟨a1, a2, by rw [e 12 (by decide) (by decide), kp_12, up_ne q]; exact a3, by rw [s110, up_ne q]; exact a4, ⟨by rw [e 11 (by decide) (by decide), kp_11u, up_ne q]; exact l1, by rw [s111, up_ne q]; exact l2, l3, fun j hj => ⟨(l4 j hj).1, ?_⟩⟩, a6⟩
    have h := (l4 j hj).2
    unfold bk_o at h ⊢
    rw [e 10 (by decide) (by decide), kp_10 _ _ _ (by omega), e2 112 _ (by decide) (by decide) (by omega), e2 113 _ (by decide) (by decide) (by omega), e2 114 _ (by decide) (by decide) (by omega), e2 115 _ (by decide) (by decide) (by omega), e2 116 _ (by decide) (by decide) (by omega), e2 117 _ (by decide) (by decide) (by omega)]
    exact h
/-- what route may change -/
def rotF (M N : mm_M) : Prop := (∀ k, (k < 9 ∨ 13 < k) → k ≠ 70 → (k < 73 ∨ 77 < k) → k ≠ 108 → (k < 110 ∨ 117 < k) → (k < 133 ∨ 135 < k) → (k < 196 ∨ 201 < k) → N.1 k = M.1 k) ∧ (∀ k, k ≠ 75 → k ≠ 77 → N.2 k = M.2 k) ∧ (∀ y, y ≠ 0 → y ≠ 6 → y ≠ 36 → y ≠ 37 → y ≠ 38 → y ≠ 139 → y ≠ 146 → N.1 108 y = M.1 108 y) ∧ (∀ y, y ≠ 13 → N.1 70 y = M.1 70 y) ∧ ((N.1 70 13 = M.1 70 13 ∧ N.1 108 139 = M.1 108 139) ∨ N.1 70 13 = N.1 108 139)
section PRT
variable {ac : Nat → ClassId} {lo : Nat} {ad as : Nat → Nat} {b L : Nat} {zs : Nat → Int32} {hp : mm_M → Nat → xm_H} {I J : mm_M → Prop}
/-- the invariant: the bank, and the CHIP -/
def rt_iv (M : mm_M) : Prop := (∃ Lk, chJ M Lk) ∧ ∃ n F, bkX M n F
theorem pr_route (H : mm_L ac lo hp) (h1 : ∀ M, I M → rt_iv M) (hJ : ∀ M N, I M → rotF M N → rt_iv N → J N) (p : Int32) : la_I ac lo ad as b L zs hp I J nm_X11_route nm_X12_route [.int p] := by
  refine am_la_I (us := [aI p]) H fun M hI => ?_
  obtain ⟨⟨Lk, hC⟩, n, F, hB⟩ := h1 M hI
  refine am_wk (ct_rtC hB hC p) fun r M1 hq => ?_
  rcases hq with ⟨c, w, N1, hv, rfl, f1, d1, rfl⟩ | ⟨hno, rfl, f1⟩
  · refine ⟨nI n, rfl, ?_⟩
    have hB1 := bkX_F (rcF_b f1) hB
    generalize hT : rtT (F c).1 (F c).2 Lk w = T at *
    generalize hK : mm_i (kpM N1 n T.length 6) 70 (upd (M.1 70) 13 (nI w.length)) = K
    have k1 : ∀ k, k ≠ 70 → K.1 k = (kpM N1 n T.length 6).1 k := fun k hk => by rw [← hK, mm_ne _ _ _ _ hk]
    have k2 : ∀ k, K.2 k = N1.2 k := fun k => by rw [← hK]; rfl
    have k3 : K.1 70 = upd (M.1 70) 13 (nI w.length) := by rw [← hK, mm_i1]
    have hR : bkR K n F := by
      obtain ⟨x1, x2, x3⟩ := bkR_kp (V := 6) hB1 T.length
      refine ⟨x1, by rw [k1 108 (by decide)]; exact x2, fun c' hc' => ?_⟩
      obtain ⟨a1, a2, a3, a4, a5⟩ := x3 c' hc'
      refine ⟨a1, a2, by rw [k1 110 (by decide)]; exact a3, ?_, a5⟩
      unfold opsL bk_o at a4 ⊢
      rw [k1 10 (by decide), k1 11 (by decide), k1 111 (by decide), k1 112 (by decide), k1 113 (by decide), k1 114 (by decide), k1 115 (by decide), k1 116 (by decide), k1 117 (by decide)]
      exact a4
    have hk : lkR K Lk := by
      have := hC.2.2
      unfold lkR at this ⊢
      rw [k1 195 (by decide), kp_r _ _ _ _ (by decide), f1.1 195 (by decide) (by decide) (by decide) (by decide) (by decide)]
      exact this
    refine am_wk (ct_rtR hR hk p) fun r2 M2 hq2 => ?_
    rcases hq2 with ⟨c', w', N2, hv', rfl, f2, l2, s2, rfl⟩ | ⟨hno, _⟩
    · have ec : c' = c := by
        have a := hv.2.1
        have b := hv'.2.1
        rw [a] at b
        have n20 := hB.1
        exact ((nI_eq (by have := hv.1; omega) (by have := hv'.1; omega)).mp b).symm
      subst ec
      have ew : w' = w := rtY_u hv'.2.2.2.2.1 hv.2.2.2.2.1
      subst ew
      rw [hT] at l2
      have e2 : ∀ k, k ≠ 108 → (k < 112 ∨ 117 < k) → (k < 133 ∨ 135 < k) → (k < 196 ∨ 201 < k) → N2.1 k = K.1 k := fun k a b c e => (f2.1 k a b c e).trans (mm_ne _ _ _ _ a)
      have eS : ∀ k, k ≠ 108 → k ≠ 110 → k ≠ 111 → (stM N2 n 6).1 k = N2.1 k := fun k a b c => by
        unfold stM
        rw [mm_ne _ _ _ _ a, mm_ne _ _ _ _ c, mm_ne _ _ _ _ b]
      have s13 : (stM N2 n 6).1 70 = upd (M.1 70) 13 (nI w'.length) := by
        rw [eS 70 (by decide) (by decide) (by decide), e2 70 (by decide) (by omega) (by omega) (by omega), k3]
      have eM : ∀ k, (k < 9 ∨ 13 < k) → k ≠ 70 → (k < 73 ∨ 77 < k) → k ≠ 108 → (k < 110 ∨ 117 < k) → (k < 133 ∨ 135 < k) → (k < 196 ∨ 201 < k) → (stM N2 n 6).1 k = M.1 k := fun k a b c e f g i => by
        rw [eS k e (by omega) (by omega), e2 k e (by omega) g i, k1 k b, kp_r _ _ _ _ (by omega), f1.1 k (by omega) (by omega) (by omega) (by omega) (by omega)]
      refine ⟨rfl, hJ M _ hI ⟨eM, fun k a b => ?_, fun y a b c e f g i => ?_, fun y hy => by rw [s13, up_ne hy], Or.inr ?_⟩ ⟨⟨Lk, chJ_f (eM 72 (by omega) (by decide) (by omega) (by decide) (by omega) (by omega) (by omega)) (by rw [s13, up_ne (by decide)]) (eM 195 (by omega) (by decide) (by omega) (by decide) (by omega) (by omega) (by omega)) hC⟩, n + 1, _, bkX_ng hB1 hv.2.2.1 (by rw [← hT]; exact hv.2.2.2.2.2) d1 (fun k a b => ?_) (fun k a => ?_) (fun k a x1 x2 x3 => ?_) l2 (by decide) (by decide) ?_⟩⟩
      · show N2.2 k = M.2 k
        rw [f2.2.1]
        show K.2 k = M.2 k
        rw [k2 k]
        exact f1.2.1 k a b
      · unfold stM
        rw [mm_i1, up_ne b, f2.2.2.1 y c e f g i]
        unfold th0
        rw [mm_i1, up_ne a, k1 108 (by decide), kp_r _ _ _ _ (by decide), f1.1 108 (by decide) (by decide) (by decide) (by decide) (by decide)]
      · rw [s13, up_at]
        unfold stM
        rw [mm_i1, up_ne (by decide), s2]
      · rw [e2 k (by omega) (by omega) (by omega) (by omega), k1 k (by omega)]
      · rw [e2 k (by omega) (by omega) (by omega) (by omega), k1 k (by omega), kp_r _ _ _ _ (by omega)]
      · rw [f2.2.2.2 k a x1 x2 x3]
        unfold th0
        rw [mm_ne _ _ _ _ (by omega), k1 k (by omega), kp_r _ _ _ _ (by omega)]
      · rw [← hT]
        exact rtT_o hv.2.2.2.1.2.1 (hB.2.2.2 _ hv.1).2.2.2.2.2.2 hv.2.2.2.2.1.1
    · exact absurd hv (hno c w)
  · refine ⟨-1, rfl, ?_⟩
    have hB1 := bkX_F (rcF_b f1) hB
    have hk : lkR M1 Lk := by
      have := hC.2.2
      unfold lkR at this ⊢
      rw [f1.1 195 (by decide) (by decide) (by decide) (by decide) (by decide)]
      exact this
    refine am_wk (ct_rtR (bkX_r hB1) hk p) fun r2 M2 hq2 => ?_
    rcases hq2 with ⟨c', w', N2, hv', _⟩ | ⟨_, rfl, f2⟩
    · exact absurd hv' (hno c' w')
    · have e2 : ∀ k, k ≠ 108 → (k < 112 ∨ 117 < k) → (k < 133 ∨ 135 < k) → (k < 196 ∨ 201 < k) → M2.1 k = M1.1 k := fun k a b c e => (f2.1 k a b c e).trans (mm_ne _ _ _ _ a)
      have eM : ∀ k, (k < 9 ∨ 13 < k) → k ≠ 70 → (k < 73 ∨ 77 < k) → k ≠ 108 → (k < 110 ∨ 117 < k) → (k < 133 ∨ 135 < k) → (k < 196 ∨ 201 < k) → M2.1 k = M.1 k := fun k a b c e f g i => by
        rw [e2 k e (by omega) g i, f1.1 k (by omega) (by omega) (by omega) (by omega) (by omega)]
      have e70 : M2.1 70 = M.1 70 := by
        rw [e2 70 (by decide) (by omega) (by omega) (by omega), f1.1 70 (by decide) (by decide) (by decide) (by decide) (by decide)]
      refine ⟨rfl, hJ M _ hI ⟨eM, fun k a b => ?_, fun y a b c e f g i => ?_, fun y hy => by rw [e70], Or.inl ⟨by rw [e70], ?_⟩⟩ ⟨⟨Lk, chJ_f (eM 72 (by omega) (by decide) (by omega) (by decide) (by omega) (by omega) (by omega)) (by rw [e70]) (eM 195 (by omega) (by decide) (by omega) (by decide) (by omega) (by omega) (by omega)) hC⟩, n, F, ?_⟩⟩
      · rw [f2.2.1]
        exact f1.2.1 k a b
      · rw [f2.2.2.1 y c e f i]
        unfold th0
        rw [mm_i1, up_ne a, f1.1 108 (by decide) (by decide) (by decide) (by decide) (by decide)]
      · rw [f2.2.2.1 139 (by decide) (by decide) (by decide) (by decide)]
        unfold th0
        rw [mm_i1, up_ne (by decide), f1.1 108 (by decide) (by decide) (by decide) (by decide) (by decide)]
      · exact bkX_rq f2 hB1
end PRT
