/-! DIAGRAMS: MEANING -/
theorem red_00 (x : R4) : red 0 x = (x, 0) := rfl
noncomputable def mnX (m inp : Nat) (W : WB) (a b : Nat) : R4 := (mnV m inp W a b 0, mnV m inp W a b 1, mnV m inp W a b 2, mnV m inp W a b 3)
theorem mnV_b {m inp a b p : Nat} {W : WB} (h : icn inp W 60 ≤ 12) : -4096 ≤ mnV m inp W a b p ∧ mnV m inp W a b p ≤ 4096 := by
  have h1 : (2 : Nat) ^ icn inp W 60 ≤ 4096 := Nat.pow_le_pow_right (n := 2) (j := 12) (by decide) h
  have h2 := wsm_b (ok := fun w => wyC W (uvW (fxV inp a b) (ick inp W 60) w (icn inp W 60)) m) (eg := fun w => egC W (uvW (fxV inp a b) (ick inp W 60) w (icn inp W 60)) m) (p := p) (2 ^ icn inp W 60)
  unfold mnV
  omega
theorem mnX_bd {m inp a b : Nat} {W : WB} (h : icn inp W 60 ≤ 12) : bd (mnX m inp W a b) := by
  have b0 := mnV_b (m := m) (a := a) (b := b) (p := 0) h
  have b1 := mnV_b (m := m) (a := a) (b := b) (p := 1) h
  have b2 := mnV_b (m := m) (a := a) (b := b) (p := 2) h
  have b3 := mnV_b (m := m) (a := a) (b := b) (p := 3) h
  unfold bd mnX
  dsimp only
  omega
section MNG
variable {d m inp : Nat} {N : mm_M} {W : WB}
set_option maxRecDepth 100000 in
theorem ct_ci2 (h : cwR N m inp W) (g : gdW m inp W) : am_M (d + 2) false nm_X10_countInner [aR 39] N (am_q1 (aI (nI (icn inp W 60))) N) := by
  refine ⟨rfl, rfl, rfl, fun X hX => am_run hX 10 _ _ _ _ ?_⟩
  conv => whnf
  refine am_c1 (ct_out (d := d) h) ?_
  conv => whnf
  have eb : lbc (N.2 39 10 &&& (outJ inp ^^^ -1)) = nI (icn inp W 60) := by
    rw [lbc_s (f := fun j => W.1 j && decide (2 * inp ≤ j)) fun j hj => by rw [Int64.toBitVec_and, BitVec.getLsbD_and, h.2.2.1 j hj, outn_b g.2.2.1 hj]]
    congr 1
    have : icn inp W 64 = icn inp W 60 := sm_zz 4 fun j hj _ => if_neg fun z => by
      have := g.1
      have := g.2.2.2.2.1 j z.2
      omega
    rw [← this]
    refine sm_e 64 fun j _ => ?_
    by_cases c : 2 * inp ≤ j ∧ W.1 j = true
    · rw [if_pos c, if_pos]
      show (W.1 j && decide (2 * inp ≤ j)) = true
      rw [c.2, decide_eq_true c.1]
      rfl
    · rw [if_neg c, if_neg]
      intro z
      have z : (W.1 j && decide (2 * inp ≤ j)) = true := z
      rw [Bool.and_eq_true] at z
      exact c ⟨of_decide_eq_true z.2, z.1⟩
  have kb := ct_lbc (d := d) (M := N) (N.2 39 10 &&& (outJ inp ^^^ -1))
  rw [eb] at kb
  refine am_c1 kb ?_
  conv => whnf
  exact ⟨trivial, rfl, rfl⟩
/-- what is refused: the numbers -/
def mn_bad (inp : Nat) (p1 p2 q : Int32) : Prop := (p1 < 0 ∨ nI (2 ^ inp) ≤ p1) ∨ (p2 < 0 ∨ nI (2 ^ inp) ≤ p2) ∨ q < 0 ∨ ¬ q ≤ 4
set_option maxRecDepth 100000 in
theorem mn_x1 {a b : Nat} {q : Int32} (m1 : 1 ≤ m) (h : cwR N m inp W) (g : gdW m inp W) (n12 : icn inp W 60 ≤ 12) (ha : a < 2 ^ inp) (hb : b < 2 ^ inp) (hq : askI N m inp W) (q0 : ¬ q < 0) (q4 : q ≤ 4) (t : Bool) : am_M (d + 4) t nm_X11_meaning [aR 0, aI (nI a), aI (nI b), aI q] N (fun r N' => r = .inl (some (aJ (rp (red 0 (mnX m inp W a b)) q))) ∧ cmF N N' ∧ askI N' m inp W) := by
  have i4 := g.2.2.1
  have m60 := g.1
  have a16 := p16 i4 ha
  have b16 := p16 i4 hb
  have pb : (2 : Nat) ^ inp ≤ 16 := Nat.pow_le_pow_right (n := 2) (j := 4) (by decide) i4
  refine ⟨rfl, rfl, rfl, fun X hX => am_run hX 10 _ _ _ _ ?_⟩
  conv => whnf
  rw [h.2.1, sh2 inp (by omega), h.1]
  refine ⟨fun c => absurd c (nI_ne0 (by omega) (by omega)), fun _ => ?_⟩
  refine am_run hX 2 _ _ _ _ ?_
  conv => whnf
  refine ⟨fun c => absurd c (nI_pos (by omega)), fun _ => ?_⟩
  refine am_run hX 3 _ _ _ _ ?_
  conv => whnf
  refine ⟨fun c => absurd c (nI_ge ha (by omega)), fun _ => ?_⟩
  refine am_run hX 2 _ _ _ _ ?_
  conv => whnf
  refine ⟨fun c => absurd c (nI_pos (by omega)), fun _ => ?_⟩
  refine am_run hX 3 _ _ _ _ ?_
  conv => whnf
  refine ⟨fun c => absurd c (nI_ge hb (by omega)), fun _ => ?_⟩
  refine am_run hX 2 _ _ _ _ ?_
  conv => whnf
  refine ⟨fun c => absurd c q0, fun _ => ?_⟩
  refine am_run hX 3 _ _ _ _ ?_
  conv => whnf
  refine ⟨fun _ => ?_, fun c => absurd q4 c⟩
  refine am_run hX 3 _ _ _ _ ?_
  conv => whnf
  refine am_c1 (ct_ci2 (d := d + 1) h g) ?_
  conv => whnf
  refine am_run hX 2 _ _ _ _ ?_
  conv => whnf
  refine ⟨fun _ => ?_, fun c => absurd (nI_le (a := icn inp W 60) (b := 12) n12 (by decide)) c⟩
  refine am_run hX 5 _ _ _ _ ?_
  conv => whnf
  refine am_cq (ct_sum (d := d) h g n12 ha hb hq) ?_
  rintro r N' ⟨rfl, f1, f2, f3⟩
  refine ⟨_, rfl, ?_⟩
  conv => whnf
  refine am_run hX 30 _ _ _ _ ?_
  conv => whnf
  refine ⟨by first | exact i4_0 | exact i4_1 | exact i4_2 | exact i4_3, ?_⟩
  conv => whnf
  refine ⟨by first | exact i4_0 | exact i4_1 | exact i4_2 | exact i4_3, ?_⟩
  conv => whnf
  refine ⟨by first | exact i4_0 | exact i4_1 | exact i4_2 | exact i4_3, ?_⟩
  conv => whnf
  refine ⟨by first | exact i4_0 | exact i4_1 | exact i4_2 | exact i4_3, ?_⟩
  conv => whnf
  rw [show N'.2 45 (Int32.toNatClampNeg 0) = lI (mnV m inp W a b 0) from f3 0 (by decide), show N'.2 45 (Int32.toNatClampNeg 1) = lI (mnV m inp W a b 1) from f3 1 (by decide), show N'.2 45 (Int32.toNatClampNeg 2) = lI (mnV m inp W a b 2) from f3 2 (by decide), show N'.2 45 (Int32.toNatClampNeg 3) = lI (mnV m inp W a b 3) from f3 3 (by decide)]
  refine am_c1 (ct_root (d := d + 2) (x := mnX m inp W a b) (k := 0) q (by decide) (mnX_bd n12)) ?_
  conv => whnf
  exact ⟨trivial, rfl, f1, Or.inr ⟨a, b, ha, hb, f2, f3⟩⟩
set_option maxRecDepth 100000 in
theorem mn_x2 {a b : Nat} {q : Int32} (m1 : 1 ≤ m) (h : cwR N m inp W) (g : gdW m inp W) (n12 : 12 < icn inp W 60) (ha : a < 2 ^ inp) (hb : b < 2 ^ inp) (q0 : ¬ q < 0) (q4 : q ≤ 4) : am_M 999 true nm_X11_meaning [aR 0, aI (nI a), aI (nI b), aI q] N (fun r N' => r = .inr "java/lang/IllegalStateException" ∧ N' = N) := by
  have i4 := g.2.2.1
  have m60 := g.1
  have a16 := p16 i4 ha
  have b16 := p16 i4 hb
  have pb : (2 : Nat) ^ inp ≤ 16 := Nat.pow_le_pow_right (n := 2) (j := 4) (by decide) i4
  have bn := inL_b (inL_c g)
  refine ⟨rfl, rfl, rfl, fun X hX => am_run hX 10 _ _ _ _ ?_⟩
  conv => whnf
  rw [h.2.1, sh2 inp (by omega), h.1]
  refine ⟨fun c => absurd c (nI_ne0 (by omega) (by omega)), fun _ => ?_⟩
  refine am_run hX 2 _ _ _ _ ?_
  conv => whnf
  refine ⟨fun c => absurd c (nI_pos (by omega)), fun _ => ?_⟩
  refine am_run hX 3 _ _ _ _ ?_
  conv => whnf
  refine ⟨fun c => absurd c (nI_ge ha (by omega)), fun _ => ?_⟩
  refine am_run hX 2 _ _ _ _ ?_
  conv => whnf
  refine ⟨fun c => absurd c (nI_pos (by omega)), fun _ => ?_⟩
  refine am_run hX 3 _ _ _ _ ?_
  conv => whnf
  refine ⟨fun c => absurd c (nI_ge hb (by omega)), fun _ => ?_⟩
  refine am_run hX 2 _ _ _ _ ?_
  conv => whnf
  refine ⟨fun c => absurd c q0, fun _ => ?_⟩
  refine am_run hX 3 _ _ _ _ ?_
  conv => whnf
  refine ⟨fun _ => ?_, fun c => absurd q4 c⟩
  refine am_run hX 3 _ _ _ _ ?_
  conv => whnf
  refine am_c1 (ct_ci2 (d := 996) h g) ?_
  conv => whnf
  refine am_run hX 2 _ _ _ _ ?_
  conv => whnf
  refine ⟨fun c => absurd c (nI_ge (a := 12) (b := icn inp W 60) n12 (by omega)), fun _ => ?_⟩
  refine am_run hX 5 _ _ _ _ ?_
  conv => whnf
  exact ⟨⟨by decide, rfl⟩, rfl, rfl⟩
set_option maxRecDepth 100000 in
theorem mn_x0 {p1 p2 q : Int32} (h : (N.1 39 6 = 0 ∧ N.1 108 98 = 0) ∨ ∃ m inp W, 1 ≤ m ∧ cwR N m inp W ∧ rwR N inp W ∧ gdW m inp W ∧ mn_bad inp p1 p2 q) : am_M 999 true nm_X11_meaning [aR 0, aI p1, aI p2, aI q] N (fun r N' => r = .inr "java/util/NoSuchElementException" ∧ N' = N) := by
  have bad : ∀ {X : am_X}, am_K 998 true nm_X11_meaning (fun r N' => r = .inr "java/util/NoSuchElementException" ∧ N' = N) X → ∀ l4, X 50 [some (aR 0), some (aI p1), some (aI p2), some (aI q), l4] [] N := fun {X} hX l4 => by
    refine am_run hX 5 _ _ _ _ ?_
    conv => whnf
    exact ⟨⟨by decide, rfl⟩, rfl, rfl⟩
  refine ⟨rfl, rfl, rfl, fun X hX => am_run hX 10 _ _ _ _ ?_⟩
  conv => whnf
  refine ⟨fun c => bad hX _, fun c => ?_⟩
  rcases h with h | ⟨m, inp, W, m1, h, hr, g, hx⟩
  · exact absurd h.1 c
  · have i4 := g.2.2.1
    rw [h.2.1, sh2 inp (by omega)]
    refine am_run hX 2 _ _ _ _ ?_
    conv => whnf
    refine ⟨fun c => bad hX _, fun c1 => ?_⟩
    refine am_run hX 3 _ _ _ _ ?_
    conv => whnf
    refine ⟨fun c => bad hX _, fun c2 => ?_⟩
    refine am_run hX 2 _ _ _ _ ?_
    conv => whnf
    refine ⟨fun c => bad hX _, fun c3 => ?_⟩
    refine am_run hX 3 _ _ _ _ ?_
    conv => whnf
    refine ⟨fun c => bad hX _, fun c4 => ?_⟩
    refine am_run hX 2 _ _ _ _ ?_
    conv => whnf
    refine ⟨fun c => bad hX _, fun c5 => ?_⟩
    refine am_run hX 3 _ _ _ _ ?_
    conv => whnf
    refine ⟨fun c6 => ?_, fun c => bad hX _⟩
    exfalso
    rcases hx with (hx | hx) | (hx | hx) | hx | hx
    · exact absurd hx c1
    · exact absurd hx c2
    · exact absurd hx c3
    · exact absurd hx c4
    · exact absurd hx c5
    · exact absurd c6 hx

theorem rwR_n {v : Int32} (h : rwR N inp W) : rwR (mm_i N 108 (upd (N.1 108) 0 v)) inp W := h
/-- what the reference may change, with what was thrown -/
def rmG (N N' : mm_M) : Prop := (∀ k, k ≠ 108 → k ≠ 174 → k ≠ 175 → N'.1 k = N.1 k) ∧ (∀ j, j ≠ 0 → N'.1 108 j = N.1 108 j) ∧ ∀ k, k ≠ 153 → k ≠ 118 → N'.2 k = N.2 k
theorem rmG_r (N : mm_M) : rmG N N := ⟨fun _ _ _ _ => rfl, fun _ _ => rfl, fun _ _ _ => rfl⟩
theorem rmG_t {M K : mm_M} (h : rmG M N) (h' : rmG N K) : rmG M K := ⟨fun k a b c => (h'.1 k a b c).trans (h.1 k a b c), fun j a => (h'.2.1 j a).trans (h.2.1 j a), fun k a b => (h'.2.2 k a b).trans (h.2.2 k a b)⟩
theorem rmG_n {v : Int32} : rmG N (mm_i N 108 (upd (N.1 108) 0 v)) := ⟨fun k hk _ _ => if_neg hk, fun j hj => by
  show upd (N.1 108) 0 v j = N.1 108 j
  exact if_neg hj, fun _ _ _ => rfl⟩
theorem rmF_l {f : Nat → Int64} : rmF N (mm_l N 153 f) := ⟨fun _ _ _ => rfl, fun k hk _ => if_neg hk⟩
theorem rmG_f {N' : mm_M} (h : rmF N N') : rmG N N' := ⟨fun k _ b c => h.1 k b c, fun j _ => by rw [h.1 108 (by decide) (by decide)], h.2⟩
set_option maxRecDepth 100000 in
theorem mn_m0 {p1 p2 q : Int32} (h : (N.1 39 6 = 0 ∧ N.1 108 98 = 0) ∨ ∃ m inp W, 1 ≤ m ∧ cwR N m inp W ∧ rwR N inp W ∧ gdW m inp W ∧ mn_bad inp p1 p2 q) : am_M (d + 1) false nm_X12_meaning [aR 108, aI p1, aI p2, aI q] N (am_q1 (aJ 0) (th1 N)) := by
  have bad : ∀ {X : am_X}, am_K d false nm_X12_meaning (am_q1 (aJ 0) (th1 N)) X → X 48 [some (aR 108), some (aI p1), some (aI p2), some (aI q), none, none, none, none] [] N := fun {X} hX => by
    refine am_run hX 5 _ _ _ _ ?_
    conv => whnf
    refine ⟨fun _ => ?_, fun c => absurd rfl c⟩
    refine am_run hX 4 _ _ _ _ ?_
    conv => whnf
    refine ⟨fun c => absurd c (by decide), fun _ => ?_⟩
    refine am_run hX 2 _ _ _ _ ?_
    conv => whnf
    exact ⟨trivial, rfl, rfl⟩
  refine ⟨rfl, rfl, rfl, fun X hX => am_run hX 3 _ _ _ _ ?_⟩
  conv => whnf
  refine ⟨fun c => bad hX, fun c => ?_⟩
  rcases h with h | ⟨m, inp, W, m1, h, hr, g, hx⟩
  · exact absurd h.2 c
  · have i4 := g.2.2.1
    refine am_run hX 2 _ _ _ _ ?_
    conv => whnf
    refine ⟨fun c => bad hX, fun c1 => ?_⟩
    refine am_run hX 6 _ _ _ _ ?_
    conv => whnf
    rw [hr.2.1, sh2 inp (by omega)]
    refine ⟨fun c => bad hX, fun c2 => ?_⟩
    refine am_run hX 2 _ _ _ _ ?_
    conv => whnf
    refine ⟨fun c => bad hX, fun c3 => ?_⟩
    refine am_run hX 6 _ _ _ _ ?_
    conv => whnf
    rw [hr.2.1, sh2 inp (by omega)]
    refine ⟨fun c => bad hX, fun c4 => ?_⟩
    refine am_run hX 2 _ _ _ _ ?_
    conv => whnf
    refine ⟨fun c => bad hX, fun c5 => ?_⟩
    refine am_run hX 3 _ _ _ _ ?_
    conv => whnf
    refine ⟨fun c => bad hX, fun c6 => ?_⟩
    exfalso
    rcases hx with (hx | hx) | (hx | hx) | hx | hx
    · exact absurd hx c1
    · exact absurd hx c2
    · exact absurd hx c3
    · exact absurd hx c4
    · exact absurd hx c5
    · exact c6 (Int32.not_le.mp hx)
set_option maxRecDepth 100000 in
theorem mn_mb {a b : Nat} {q : Int32} {Pp : am_Q} {X : am_X} (hX : am_K d false nm_X12_meaning Pp X) (hr : rwR N inp W) (g : gdW m inp W) (ha : a < 2 ^ inp) (hb : b < 2 ^ inp) (q0 : ¬ q < 0) (q4 : q ≤ 4) (hK : ∀ f, (∀ t, t < icn inp W 60 → f t = nI (ick inp W 60 t)) → X 121 [some (aR 108), some (aI (nI a)), some (aI (nI b)), some (aI q), some (aI 1), some (aI (nI (icn inp W 60))), some (aI (nI 60)), none] [] (mm_i (th0 N) 174 f)) : X 0 [some (aR 108), some (aI (nI a)), some (aI (nI b)), some (aI q), none, none, none, none] [] N := by
  have i4 := g.2.2.1
  have a16 := p16 i4 ha
  have b16 := p16 i4 hb
  have pb : (2 : Nat) ^ inp ≤ 16 := Nat.pow_le_pow_right (n := 2) (j := 4) (by decide) i4
  refine am_run hX 3 _ _ _ _ ?_
  conv => whnf
  rw [hr.1]
  refine ⟨fun c => absurd c (by decide), fun _ => ?_⟩
  refine am_run hX 2 _ _ _ _ ?_
  conv => whnf
  refine ⟨fun c => absurd c (nI_pos (by omega)), fun _ => ?_⟩
  refine am_run hX 6 _ _ _ _ ?_
  conv => whnf
  rw [hr.2.1, sh2 inp (by omega)]
  refine ⟨fun c => absurd c (nI_ge ha (by omega)), fun _ => ?_⟩
  refine am_run hX 2 _ _ _ _ ?_
  conv => whnf
  refine ⟨fun c => absurd c (nI_pos (by omega)), fun _ => ?_⟩
  refine am_run hX 6 _ _ _ _ ?_
  conv => whnf
  rw [hr.2.1, sh2 inp (by omega)]
  refine ⟨fun c => absurd c (nI_ge hb (by omega)), fun _ => ?_⟩
  refine am_run hX 2 _ _ _ _ ?_
  conv => whnf
  refine ⟨fun c => absurd c q0, fun _ => ?_⟩
  refine am_run hX 3 _ _ _ _ ?_
  conv => whnf
  refine ⟨fun c => absurd q4 (Int32.not_le.mpr c), fun _ => ?_⟩
  refine am_run hX 6 _ _ _ _ ?_
  conv => whnf
  refine ⟨fun c => absurd c (by decide), fun _ => ?_⟩
  refine am_run hX 5 _ _ _ _ ?_
  conv => whnf
  refine ⟨fun _ => ?_, fun c => absurd (by decide) c⟩
  refine am_run hX 7 _ _ _ _ ?_
  conv => whnf
  rw [show (mm_i N 108 (upd (N.1 108) 0 0)).1 108 99 = nI inp from hr.2.1, show (2 : Int32) = nI 2 from rfl, nI_mul]
  have k := mr_I (d := d) (N := th0 N) (W := W) (p1 := nI a) (p2 := nI b) (q := q) (v4 := 1) hX (rwR_th hr) (fun n κ f hL hf => ?_) (60 - 2 * inp) (2 * inp) 0 (fun _ => 0) (N.1 174) (by omega) (Nat.le_refl _) inL_0 (fun t ht => absurd ht (Nat.not_lt_zero _))
  · rw [show mm_i (th0 N) 174 (N.1 174) = th0 N from mm_iz _ _] at k
    exact k
  · obtain ⟨u1, u2⟩ := inL_u hL (inL_c g)
    subst u1
    exact hK f fun t ht => by rw [hf t ht, u2 t ht]
set_option maxRecDepth 100000 in
theorem mn_m2 {a b : Nat} {q : Int32} (hr : rwR N inp W) (g : gdW m inp W) (n12 : 12 < icn inp W 60) (ha : a < 2 ^ inp) (hb : b < 2 ^ inp) (q0 : ¬ q < 0) (q4 : q ≤ 4) : am_M (d + 1) false nm_X12_meaning [aR 108, aI (nI a), aI (nI b), aI q] N (fun r N' => r = .inl (some (aJ 0)) ∧ N'.1 108 0 = 2 ∧ rmG N N') := by
  have bn := inL_b (inL_c g)
  refine ⟨rfl, rfl, rfl, fun X hX => mn_mb (d := d) (m := m) hX hr g ha hb q0 q4 fun f hf => ?_⟩
  refine am_run hX 4 _ _ _ _ ?_
  conv => whnf
  refine ⟨fun c => absurd c (nI_ge (a := 12) (b := icn inp W 60) n12 (by omega)), fun _ => ?_⟩
  refine am_run hX 6 _ _ _ _ ?_
  conv => whnf
  refine ⟨fun c => absurd c (show ¬ (2 : Int32) = 0 by decide), fun _ => ?_⟩
  refine am_run hX 2 _ _ _ _ ?_
  conv => whnf
  exact ⟨trivial, rfl, rfl, rmG_t rmG_n (rmG_t (rmG_f rmF_4) rmG_n)⟩
set_option maxRecDepth 100000 in
theorem mn_m1 {a b : Nat} {q : Int32} (hr : rwR N inp W) (g : gdW m inp W) (ho : oD inp W) (n12 : icn inp W 60 ≤ 12) (ha : a < 2 ^ inp) (hb : b < 2 ^ inp) (q0 : ¬ q < 0) (q4 : q ≤ 4) : am_M (d + 3) false nm_X12_meaning [aR 108, aI (nI a), aI (nI b), aI q] N (fun r N' => r = .inl (some (aJ (rp (red 0 (mnX m inp W a b)) q))) ∧ N'.1 108 0 = 0 ∧ rmG N N') := by
  refine ⟨rfl, rfl, rfl, fun X hX => mn_mb (d := d + 2) (m := m) hX hr g ha hb q0 q4 fun f hf => ?_⟩
  refine am_run hX 4 _ _ _ _ ?_
  conv => whnf
  refine ⟨fun _ => ?_, fun c => absurd (nI_le (a := icn inp W 60) (b := 12) n12 (by decide)) c⟩
  refine am_run hX 5 _ _ _ _ ?_
  conv => whnf
  refine ⟨fun _ => ?_, fun c => absurd rfl c⟩
  refine am_run hX 2 _ _ _ _ ?_
  conv => whnf
  have rG1 : rmG N (mm_i (mm_i (th0 N) 174 f) 108 (upd ((mm_i (th0 N) 174 f).1 108) 0 0)) := rmG_t rmG_n (rmG_t (rmG_f rmF_4) rmG_n)
  have rw1 : rwR (mm_i (mm_i (th0 N) 174 f) 108 (upd ((mm_i (th0 N) 174 f).1 108) 0 0)) inp W := rwR_n (rwR_rm2 rmF_4 (rwR_th hr))
  have e0 : (mm_i (mm_i (th0 N) 174 f) 108 (upd ((mm_i (th0 N) 174 f).1 108) 0 0)).1 108 0 = 0 := rfl
  have e4 : ∀ t, t < icn inp W 60 → (mm_i (mm_i (th0 N) 174 f) 108 (upd ((mm_i (th0 N) 174 f).1 108) 0 0)).1 174 t = nI (ick inp W 60 t) := hf
  generalize mm_i (mm_i (th0 N) 174 f) 108 (upd ((mm_i (th0 N) 174 f).1 108) 0 0) = K at rG1 rw1 e0 e4 ⊢
  have k := mr_g (d := d + 2) (N := K) (a := a) (b := b) (q := q) (v4 := 1) (v5 := nI (icn inp W 60)) hX rw1.2.1 g.2.2.1 ha hb (fun f hf => ?_) inp 0 (K.1 175) (by omega) (fun x hx => absurd hx (Nat.not_lt_zero _))
  · rw [mm_iz] at k
    exact k
  · refine am_run hX 2 _ _ _ _ ?_
    conv => whnf
    refine am_c0 (ct_clr (d := d + 1)) ?_
    conv => whnf
    refine am_run hX 2 _ _ _ _ ?_
    conv => whnf
    refine mr_w (d := d) (N0 := mm_l (mm_i K 175 f) 153 (ov ((mm_i K 175 f).2 153) (0, 0, 0, 0) 0)) (fx := fxV inp a b) hX g n12 (inL_c g) (show rwR (mm_i K 175 f) inp W from rwR_rm2 rmF_5 rw1) e4 (fun x hx => fx_lt hb hx) (fun N' l7 f1 f2 f3 f4 => ?_) (2 ^ icn inp W 60) 0 _ _ (by omega) (rmF_r _) rfl hf ?_ (fun p hp => ?_)
    · have f4 : ∀ p, p < 4 → N'.2 153 p = lI (mnV m inp W a b p) := fun p hp => by rw [f4 p hp, mn_r g ho hb]
      have rG2 : rmG N N' := rmG_t rG1 (rmG_f (rmF_t (rmF_t rmF_5 rmF_l) f1))
      have z : N'.1 108 0 = 0 := by
        rw [f1.1 108 (by decide) (by decide)]
        exact e0
      refine am_run hX 5 _ _ _ _ ?_
      conv => whnf
      refine am_c0 (ct_load153 (d := d + 1) (a := 0) (by decide)) ?_
      conv => whnf
      have er : (fun j => if j < 5 then N'.2 153 (0 + j) else N'.2 118 j) = ov (N'.2 118) (mnX m inp W a b) 0 := by
        funext j
        unfold ov
        by_cases j0 : j = 0
        · subst j0; exact f4 0 (by decide)
        by_cases j1 : j = 1
        · subst j1; exact f4 1 (by decide)
        by_cases j2 : j = 2
        · subst j2; exact f4 2 (by decide)
        by_cases j3 : j = 3
        · subst j3; exact f4 3 (by decide)
        by_cases j4 : j = 4
        · subst j4; exact f3
        rw [if_neg j0, if_neg j1, if_neg j2, if_neg j3, if_neg j4, if_neg (by omega)]
      rw [er]
      refine am_run hX 5 _ _ _ _ ?_
      conv => whnf
      refine am_c0 (ct_red (d := d + 1) (M := N') (g := N'.2 118) (x := mnX m inp W a b) (k := 0) (by decide) (mnX_bd n12)) ?_
      conv => whnf
      refine am_run hX 5 _ _ _ _ ?_
      conv => whnf
      obtain ⟨i, hi, rfl⟩ := nI_of q0
      have i5 : i < 5 := by
        apply Decidable.byContradiction
        intro hc
        exact nI_ge (a := 4) (b := i) (by omega) hi q4
      refine ⟨vp_in_nI i5 (by decide), ?_⟩
      conv => whnf
      refine ⟨trivial, ?_, z, rmG_t rG2 (rmG_f ⟨fun _ _ _ => rfl, fun k _ hk => if_neg hk⟩)⟩
      have key := rf_rp (M := mm_l N' 118 (ov (N'.2 118) (red 0 (mnX m inp W a b)).1 (red 0 (mnX m inp W a b)).2)) (c := 118) (i := 0) (y := red 0 (mnX m inp W a b)) ⟨rfl, rfl, rfl, rfl, rfl⟩ q0 q4
      rw [← key, show 5 * 0 + (nI i).toNatClampNeg = (nI i).toNatClampNeg by omega]
    · rfl
    · obtain rfl | rfl | rfl | rfl : p = 0 ∨ p = 1 ∨ p = 2 ∨ p = 3 := by omega
      all_goals rfl
end MNG
/-- the DIAGRAM: sound, INPUTS and OUTPUTS bare, and what was asked for is kept -/
def wvJ (M : mm_M) : Prop := (M.1 39 6 = 0 ∧ M.1 108 98 = 0) ∨ ∃ m inp W, 1 ≤ m ∧ cwR M m inp W ∧ rwR M inp W ∧ gdW m inp W ∧ oD inp W ∧ askI M m inp W
section MNP
variable {ac : Nat → ClassId} {lo : Nat} {ad as : Nat → Nat} {b L : Nat} {xs : Nat → Int32} {hp : mm_M → Nat → xm_H} {I J : mm_M → Prop}
theorem rwR_cm {N N' : mm_M} {inp : Nat} {W : WB} (hf : cmF N N') (h : rwR N inp W) : rwR N' inp W := by
  obtain ⟨h1, h2, h3, h4, h5⟩ := h
  have e : ∀ k, k ≠ 39 → k ≠ 44 → N'.1 k = N.1 k := hf.1
  refine ⟨?_, ?_, fun i hi => ?_, fun i hi => ?_, fun i j hi hj => ?_⟩
  · rw [e 108 (by decide) (by decide)]; exact h1
  · rw [e 108 (by decide) (by decide)]; exact h2
  · rw [e 169 (by decide) (by decide)]; exact h3 i hi
  · rw [e 170 (by decide) (by decide)]; exact h4 i hi
  · rw [e 171 (by decide) (by decide)]; exact h5 i j hi hj
theorem rwR_mG {N N' : mm_M} {inp : Nat} {W : WB} (hf : rmG N N') (h : rwR N inp W) : rwR N' inp W := by
  obtain ⟨h1, h2, h3, h4, h5⟩ := h
  have e : ∀ k, k ≠ 108 → k ≠ 174 → k ≠ 175 → N'.1 k = N.1 k := hf.1
  refine ⟨?_, ?_, fun i hi => ?_, fun i hi => ?_, fun i j hi hj => ?_⟩
  · rw [hf.2.1 98 (by decide)]; exact h1
  · rw [hf.2.1 99 (by decide)]; exact h2
  · rw [e 169 (by decide) (by decide) (by decide)]; exact h3 i hi
  · rw [e 170 (by decide) (by decide) (by decide)]; exact h4 i hi
  · rw [e 171 (by decide) (by decide) (by decide)]; exact h5 i j hi hj
theorem cwR_mG {N N' : mm_M} {m inp : Nat} {W : WB} (hf : rmG N N') (h : cwR N m inp W) : cwR N' m inp W := by
  obtain ⟨h1, h2, h3, h4, h5⟩ := h
  have e : ∀ k, k ≠ 108 → k ≠ 174 → k ≠ 175 → N'.1 k = N.1 k := hf.1
  have e2 : ∀ k, k ≠ 153 → k ≠ 118 → N'.2 k = N.2 k := hf.2.2
  refine ⟨?_, ?_, fun i hi => ?_, fun i hi => ?_, fun i hi j hj => ?_⟩
  · rw [e 39 (by decide) (by decide) (by decide)]; exact h1
  · rw [e 39 (by decide) (by decide) (by decide)]; exact h2
  · rw [e2 39 (by decide) (by decide)]; exact h3 i hi
  · rw [e 42 (by decide) (by decide) (by decide)]; exact h4 i hi
  · rw [e2 40 (by decide) (by decide), e2 41 (by decide) (by decide)]; exact h5 i hi j hj
theorem askI_mG {N N' : mm_M} {m inp : Nat} {W : WB} (hf : rmG N N') (h : askI N m inp W) : askI N' m inp W := by
  have e : ∀ k, k ≠ 108 → k ≠ 174 → k ≠ 175 → N'.1 k = N.1 k := hf.1
  have e2 : ∀ k, k ≠ 153 → k ≠ 118 → N'.2 k = N.2 k := hf.2.2
  unfold askI
  rw [e 39 (by decide) (by decide) (by decide), e2 45 (by decide) (by decide)]
  exact h
theorem wvJ_mG {N N' : mm_M} (hf : rmG N N') (h : wvJ N) : wvJ N' := by
  rcases h with ⟨h1, h2⟩ | ⟨m, inp, W, a1, a2, a3, a4, a5, a6⟩
  · exact Or.inl ⟨by rw [hf.1 39 (by decide) (by decide) (by decide)]; exact h1, (hf.2.1 98 (by decide)).trans h2⟩
  · exact Or.inr ⟨m, inp, W, a1, cwR_mG hf a2, rwR_mG hf a3, a4, a5, askI_mG hf a6⟩
theorem rmG_202 {N N' : mm_M} {v : Int64} (hf : rmG (lt_o N v) N') : N'.2 202 0 = v := by
  rw [hf.2.2 202 (by decide) (by decide)]
  simp [lt_o, mm_l, vp_updL]
theorem pr_meaning (H : mm_L ac lo hp) (h1 : ∀ M, I M → wvJ M) (hJ : ∀ M N K M', I M → cmF M N → (K = N ∨ ∃ v, K = lt_o N v) → rmG K M' → wvJ M' → J M') (p1 p2 q : Int32) : la_TJ ac lo ad as b L xs hp I J nm_L_meaning nm_X12_meaning [.int p1, .int p2, .int q] := by
  refine lt_meaning H p1 p2 q fun M hI => ?_
  by_cases hx0 : (M.1 39 6 = 0 ∧ M.1 108 98 = 0) ∨ ∃ m inp W, 1 ≤ m ∧ cwR M m inp W ∧ rwR M inp W ∧ gdW m inp W ∧ mn_bad inp p1 p2 q
  · refine am_wk (mn_x0 hx0) fun r M1 e => Or.inr (Or.inl ⟨e.1, ?_⟩)
    rw [e.2]
    refine am_wk (mn_m0 (d := 999) hx0) fun r M2 e => ?_
    rw [e.2]
    exact ⟨⟨0, e.1⟩, rfl, hJ M M M _ hI (cmF_r M) (Or.inl rfl) rmG_n (wvJ_mG rmG_n (h1 M hI))⟩
  rcases h1 M hI with h | ⟨m, inp, W, m1, hc, hr, g, ho, hq⟩
  · exact absurd (Or.inl h) hx0
  · by_cases hx : mn_bad inp p1 p2 q
    · exact absurd (Or.inr ⟨m, inp, W, m1, hc, hr, g, hx⟩) hx0
    · have a0 : ¬ p1 < 0 := fun c => hx (Or.inl (Or.inl c))
      have as' : ¬ nI (2 ^ inp) ≤ p1 := fun c => hx (Or.inl (Or.inr c))
      have b0 : ¬ p2 < 0 := fun c => hx (Or.inr (Or.inl (Or.inl c)))
      have bs : ¬ nI (2 ^ inp) ≤ p2 := fun c => hx (Or.inr (Or.inl (Or.inr c)))
      have q0 : ¬ q < 0 := fun c => hx (Or.inr (Or.inr (Or.inl c)))
      have q4 : q ≤ 4 := Decidable.byContradiction fun c => hx (Or.inr (Or.inr (Or.inr c)))
      obtain ⟨i, hi, rfl⟩ := nI_of a0
      obtain ⟨j, hj, rfl⟩ := nI_of b0
      have hiw : i < 2 ^ inp := by
        apply Decidable.byContradiction
        intro hc
        exact as' (nI_le (by omega) hi)
      have hjw : j < 2 ^ inp := by
        apply Decidable.byContradiction
        intro hc
        exact bs (nI_le (by omega) hj)
      by_cases n12 : icn inp W 60 ≤ 12
      · refine am_wk (mn_x1 (d := 995) m1 hc g n12 hiw hjw hq q0 q4 true) ?_
        rintro r M1 ⟨rfl, f1, f2⟩
        refine Or.inl ⟨_, rfl, ?_⟩
        have hr1 : ∀ v, rwR (lt_o M1 v) inp W := fun v => show rwR M1 inp W from rwR_cm f1 hr
        refine am_wk (mn_m1 (d := 997) (hr1 _) g ho n12 hiw hjw q0 q4) ?_
        rintro r M2 ⟨rfl, z, f3⟩
        have hv : ∀ v, wvJ (lt_o M1 v) := fun v => Or.inr ⟨m, inp, W, m1, show cwR M1 m inp W from cwR_cm f1 hc, hr1 v, g, ho, f2⟩
        exact ⟨rfl, z, rmG_202 f3, hJ M M1 _ M2 hI f1 (Or.inr ⟨_, rfl⟩) f3 (wvJ_mG f3 (hv _))⟩
      · refine am_wk (mn_x2 m1 hc g (by omega) hiw hjw q0 q4) ?_
        rintro r M1 ⟨rfl, rfl⟩
        refine Or.inr (Or.inr ⟨rfl, ?_⟩)
        refine am_wk (mn_m2 (d := 999) hr g (by omega) hiw hjw q0 q4) ?_
        rintro r M2 ⟨rfl, z, f3⟩
        exact ⟨⟨0, rfl⟩, z, hJ M1 M1 M1 M2 hI (cmF_r M1) (Or.inl rfl) f3 (wvJ_mG f3 (h1 M1 hI))⟩
end MNP
