/-! SHORTEST: the reference's goThrough, its sign too -/
def sHb (w : Nat) (y : PZ) : Bool := y.1.testBit w && y.2.testBit w
def sSb (t : Bool) (w : Nat) (y : PZ) : Bool := y.1.testBit w && (y.2.testBit w != t)
def sCb (c w : Nat) (y : PZ) : Bool := y.1.testBit c && (y.2.testBit w && (y.1.testBit w == y.2.testBit c))
/-- the sign behind a gate -/
def gI0 (k a : Nat) (y : PZ) (s : Int32) : Int32 := if k = 0 then s ^^^ b01 (y.2.testBit a) else if k = 1 then s ^^^ b01 (y.1.testBit a != y.2.testBit a) else if k = 2 then s ^^^ b01 (y.1.testBit a) else if k = 3 then s ^^^ b01 (sHb a y) else if k = 4 then s ^^^ b01 (sSb false a y) else if k = 6 then s ^^^ b01 (sSb true a y) else s
def gI1 (k c a : Nat) (y : PZ) (s : Int32) : Int32 := if k = 0 then s ^^^ b01 (sCb c a y) else if k = 1 then s ^^^ b01 (sSb true a y) ^^^ b01 (sCb c a (fS a y)) ^^^ b01 (sSb false a (fC c a (fS a y))) else s ^^^ b01 (sHb a y) ^^^ b01 (sCb c a (fH a y)) ^^^ b01 (sHb a (fC c a (fH a y)))
def gT (x : bk_X) (y : PZ) (s : Int32) : Int32 := if x.2.2.2.1 = 0 then gI0 x.1 x.2.1 y s else gI1 x.1 (lw x.2.2.2.1) x.2.1 y s
theorem b01_e {p q : Bool} : b01 p = b01 q ↔ p = q := by cases p <;> cases q <;> decide
section SHC
variable {d : Nat} {M : mm_M}
set_option maxRecDepth 100000 in
theorem ct_sgH {y : PZ} {s : Int32} {w : Nat} (hy : p8 y) (hw : w < 8) : am_M (d + 2) false nm_X12_goH [aR 108, aI (nI w)] (rG M y s) (am_q0 (rG M (fH w y) (s ^^^ b01 (sHb w y)))) := by
  refine ⟨rfl, rfl, rfl, fun X hX => ?_⟩
  have fin : ∀ s', s' = s ^^^ b01 (sHb w y) → X 25 [some (aR 108), some (aI (nI w)), none] [] (rG M y s') := by
    intro s' hs'
    refine am_run hX 40 _ _ _ _ ?_
    conv => whnf
    refine ⟨trivial, rfl, ?_⟩
    rw [← hs']
    simp only [rG_r, rG_w, show g3 (M.1 108) y s' 45 = nI y.1 from rfl, show g3 (M.1 108) y s' 46 = nI y.2 from rfl, sh2 w (show w < 31 by omega), nI_xor, nI_and, g3_45, mm_i1, mm_ii, show ∀ v : Nat, g3 (M.1 108) (v, y.2) s' 46 = nI y.2 from fun _ => rfl, g3_46]
    rfl
  refine am_run hX 5 _ _ _ _ ?_
  conv => whnf
  refine am_c1 (ct_hasX (d := d) hy hw) ?_
  cases hb1 : y.1.testBit w with
  | false =>
    conv => whnf
    refine ⟨fun _ => ?_, fun c => absurd rfl c⟩
    refine am_run hX 2 _ _ _ _ ?_
    conv => whnf
    refine am_c0 (ct_signIf (d := d) false) ?_
    conv => whnf
    exact fin _ (by unfold sHb; rw [hb1]; rfl)
  | true =>
    conv => whnf
    refine ⟨fun c => absurd c (by decide), fun _ => ?_⟩
    refine am_run hX 4 _ _ _ _ ?_
    conv => whnf
    refine am_c1 (ct_hasZ (d := d) hy hw) ?_
    cases hb2 : y.2.testBit w with
    | false =>
      conv => whnf
      refine ⟨fun _ => ?_, fun c => absurd rfl c⟩
      refine am_run hX 2 _ _ _ _ ?_
      conv => whnf
      refine am_c0 (ct_signIf (d := d) false) ?_
      conv => whnf
      exact fin _ (by unfold sHb; rw [hb1, hb2]; rfl)
    | true =>
      conv => whnf
      refine ⟨fun c => absurd c (by decide), fun _ => ?_⟩
      refine am_run hX 3 _ _ _ _ ?_
      conv => whnf
      refine am_c0 (ct_signIf (d := d) true) ?_
      conv => whnf
      exact fin _ (by unfold sHb; rw [hb1, hb2]; rfl)
set_option maxRecDepth 100000 in
theorem ct_sgS {y : PZ} {s : Int32} {w : Nat} (hy : p8 y) (hw : w < 8) (t : Bool) : am_M (d + 2) false nm_X12_goS [aR 108, aI (nI w), aI (b01 t)] (rG M y s) (am_q0 (rG M (fS w y) (s ^^^ b01 (sSb t w y)))) := by
  refine ⟨rfl, rfl, rfl, fun X hX => ?_⟩
  have fin : ∀ s', s' = s ^^^ b01 (sSb t w y) → X 26 [some (aR 108), some (aI (nI w)), some (aI (b01 t))] [] (rG M y s') := by
    intro s' hs'
    refine am_run hX 40 _ _ _ _ ?_
    conv => whnf
    refine ⟨trivial, rfl, ?_⟩
    rw [← hs']
    simp only [rG_r, rG_w, show g3 (M.1 108) y s' 45 = nI y.1 from rfl, show g3 (M.1 108) y s' 46 = nI y.2 from rfl, sh2 w (show w < 31 by omega), nI_xor, nI_and, g3_46]
    rfl
  refine am_run hX 5 _ _ _ _ ?_
  conv => whnf
  refine am_c1 (ct_hasX (d := d) hy hw) ?_
  cases hb1 : y.1.testBit w with
  | false =>
    conv => whnf
    refine ⟨fun _ => ?_, fun c => absurd rfl c⟩
    refine am_run hX 2 _ _ _ _ ?_
    conv => whnf
    refine am_c0 (ct_signIf (d := d) false) ?_
    conv => whnf
    exact fin _ (by unfold sSb; rw [hb1]; rfl)
  | true =>
    conv => whnf
    refine ⟨fun c => absurd c (by decide), fun _ => ?_⟩
    refine am_run hX 5 _ _ _ _ ?_
    conv => whnf
    refine am_c1 (ct_hasZ (d := d) hy hw) ?_
    cases hb2 : y.2.testBit w <;> cases t
    · conv => whnf
      refine ⟨fun _ => ?_, fun c => absurd rfl c⟩
      refine am_run hX 2 _ _ _ _ ?_
      conv => whnf
      refine am_c0 (ct_signIf (d := d) false) ?_
      conv => whnf
      exact fin _ (by unfold sSb; rw [hb1, hb2]; rfl)
    · conv => whnf
      refine ⟨fun c => absurd c (by decide), fun _ => ?_⟩
      refine am_run hX 3 _ _ _ _ ?_
      conv => whnf
      refine am_c0 (ct_signIf (d := d) true) ?_
      conv => whnf
      exact fin _ (by unfold sSb; rw [hb1, hb2]; rfl)
    · conv => whnf
      refine ⟨fun c => absurd c (by decide), fun _ => ?_⟩
      refine am_run hX 3 _ _ _ _ ?_
      conv => whnf
      refine am_c0 (ct_signIf (d := d) true) ?_
      conv => whnf
      exact fin _ (by unfold sSb; rw [hb1, hb2]; rfl)
    · conv => whnf
      refine ⟨fun _ => ?_, fun c => absurd rfl c⟩
      refine am_run hX 2 _ _ _ _ ?_
      conv => whnf
      refine am_c0 (ct_signIf (d := d) false) ?_
      conv => whnf
      exact fin _ (by unfold sSb; rw [hb1, hb2]; rfl)
set_option maxRecDepth 100000 in
theorem ct_sgC {y : PZ} {s : Int32} {c w : Nat} (hy : p8 y) (hc : c < 8) (hw : w < 8) (hcw : c ≠ w) : am_M (d + 2) false nm_X12_goControlled [aR 108, aI (nI c), aI (nI w)] (rG M y s) (am_q0 (rG M (fC c w y) (s ^^^ b01 (sCb c w y)))) := by
  have hy1 : p8 (if y.1.testBit c = true then y.1 ^^^ 2 ^ w else y.1, y.2) := ⟨(p8_C hc hw hy).1, hy.2⟩
  refine ⟨rfl, rfl, rfl, fun X hX => ?_⟩
  have f2 : ∀ s', s' = s ^^^ b01 (sCb c w y) → X 58 [some (aR 108), some (aI (nI c)), some (aI (nI w))] [] (rG M (if y.1.testBit c = true then y.1 ^^^ 2 ^ w else y.1, y.2) s') := by
    intro s' hs'
    refine am_run hX 4 _ _ _ _ ?_
    conv => whnf
    refine am_c1 (ct_hasZ (d := d) hy1 hw) ?_
    show am_go _ _ _ _ _ _ _ _ _ _ ((some (aI (b01 (y.2.testBit w)))).toList ++ _) _
    unfold fC at hX
    cases hb : y.2.testBit w with
    | false =>
      conv => whnf
      refine ⟨fun _ => ?_, fun c => absurd rfl c⟩
      refine am_run hX 2 _ _ _ _ ?_
      conv => whnf
      rw [← hs', hb]
      exact ⟨trivial, rfl, rfl⟩
    | true =>
      conv => whnf
      refine ⟨fun c => absurd c (by decide), fun _ => ?_⟩
      refine am_run hX 20 _ _ _ _ ?_
      conv => whnf
      rw [← hs', hb]
      refine ⟨trivial, rfl, ?_⟩
      rw [rG_w, rG_r, show ∀ v : Nat, g3 (M.1 108) (v, y.2) s' 46 = nI y.2 from fun _ => rfl, sh2 c (by omega), nI_xor, g3_46]
      rfl
  have f1 : ∀ s', s' = s ^^^ b01 (sCb c w y) → X 38 [some (aR 108), some (aI (nI c)), some (aI (nI w))] [] (rG M y s') := by
    intro s' hs'
    refine am_run hX 4 _ _ _ _ ?_
    conv => whnf
    refine am_c1 (ct_hasX (d := d) hy hc) ?_
    have f2' := f2 s' hs'
    cases hb : y.1.testBit c with
    | false =>
      rw [hb] at f2'
      conv => whnf
      refine ⟨fun _ => ?_, fun c => absurd rfl c⟩
      exact f2'
    | true =>
      rw [hb] at f2'
      conv => whnf
      refine ⟨fun c => absurd c (by decide), fun _ => ?_⟩
      refine am_run hX 8 _ _ _ _ ?_
      conv => whnf
      rw [rG_w, rG_r, show g3 (M.1 108) y s' 45 = nI y.1 from rfl, sh2 w (by omega), nI_xor, g3_45]
      exact f2'
  have z : ∀ l, X 34 [some (aR 108), some (aI (nI c)), some (aI (nI w))] (aR 108 :: l) (rG M y s) → True := fun _ _ => trivial
  refine am_run hX 5 _ _ _ _ ?_
  conv => whnf
  refine am_c1 (ct_hasX (d := d) hy hc) ?_
  cases hb1 : y.1.testBit c with
  | false =>
    conv => whnf
    refine ⟨fun _ => ?_, fun c => absurd rfl c⟩
    refine am_run hX 2 _ _ _ _ ?_
    conv => whnf
    refine am_c0 (ct_signIf (d := d) false) ?_
    conv => whnf
    exact f1 _ (by unfold sCb; rw [hb1]; rfl)
  | true =>
    conv => whnf
    refine ⟨fun c => absurd c (by decide), fun _ => ?_⟩
    refine am_run hX 4 _ _ _ _ ?_
    conv => whnf
    refine am_c1 (ct_hasZ (d := d) hy hw) ?_
    cases hb2 : y.2.testBit w with
    | false =>
      conv => whnf
      refine ⟨fun _ => ?_, fun c => absurd rfl c⟩
      refine am_run hX 2 _ _ _ _ ?_
      conv => whnf
      refine am_c0 (ct_signIf (d := d) false) ?_
      conv => whnf
      exact f1 _ (by unfold sCb; rw [hb1, hb2]; rfl)
    | true =>
      conv => whnf
      refine ⟨fun c => absurd c (by decide), fun _ => ?_⟩
      refine am_run hX 7 _ _ _ _ ?_
      conv => whnf
      refine am_c1 (ct_hasX (d := d) hy hw) ?_
      conv => whnf
      refine am_c1 (ct_hasZ (d := d) hy hc) ?_
      cases hb3 : y.1.testBit w <;> cases hb4 : y.2.testBit c
      · conv => whnf
        refine ⟨fun c => absurd rfl c, fun _ => ?_⟩
        refine am_run hX 3 _ _ _ _ ?_
        conv => whnf
        refine am_c0 (ct_signIf (d := d) true) ?_
        conv => whnf
        exact f1 _ (by unfold sCb; rw [hb1, hb2, hb3, hb4]; rfl)
      · conv => whnf
        refine ⟨fun _ => ?_, fun c => absurd (by decide) c⟩
        refine am_run hX 2 _ _ _ _ ?_
        conv => whnf
        refine am_c0 (ct_signIf (d := d) false) ?_
        conv => whnf
        exact f1 _ (by unfold sCb; rw [hb1, hb2, hb3, hb4]; rfl)
      · conv => whnf
        refine ⟨fun _ => ?_, fun c => absurd (by decide) c⟩
        refine am_run hX 2 _ _ _ _ ?_
        conv => whnf
        refine am_c0 (ct_signIf (d := d) false) ?_
        conv => whnf
        exact f1 _ (by unfold sCb; rw [hb1, hb2, hb3, hb4]; rfl)
      · conv => whnf
        refine ⟨fun c => absurd rfl c, fun _ => ?_⟩
        refine am_run hX 3 _ _ _ _ ?_
        conv => whnf
        refine am_c0 (ct_signIf (d := d) true) ?_
        conv => whnf
        exact f1 _ (by unfold sCb; rw [hb1, hb2, hb3, hb4]; rfl)
set_option maxRecDepth 100000 in
theorem ct_sgW {y : PZ} {s : Int32} {a b : Nat} (hy : p8 y) (ha : a < 8) (hb : b < 8) : am_M (d + 2) false nm_X12_goSwap [aR 108, aI (nI a), aI (nI b)] (rG M y s) (am_q0 (rG M (fW a b y) s)) := by
  have hy1 : p8 (if y.1.testBit a = y.1.testBit b then y.1 else y.1 ^^^ (2 ^ a ||| 2 ^ b), y.2) := ⟨(p8_W ha hb hy).1, hy.2⟩
  refine ⟨rfl, rfl, rfl, fun X hX => ?_⟩
  have f2 : X 29 [some (aR 108), some (aI (nI a)), some (aI (nI b))] [] (rG M (if y.1.testBit a = y.1.testBit b then y.1 else y.1 ^^^ (2 ^ a ||| 2 ^ b), y.2) s) := by
    refine am_run hX 7 _ _ _ _ ?_
    conv => whnf
    refine am_c1 (ct_hasZ (d := d) hy1 ha) ?_
    conv => whnf
    refine am_c1 (ct_hasZ (d := d) hy1 hb) ?_
    by_cases q : y.2.testBit a = y.2.testBit b
    · unfold fW at hX
      rw [if_pos q] at hX
      have q2 : b01 (y.2.testBit a) = b01 (y.2.testBit b) := by rw [q]
      conv => whnf
      refine ⟨fun _ => ?_, fun c => absurd q2 c⟩
      refine am_run hX 2 _ _ _ _ ?_
      conv => whnf
      exact ⟨trivial, rfl, rfl⟩
    · unfold fW at hX
      rw [if_neg q] at hX
      have q2 : ¬ b01 (y.2.testBit a) = b01 (y.2.testBit b) := by
        cases h1 : y.2.testBit a <;> cases h2 : y.2.testBit b <;> rw [h1, h2] at q <;> first | exact absurd rfl q | decide
      conv => whnf
      refine ⟨fun c => absurd c q2, fun _ => ?_⟩
      refine am_run hX 20 _ _ _ _ ?_
      conv => whnf
      refine ⟨trivial, rfl, ?_⟩
      rw [rG_w, rG_r, show ∀ v : Nat, g3 (M.1 108) (v, y.2) s 46 = nI y.2 from fun _ => rfl, sh2 a (by omega), sh2 b (by omega), nI_or, nI_xor, g3_46]
      rfl
  refine am_run hX 7 _ _ _ _ ?_
  conv => whnf
  refine am_c1 (ct_hasX (d := d) hy ha) ?_
  conv => whnf
  refine am_c1 (ct_hasX (d := d) hy hb) ?_
  by_cases q : y.1.testBit a = y.1.testBit b
  · rw [if_pos q] at f2
    have q2 : b01 (y.1.testBit a) = b01 (y.1.testBit b) := by rw [q]
    conv => whnf
    refine ⟨fun _ => ?_, fun c => absurd q2 c⟩
    exact f2
  · rw [if_neg q] at f2
    have q2 : ¬ b01 (y.1.testBit a) = b01 (y.1.testBit b) := by
      cases h1 : y.1.testBit a <;> cases h2 : y.1.testBit b <;> rw [h1, h2] at q <;> first | exact absurd rfl q | decide
    conv => whnf
    refine ⟨fun c => absurd c q2, fun _ => ?_⟩
    refine am_run hX 12 _ _ _ _ ?_
    conv => whnf
    rw [rG_w, rG_r, show g3 (M.1 108) y s 45 = nI y.1 from rfl, sh2 a (by omega), sh2 b (by omega), nI_or, nI_xor, g3_45]
    exact f2
set_option maxRecDepth 100000 in
theorem ct_sg0 {y : PZ} {s : Int32} {k a b : Nat} (hk : k ≤ 4 ∨ k = 6 ∨ k = 8) (hy : p8 y) (ha : a < 8) (hb : b < 8) : am_M (d + 3) false nm_X12_goThrough [aR 108, aI (nI k), aI (nI a), aI (nI b), aI (nI 0)] (rG M y s) (am_q0 (rG M (fk0 k a b y) (gI0 k a y s))) := by
  refine ⟨rfl, rfl, rfl, fun X hX => am_run hX 40 _ _ _ _ ?_⟩
  rcases (by omega : k = 0 ∨ k = 1 ∨ k = 2 ∨ k = 3 ∨ k = 4 ∨ k = 6 ∨ k = 8) with rfl | rfl | rfl | rfl | rfl | rfl | rfl
  · conv => whnf
    refine ⟨fun c => absurd rfl c, fun _ => ?_⟩
    conv => whnf
    refine ⟨fun _ => ?_, fun c => absurd rfl c⟩
    conv => whnf
    refine am_c1 (ct_hasZ (d := d + 1) hy ha) ?_
    conv => whnf
    refine am_c0 (ct_signIf (d := d + 1) _) ?_
    conv => whnf
    exact ⟨trivial, rfl, rfl⟩
  · conv => whnf
    refine ⟨fun c => absurd rfl c, fun _ => ?_⟩
    conv => whnf
    refine ⟨fun c => absurd c (by decide), fun _ => ?_⟩
    refine ⟨fun _ => ?_, fun c => absurd rfl c⟩
    conv => whnf
    refine am_c1 (ct_hasX (d := d + 1) hy ha) ?_
    conv => whnf
    refine am_c1 (ct_hasZ (d := d + 1) hy ha) ?_
    conv => whnf
    refine ⟨fun q => ?_, fun q => ?_⟩
    · have q := b01_e.mp q
      conv => whnf
      refine am_c0 (ct_signIf (d := d + 1) false) ?_
      conv => whnf
      refine ⟨trivial, rfl, ?_⟩
      show _ = rG M y (s ^^^ b01 (y.1.testBit a != y.2.testBit a))
      rw [q, bne_self_eq_false]
    · have q : (y.1.testBit a != y.2.testBit a) = true := by
        cases h1 : y.1.testBit a <;> cases h2 : y.2.testBit a
        · rw [h1, h2] at q; exact absurd rfl q
        · rfl
        · rfl
        · rw [h1, h2] at q; exact absurd rfl q
      conv => whnf
      refine am_c0 (ct_signIf (d := d + 1) true) ?_
      conv => whnf
      refine ⟨trivial, rfl, ?_⟩
      show _ = rG M y (s ^^^ b01 (y.1.testBit a != y.2.testBit a))
      rw [q]
  · conv => whnf
    refine ⟨fun c => absurd rfl c, fun _ => ?_⟩
    conv => whnf
    refine ⟨fun c => absurd c (by decide), fun _ => ?_⟩
    refine ⟨fun c => absurd c (by decide), fun _ => ?_⟩
    refine ⟨fun _ => ?_, fun c => absurd rfl c⟩
    conv => whnf
    refine am_c1 (ct_hasX (d := d + 1) hy ha) ?_
    conv => whnf
    refine am_c0 (ct_signIf (d := d + 1) _) ?_
    conv => whnf
    exact ⟨trivial, rfl, rfl⟩
  · conv => whnf
    refine ⟨fun c => absurd rfl c, fun _ => ?_⟩
    conv => whnf
    refine ⟨fun c => absurd c (by decide), fun _ => ?_⟩
    refine ⟨fun c => absurd c (by decide), fun _ => ?_⟩
    refine ⟨fun c => absurd c (by decide), fun _ => ?_⟩
    refine ⟨fun _ => ?_, fun c => absurd rfl c⟩
    conv => whnf
    refine am_c0 (ct_sgH (d := d) hy ha) ?_
    conv => whnf
    exact ⟨trivial, rfl, rfl⟩
  · conv => whnf
    refine ⟨fun c => absurd rfl c, fun _ => ?_⟩
    conv => whnf
    refine ⟨fun c => absurd c (by decide), fun _ => ?_⟩
    refine ⟨fun c => absurd c (by decide), fun _ => ?_⟩
    refine ⟨fun c => absurd c (by decide), fun _ => ?_⟩
    refine ⟨fun c => absurd c (by decide), fun _ => ?_⟩
    refine ⟨fun _ => ?_, fun c => absurd rfl c⟩
    conv => whnf
    refine am_c0 (ct_sgS (d := d) hy ha false) ?_
    conv => whnf
    exact ⟨trivial, rfl, rfl⟩
  · conv => whnf
    refine ⟨fun c => absurd rfl c, fun _ => ?_⟩
    conv => whnf
    refine ⟨fun c => absurd c (by decide), fun _ => ?_⟩
    refine ⟨fun c => absurd c (by decide), fun _ => ?_⟩
    refine ⟨fun c => absurd c (by decide), fun _ => ?_⟩
    refine ⟨fun c => absurd c (by decide), fun _ => ?_⟩
    refine ⟨fun c => absurd c (by decide), fun _ => ?_⟩
    refine ⟨fun c => absurd c (by decide), fun _ => ?_⟩
    refine ⟨fun _ => ?_, fun c => absurd rfl c⟩
    conv => whnf
    refine am_c0 (ct_sgS (d := d) hy ha true) ?_
    conv => whnf
    exact ⟨trivial, rfl, rfl⟩
  · conv => whnf
    refine ⟨fun c => absurd rfl c, fun _ => ?_⟩
    conv => whnf
    refine ⟨fun c => absurd c (by decide), fun _ => ?_⟩
    refine ⟨fun c => absurd c (by decide), fun _ => ?_⟩
    refine ⟨fun c => absurd c (by decide), fun _ => ?_⟩
    refine ⟨fun c => absurd c (by decide), fun _ => ?_⟩
    refine ⟨fun c => absurd c (by decide), fun _ => ?_⟩
    refine ⟨fun c => absurd c (by decide), fun _ => ?_⟩
    refine ⟨fun c => absurd c (by decide), fun _ => ?_⟩
    conv => whnf
    refine am_c0 (ct_sgW (d := d) hy ha hb) ?_
    conv => whnf
    exact ⟨trivial, rfl, rfl⟩
set_option maxRecDepth 100000 in
theorem ct_sg1 {y : PZ} {s : Int32} {k a b S : Nat} (hk : k ≤ 2) (hy : p8 y) (ha : a < 8) (hS : S < 256) (h0 : 0 < S) (hne : lw S ≠ a) : am_M (d + 3) false nm_X12_goThrough [aR 108, aI (nI k), aI (nI a), aI (nI b), aI (nI S)] (rG M y s) (am_q0 (rG M (fk1 k (lw S) a y) (gI1 k (lw S) a y s))) := by
  have l8 := (lw_r S hS h0).1
  refine ⟨rfl, rfl, rfl, fun X hX => am_run hX 60 _ _ _ _ ?_⟩
  conv => whnf
  refine ⟨fun _ => ?_, fun c => absurd (nI_ne0 h0 (by omega)) c⟩
  conv => whnf
  refine am_c1 (ct_rlow (d := d + 1) hS h0) ?_
  rcases (by omega : k = 0 ∨ k = 1 ∨ k = 2) with rfl | rfl | rfl
  · conv => whnf
    refine ⟨fun _ => ?_, fun c => absurd (by decide) c⟩
    conv => whnf
    refine ⟨fun _ => ?_, fun c => absurd (by decide) c⟩
    conv => whnf
    refine am_c0 (ct_sgC (d := d) hy l8 ha hne) ?_
    conv => whnf
    refine ⟨fun _ => ?_, fun c => absurd (by decide) c⟩
    conv => whnf
    refine ⟨fun _ => ?_, fun c => absurd (by decide) c⟩
    conv => whnf
    exact ⟨trivial, rfl, rfl⟩
  · conv => whnf
    refine ⟨fun c => absurd rfl c, fun _ => ?_⟩
    conv => whnf
    refine am_c0 (ct_sgS (d := d) hy ha true) ?_
    conv => whnf
    refine ⟨fun _ => ?_, fun c => absurd (by decide) c⟩
    conv => whnf
    refine am_c0 (ct_sgC (d := d) (p8_S ha hy) l8 ha hne) ?_
    conv => whnf
    refine ⟨fun _ => ?_, fun c => absurd (by decide) c⟩
    conv => whnf
    refine ⟨fun c => absurd rfl c, fun _ => ?_⟩
    conv => whnf
    refine am_c0 (ct_sgS (d := d) (p8_C l8 ha (p8_S ha hy)) ha false) ?_
    conv => whnf
    exact ⟨trivial, rfl, rfl⟩
  · conv => whnf
    refine ⟨fun _ => ?_, fun c => absurd (by decide) c⟩
    conv => whnf
    refine ⟨fun c => absurd rfl c, fun _ => ?_⟩
    conv => whnf
    refine am_c0 (ct_sgH (d := d) hy ha) ?_
    conv => whnf
    refine am_c0 (ct_sgC (d := d) (p8_H ha hy) l8 ha hne) ?_
    conv => whnf
    refine ⟨fun c => absurd rfl c, fun _ => ?_⟩
    conv => whnf
    refine am_c0 (ct_sgH (d := d) (p8_C l8 ha (p8_H ha hy)) ha) ?_
    conv => whnf
    refine ⟨fun _ => ?_, fun c => absurd (by decide) c⟩
    conv => whnf
    exact ⟨trivial, rfl, rfl⟩
theorem ct_sgT {W : Nat} {x : bk_X} {y : PZ} {s : Int32} (hW : W ≤ 8) (ho : ogd W x) (hp : pln x) (hy : p8 y) : am_M (d + 3) false nm_X12_goThrough [aR 108, aI (nI x.1), aI (nI x.2.1), aI (nI x.2.2.1), aI (nI x.2.2.2.1)] (rG M y s) (am_q0 (rG M (fT x y) (gT x y s))) := by
  have ow := ho.1
  have h8 := w256 hW
  have c8 := ow.2.2.2.1
  have a8 : x.2.1 < 8 := by have := ow.2.1; omega
  unfold fT gT
  rcases hp with ⟨h0, hk⟩ | ⟨h0, hk, _⟩
  · rw [if_pos h0, if_pos h0, h0]
    exact ct_sg0 (d := d) hk hy a8 ow.2.2.1
  · rw [if_neg h0, if_neg h0]
    obtain ⟨l8, ln⟩ := lw_w hW ho h0
    exact ct_sg1 (d := d) hk hy a8 (by omega) (by omega) ln
end SHC
