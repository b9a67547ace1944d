/-! THE REFERENCE'S goThrough: a PAULI goes through a gate -/
abbrev PZ : Type := Nat × Nat
def fH (w : Nat) (y : PZ) : PZ := (y.1 ^^^ ((y.1 ^^^ y.2) &&& 2 ^ w), y.2 ^^^ ((y.1 ^^^ y.2) &&& 2 ^ w))
def fS (w : Nat) (y : PZ) : PZ := (y.1, y.2 ^^^ (y.1 &&& 2 ^ w))
def fC (c w : Nat) (y : PZ) : PZ := (if y.1.testBit c = true then y.1 ^^^ 2 ^ w else y.1, if y.2.testBit w = true then y.2 ^^^ 2 ^ c else y.2)
def fW (a b : Nat) (y : PZ) : PZ := (if y.1.testBit a = y.1.testBit b then y.1 else y.1 ^^^ (2 ^ a ||| 2 ^ b), if y.2.testBit a = y.2.testBit b then y.2 else y.2 ^^^ (2 ^ a ||| 2 ^ b))
def p8 (y : PZ) : Prop := y.1 < 2 ^ 8 ∧ y.2 < 2 ^ 8
theorem p8_H {w : Nat} {y : PZ} (hw : w < 8) (h : p8 y) : p8 (fH w y) := ⟨Nat.xor_lt_two_pow h.1 (Nat.and_lt_two_pow _ (Nat.pow_lt_pow_right (by decide) hw)), Nat.xor_lt_two_pow h.2 (Nat.and_lt_two_pow _ (Nat.pow_lt_pow_right (by decide) hw))⟩
theorem p8_S {w : Nat} {y : PZ} (hw : w < 8) (h : p8 y) : p8 (fS w y) := ⟨h.1, Nat.xor_lt_two_pow h.2 (Nat.and_lt_two_pow _ (Nat.pow_lt_pow_right (by decide) hw))⟩
theorem p8_C {c w : Nat} {y : PZ} (hc : c < 8) (hw : w < 8) (h : p8 y) : p8 (fC c w y) := by
  refine ⟨?_, ?_⟩
  · show (if y.1.testBit c = true then y.1 ^^^ 2 ^ w else y.1) < 2 ^ 8
    by_cases q : y.1.testBit c = true
    · rw [if_pos q]
      exact Nat.xor_lt_two_pow h.1 (Nat.pow_lt_pow_right (by decide) hw)
    · rw [if_neg q]
      exact h.1
  · show (if y.2.testBit w = true then y.2 ^^^ 2 ^ c else y.2) < 2 ^ 8
    by_cases q : y.2.testBit w = true
    · rw [if_pos q]
      exact Nat.xor_lt_two_pow h.2 (Nat.pow_lt_pow_right (by decide) hc)
    · rw [if_neg q]
      exact h.2
theorem p8_W {a b : Nat} {y : PZ} (ha : a < 8) (hb : b < 8) (h : p8 y) : p8 (fW a b y) := by
  have hl : 2 ^ a ||| 2 ^ b < 2 ^ 8 := Nat.or_lt_two_pow (Nat.pow_lt_pow_right (by decide) ha) (Nat.pow_lt_pow_right (by decide) hb)
  refine ⟨?_, ?_⟩
  · show (if y.1.testBit a = y.1.testBit b then y.1 else y.1 ^^^ (2 ^ a ||| 2 ^ b)) < 2 ^ 8
    by_cases q : y.1.testBit a = y.1.testBit b
    · rw [if_pos q]
      exact h.1
    · rw [if_neg q]
      exact Nat.xor_lt_two_pow h.1 hl
  · show (if y.2.testBit a = y.2.testBit b then y.2 else y.2 ^^^ (2 ^ a ||| 2 ^ b)) < 2 ^ 8
    by_cases q : y.2.testBit a = y.2.testBit b
    · rw [if_pos q]
      exact h.2
    · rw [if_neg q]
      exact Nat.xor_lt_two_pow h.2 hl
def g3 (g : Nat → Int32) (y : PZ) (s : Int32) : Nat → Int32 := fun j => if j = 45 then nI y.1 else if j = 46 then nI y.2 else if j = 47 then s else g j
theorem g3_45 (g : Nat → Int32) (y : PZ) (s : Int32) (v : Nat) : upd (g3 g y s) 45 (nI v) = g3 g (v, y.2) s := by
  funext j
  unfold upd g3
  by_cases h : j = 45
  · rw [if_pos h, if_pos h]
  · rw [if_neg h, if_neg h, if_neg h]
theorem g3_46 (g : Nat → Int32) (y : PZ) (s : Int32) (v : Nat) : upd (g3 g y s) 46 (nI v) = g3 g (y.1, v) s := by
  funext j
  unfold upd g3
  by_cases h : j = 46
  · subst h
    rfl
  · rw [if_neg h]
    simp only [h, if_false]
theorem g3_47 (g : Nat → Int32) (y : PZ) (s v : Int32) : upd (g3 g y s) 47 v = g3 g y v := by
  funext j
  unfold upd g3
  by_cases h : j = 47
  · subst h
    rfl
  · rw [if_neg h]
    simp only [h, if_false]
def rG (M : mm_M) (y : PZ) (s : Int32) : mm_M := mm_i M 108 (g3 (M.1 108) y s)
theorem rG_w (M : mm_M) (y : PZ) (s : Int32) (B : Nat → Int32) : mm_i (rG M y s) 108 B = mm_i M 108 B := mm_ii _ _ _ _
theorem rG_r (M : mm_M) (y : PZ) (s : Int32) : (rG M y s).1 108 = g3 (M.1 108) y s := mm_i1 _ _ _
section GON
variable {d : Nat} {M : mm_M}
set_option maxRecDepth 100000 in
theorem ct_hasX {y : PZ} {s : Int32} {w : Nat} (hy : p8 y) (hw : w < 8) : am_M (d + 1) false nm_X12_hasX [aR 108, aI (nI w)] (rG M y s) (am_q1 (aI (b01 (y.1.testBit w))) (rG M y s)) := by
  have h := hy.1
  refine ⟨rfl, rfl, rfl, fun X hX => am_run hX 20 _ _ _ _ ?_⟩
  conv => whnf
  rw [rG_r, show g3 (M.1 108) y s 45 = nI y.1 from rfl, nI_sh (by omega) w (by omega), nI_m1, show (1 : Int32) = nI 1 from rfl, nI_eq (by omega) (by decide), tb_dm (v := 1) (by decide)]
  refine ⟨fun c => ?_, fun c => ?_⟩
  · conv => whnf
    rw [show y.1.testBit w = false from nt_f c]
    exact ⟨rfl, rfl, rfl⟩
  · conv => whnf
    rw [show y.1.testBit w = true from Decidable.byContradiction c]
    exact ⟨rfl, rfl, rfl⟩
set_option maxRecDepth 100000 in
theorem ct_hasZ {y : PZ} {s : Int32} {w : Nat} (hy : p8 y) (hw : w < 8) : am_M (d + 1) false nm_X12_hasZ [aR 108, aI (nI w)] (rG M y s) (am_q1 (aI (b01 (y.2.testBit w))) (rG M y s)) := by
  have h := hy.2
  refine ⟨rfl, rfl, rfl, fun X hX => am_run hX 20 _ _ _ _ ?_⟩
  conv => whnf
  rw [rG_r, show g3 (M.1 108) y s 46 = nI y.2 from rfl, nI_sh (by omega) w (by omega), nI_m1, show (1 : Int32) = nI 1 from rfl, nI_eq (by omega) (by decide), tb_dm (v := 1) (by decide)]
  refine ⟨fun c => ?_, fun c => ?_⟩
  · conv => whnf
    rw [show y.2.testBit w = false from nt_f c]
    exact ⟨rfl, rfl, rfl⟩
  · conv => whnf
    rw [show y.2.testBit w = true from Decidable.byContradiction c]
    exact ⟨rfl, rfl, rfl⟩
set_option maxRecDepth 100000 in
theorem ct_signIf {y : PZ} {s : Int32} (t : Bool) : am_M (d + 1) false nm_X12_signIf [aR 108, aI (b01 t)] (rG M y s) (am_q0 (rG M y (s ^^^ b01 t))) := by
  refine ⟨rfl, rfl, rfl, fun X hX => am_run hX 20 _ _ _ _ ?_⟩
  cases t with
  | true =>
    conv => whnf
    refine ⟨fun c => absurd c (by decide), fun _ => ?_⟩
    conv => whnf
    refine ⟨trivial, rfl, ?_⟩
    rw [rG_w, rG_r, g3_47]
    rfl
  | false =>
    conv => whnf
    refine ⟨fun _ => ?_, fun c => absurd rfl c⟩
    conv => whnf
    refine ⟨trivial, rfl, ?_⟩
    rw [rG_w, rG_r, g3_47]
    rfl
set_option maxRecDepth 100000 in
theorem ct_goH {y : PZ} {s : Int32} {w : Nat} (hy : p8 y) (hw : w < 8) : am_M (d + 2) false nm_X12_goH [aR 108, aI (nI w)] (rG M y s) (fun r M' => r = .inl none ∧ ∃ s', M' = rG M (fH w y) s') := by
  refine ⟨rfl, rfl, rfl, fun X hX => ?_⟩
  have fin : ∀ s', X 25 [some (aR 108), some (aI (nI w)), none] [] (rG M y s') := by
    intro s'
    refine am_run hX 40 _ _ _ _ ?_
    conv => whnf
    refine ⟨trivial, rfl, s', ?_⟩
    simp only [rG_r, rG_w, show g3 (M.1 108) y s' 45 = nI y.1 from rfl, show g3 (M.1 108) y s' 46 = nI y.2 from rfl, sh2 w (show w < 31 by omega), nI_xor, nI_and, g3_45, mm_i1, mm_ii, show ∀ v : Nat, g3 (M.1 108) (v, y.2) s' 46 = nI y.2 from fun _ => rfl, g3_46]
    rfl
  refine am_run hX 5 _ _ _ _ ?_
  conv => whnf
  refine am_c1 (ct_hasX (d := d) hy hw) ?_
  cases y.1.testBit w with
  | false =>
    conv => whnf
    refine ⟨fun _ => ?_, fun c => absurd rfl c⟩
    refine am_run hX 2 _ _ _ _ ?_
    conv => whnf
    refine am_c0 (ct_signIf (d := d) false) ?_
    conv => whnf
    exact fin _
  | true =>
    conv => whnf
    refine ⟨fun c => absurd c (by decide), fun _ => ?_⟩
    refine am_run hX 4 _ _ _ _ ?_
    conv => whnf
    refine am_c1 (ct_hasZ (d := d) hy hw) ?_
    cases y.2.testBit w with
    | false =>
      conv => whnf
      refine ⟨fun _ => ?_, fun c => absurd rfl c⟩
      refine am_run hX 2 _ _ _ _ ?_
      conv => whnf
      refine am_c0 (ct_signIf (d := d) false) ?_
      conv => whnf
      exact fin _
    | true =>
      conv => whnf
      refine ⟨fun c => absurd c (by decide), fun _ => ?_⟩
      refine am_run hX 3 _ _ _ _ ?_
      conv => whnf
      refine am_c0 (ct_signIf (d := d) true) ?_
      conv => whnf
      exact fin _
set_option maxRecDepth 100000 in
theorem ct_goS {y : PZ} {s : Int32} {w : Nat} (hy : p8 y) (hw : w < 8) (t : Bool) : am_M (d + 2) false nm_X12_goS [aR 108, aI (nI w), aI (b01 t)] (rG M y s) (fun r M' => r = .inl none ∧ ∃ s', M' = rG M (fS w y) s') := by
  refine ⟨rfl, rfl, rfl, fun X hX => ?_⟩
  have fin : ∀ s', X 26 [some (aR 108), some (aI (nI w)), some (aI (b01 t))] [] (rG M y s') := by
    intro s'
    refine am_run hX 40 _ _ _ _ ?_
    conv => whnf
    refine ⟨trivial, rfl, s', ?_⟩
    simp only [rG_r, rG_w, show g3 (M.1 108) y s' 45 = nI y.1 from rfl, show g3 (M.1 108) y s' 46 = nI y.2 from rfl, sh2 w (show w < 31 by omega), nI_xor, nI_and, g3_46]
    rfl
  refine am_run hX 5 _ _ _ _ ?_
  conv => whnf
  refine am_c1 (ct_hasX (d := d) hy hw) ?_
  cases y.1.testBit w with
  | false =>
    conv => whnf
    refine ⟨fun _ => ?_, fun c => absurd rfl c⟩
    refine am_run hX 2 _ _ _ _ ?_
    conv => whnf
    refine am_c0 (ct_signIf (d := d) false) ?_
    conv => whnf
    exact fin _
  | true =>
    conv => whnf
    refine ⟨fun c => absurd c (by decide), fun _ => ?_⟩
    refine am_run hX 5 _ _ _ _ ?_
    conv => whnf
    refine am_c1 (ct_hasZ (d := d) hy hw) ?_
    cases y.2.testBit w <;> cases t
    · conv => whnf
      refine ⟨fun _ => ?_, fun c => absurd rfl c⟩
      refine am_run hX 2 _ _ _ _ ?_
      conv => whnf
      refine am_c0 (ct_signIf (d := d) false) ?_
      conv => whnf
      exact fin _
    · conv => whnf
      refine ⟨fun c => absurd c (by decide), fun _ => ?_⟩
      refine am_run hX 3 _ _ _ _ ?_
      conv => whnf
      refine am_c0 (ct_signIf (d := d) true) ?_
      conv => whnf
      exact fin _
    · conv => whnf
      refine ⟨fun c => absurd c (by decide), fun _ => ?_⟩
      refine am_run hX 3 _ _ _ _ ?_
      conv => whnf
      refine am_c0 (ct_signIf (d := d) true) ?_
      conv => whnf
      exact fin _
    · conv => whnf
      refine ⟨fun _ => ?_, fun c => absurd rfl c⟩
      refine am_run hX 2 _ _ _ _ ?_
      conv => whnf
      refine am_c0 (ct_signIf (d := d) false) ?_
      conv => whnf
      exact fin _
set_option maxRecDepth 100000 in
theorem ct_goC {y : PZ} {s : Int32} {c w : Nat} (hy : p8 y) (hc : c < 8) (hw : w < 8) (hcw : c ≠ w) : am_M (d + 2) false nm_X12_goControlled [aR 108, aI (nI c), aI (nI w)] (rG M y s) (fun r M' => r = .inl none ∧ ∃ s', M' = rG M (fC c w y) s') := by
  have hy1 : p8 (if y.1.testBit c = true then y.1 ^^^ 2 ^ w else y.1, y.2) := ⟨(p8_C hc hw hy).1, hy.2⟩
  refine ⟨rfl, rfl, rfl, fun X hX => ?_⟩
  have f2 : ∀ s', X 58 [some (aR 108), some (aI (nI c)), some (aI (nI w))] [] (rG M (if y.1.testBit c = true then y.1 ^^^ 2 ^ w else y.1, y.2) s') := by
    intro s'
    refine am_run hX 4 _ _ _ _ ?_
    conv => whnf
    refine am_c1 (ct_hasZ (d := d) hy1 hw) ?_
    show am_go _ _ _ _ _ _ _ _ _ _ ((some (aI (b01 (y.2.testBit w)))).toList ++ _) _
    unfold fC at hX
    cases hb : y.2.testBit w with
    | false =>
      conv => whnf
      refine ⟨fun _ => ?_, fun c => absurd rfl c⟩
      refine am_run hX 2 _ _ _ _ ?_
      conv => whnf
      rw [hb]
      exact ⟨trivial, rfl, s', rfl⟩
    | true =>
      conv => whnf
      refine ⟨fun c => absurd c (by decide), fun _ => ?_⟩
      refine am_run hX 20 _ _ _ _ ?_
      conv => whnf
      rw [hb]
      refine ⟨trivial, rfl, s', ?_⟩
      rw [rG_w, rG_r, show ∀ v : Nat, g3 (M.1 108) (v, y.2) s' 46 = nI y.2 from fun _ => rfl, sh2 c (by omega), nI_xor, g3_46]
      rfl
  have f1 : ∀ s', X 38 [some (aR 108), some (aI (nI c)), some (aI (nI w))] [] (rG M y s') := by
    intro s'
    refine am_run hX 4 _ _ _ _ ?_
    conv => whnf
    refine am_c1 (ct_hasX (d := d) hy hc) ?_
    have f2' := f2 s'
    cases hb : y.1.testBit c with
    | false =>
      rw [hb] at f2'
      conv => whnf
      refine ⟨fun _ => ?_, fun c => absurd rfl c⟩
      exact f2'
    | true =>
      rw [hb] at f2'
      conv => whnf
      refine ⟨fun c => absurd c (by decide), fun _ => ?_⟩
      refine am_run hX 8 _ _ _ _ ?_
      conv => whnf
      rw [rG_w, rG_r, show g3 (M.1 108) y s' 45 = nI y.1 from rfl, sh2 w (by omega), nI_xor, g3_45]
      exact f2'
  have z : ∀ l, X 34 [some (aR 108), some (aI (nI c)), some (aI (nI w))] (aR 108 :: l) (rG M y s) → True := fun _ _ => trivial
  refine am_run hX 5 _ _ _ _ ?_
  conv => whnf
  refine am_c1 (ct_hasX (d := d) hy hc) ?_
  cases y.1.testBit c with
  | false =>
    conv => whnf
    refine ⟨fun _ => ?_, fun c => absurd rfl c⟩
    refine am_run hX 2 _ _ _ _ ?_
    conv => whnf
    refine am_c0 (ct_signIf (d := d) false) ?_
    conv => whnf
    exact f1 _
  | true =>
    conv => whnf
    refine ⟨fun c => absurd c (by decide), fun _ => ?_⟩
    refine am_run hX 4 _ _ _ _ ?_
    conv => whnf
    refine am_c1 (ct_hasZ (d := d) hy hw) ?_
    cases y.2.testBit w with
    | false =>
      conv => whnf
      refine ⟨fun _ => ?_, fun c => absurd rfl c⟩
      refine am_run hX 2 _ _ _ _ ?_
      conv => whnf
      refine am_c0 (ct_signIf (d := d) false) ?_
      conv => whnf
      exact f1 _
    | true =>
      conv => whnf
      refine ⟨fun c => absurd c (by decide), fun _ => ?_⟩
      refine am_run hX 7 _ _ _ _ ?_
      conv => whnf
      refine am_c1 (ct_hasX (d := d) hy hw) ?_
      conv => whnf
      refine am_c1 (ct_hasZ (d := d) hy hc) ?_
      cases y.1.testBit w <;> cases y.2.testBit c
      · conv => whnf
        refine ⟨fun c => absurd rfl c, fun _ => ?_⟩
        refine am_run hX 3 _ _ _ _ ?_
        conv => whnf
        refine am_c0 (ct_signIf (d := d) true) ?_
        conv => whnf
        exact f1 _
      · conv => whnf
        refine ⟨fun _ => ?_, fun c => absurd (by decide) c⟩
        refine am_run hX 2 _ _ _ _ ?_
        conv => whnf
        refine am_c0 (ct_signIf (d := d) false) ?_
        conv => whnf
        exact f1 _
      · conv => whnf
        refine ⟨fun _ => ?_, fun c => absurd (by decide) c⟩
        refine am_run hX 2 _ _ _ _ ?_
        conv => whnf
        refine am_c0 (ct_signIf (d := d) false) ?_
        conv => whnf
        exact f1 _
      · conv => whnf
        refine ⟨fun c => absurd rfl c, fun _ => ?_⟩
        refine am_run hX 3 _ _ _ _ ?_
        conv => whnf
        refine am_c0 (ct_signIf (d := d) true) ?_
        conv => whnf
        exact f1 _
set_option maxRecDepth 100000 in
theorem ct_goW {y : PZ} {s : Int32} {a b : Nat} (hy : p8 y) (ha : a < 8) (hb : b < 8) : am_M (d + 2) false nm_X12_goSwap [aR 108, aI (nI a), aI (nI b)] (rG M y s) (fun r M' => r = .inl none ∧ ∃ s', M' = rG M (fW a b y) s') := by
  have hy1 : p8 (if y.1.testBit a = y.1.testBit b then y.1 else y.1 ^^^ (2 ^ a ||| 2 ^ b), y.2) := ⟨(p8_W ha hb hy).1, hy.2⟩
  refine ⟨rfl, rfl, rfl, fun X hX => ?_⟩
  have f2 : X 29 [some (aR 108), some (aI (nI a)), some (aI (nI b))] [] (rG M (if y.1.testBit a = y.1.testBit b then y.1 else y.1 ^^^ (2 ^ a ||| 2 ^ b), y.2) s) := by
    refine am_run hX 7 _ _ _ _ ?_
    conv => whnf
    refine am_c1 (ct_hasZ (d := d) hy1 ha) ?_
    conv => whnf
    refine am_c1 (ct_hasZ (d := d) hy1 hb) ?_
    by_cases q : y.2.testBit a = y.2.testBit b
    · unfold fW at hX
      rw [if_pos q] at hX
      have q2 : b01 (y.2.testBit a) = b01 (y.2.testBit b) := by rw [q]
      conv => whnf
      refine ⟨fun _ => ?_, fun c => absurd q2 c⟩
      refine am_run hX 2 _ _ _ _ ?_
      conv => whnf
      exact ⟨trivial, rfl, s, rfl⟩
    · unfold fW at hX
      rw [if_neg q] at hX
      have q2 : ¬ b01 (y.2.testBit a) = b01 (y.2.testBit b) := by
        cases h1 : y.2.testBit a <;> cases h2 : y.2.testBit b <;> rw [h1, h2] at q <;> first | exact absurd rfl q | decide
      conv => whnf
      refine ⟨fun c => absurd c q2, fun _ => ?_⟩
      refine am_run hX 20 _ _ _ _ ?_
      conv => whnf
      refine ⟨trivial, rfl, s, ?_⟩
      rw [rG_w, rG_r, show ∀ v : Nat, g3 (M.1 108) (v, y.2) s 46 = nI y.2 from fun _ => rfl, sh2 a (by omega), sh2 b (by omega), nI_or, nI_xor, g3_46]
      rfl
  refine am_run hX 7 _ _ _ _ ?_
  conv => whnf
  refine am_c1 (ct_hasX (d := d) hy ha) ?_
  conv => whnf
  refine am_c1 (ct_hasX (d := d) hy hb) ?_
  by_cases q : y.1.testBit a = y.1.testBit b
  · rw [if_pos q] at f2
    have q2 : b01 (y.1.testBit a) = b01 (y.1.testBit b) := by rw [q]
    conv => whnf
    refine ⟨fun _ => ?_, fun c => absurd q2 c⟩
    exact f2
  · rw [if_neg q] at f2
    have q2 : ¬ b01 (y.1.testBit a) = b01 (y.1.testBit b) := by
      cases h1 : y.1.testBit a <;> cases h2 : y.1.testBit b <;> rw [h1, h2] at q <;> first | exact absurd rfl q | decide
    conv => whnf
    refine ⟨fun c => absurd c q2, fun _ => ?_⟩
    refine am_run hX 12 _ _ _ _ ?_
    conv => whnf
    rw [rG_w, rG_r, show g3 (M.1 108) y s 45 = nI y.1 from rfl, sh2 a (by omega), sh2 b (by omega), nI_or, nI_xor, g3_45]
    exact f2
end GON
