/-! group: the reference's firstOf, has and take -/
section GPI
variable {d : Nat} {M : mm_M} {w : Nat}
theorem bt_x {x z b : Nat} (hx : x < 2 ^ w) (hb : b < w) : (x + 2 ^ w * z).testBit b = x.testBit b := by
  have e := Nat.testBit_mod_two_pow (x := x + 2 ^ w * z) (j := w) (i := b)
  rw [(v_pk hx).1, decide_eq_true hb, Bool.true_and] at e
  exact e.symm
theorem bt_z {x z b : Nat} (hx : x < 2 ^ w) : (x + 2 ^ w * z).testBit (w + b) = z.testBit b := by
  have e := Nat.testBit_div_two_pow (x := x + 2 ^ w * z) (i := b) (n := w)
  rw [(v_pk hx).2] at e
  rw [e, Nat.add_comm w b]
/-- the place of the first 1, or behind all -/
def fpV (w v : Nat) : Nat := if v = 0 then 2 * w else rdP v
theorem fp_t {v p : Nat} (hv : v < 65536) (hp : v.testBit p = true) (hl : ∀ i, i < p → v.testBit i = false) : fpV w v = p := by
  unfold fpV
  rw [if_neg (fun e => by rw [e, Nat.zero_testBit] at hp; cases hp)]
  exact rdP_u hv hp hl
theorem fp_l {v : Nat} (w8 : w ≤ 8) (hv : v < 2 ^ (2 * w)) (h0 : v ≠ 0) : rdP v < 2 * w := by
  have t := (rdP_t (Nat.lt_of_lt_of_le hv (pw16g w8)) h0).1
  apply Classical.byContradiction
  intro c
  rw [Nat.testBit_lt_two_pow (Nat.lt_of_lt_of_le hv (Nat.pow_le_pow_right (by decide) (by omega)))] at t
  cases t
set_option maxRecDepth 100000 in
theorem fo_z {P : am_Q} {X : am_X} {x z : Nat} (hX : am_K d false nm_X12_firstOf P X) (w8 : w ≤ 8) (hx : x < 2 ^ w) (hz : z < 2 ^ w) (hP : P (.inl (some (aI (nI (fpV w (x + 2 ^ w * z)))))) M) : ∀ (m i : Nat), i + m = w → (∀ b, b < w + i → (x + 2 ^ w * z).testBit b = false) → X 26 [some (aI (nI x)), some (aI (nI z)), some (aI (nI w)), some (aI (nI i))] [] M := by
  have h8 := w256 w8
  have hv := v_lt hx hz
  have hv6 := Nat.lt_of_lt_of_le hv (pw16g w8)
  intro m
  induction m with
  | zero =>
    intro i hi hno
    obtain rfl : i = w := by omega
    have hz0 : x + 2 ^ i * z = 0 := by
      apply Nat.eq_of_testBit_eq
      intro b
      rw [Nat.zero_testBit]
      rcases Nat.lt_or_ge b (i + i) with y | y
      · exact hno b y
      · exact Nat.testBit_lt_two_pow (Nat.lt_of_lt_of_le hv (Nat.pow_le_pow_right (by decide) (by omega)))
    have e : fpV i (x + 2 ^ i * z) = 2 * i := if_pos hz0
    rw [e] at hP
    refine am_run hX 7 _ _ _ _ ?_
    conv => whnf
    refine ⟨fun _ => ?_, fun c => absurd (nI_le (Nat.le_refl _) (by omega)) c⟩
    conv => whnf
    rw [show (2 : Int32) = nI 2 from rfl, nI_mul]
    exact ⟨trivial, hP⟩
  | succ m ih =>
    intro i hi hno
    have hbz := bt_z (w := w) (x := x) (z := z) (b := i) hx
    refine am_run hX 3 _ _ _ _ ?_
    conv => whnf
    refine ⟨fun c => absurd c (nI_ge (by omega) (by omega)), fun _ => ?_⟩
    refine am_run hX 7 _ _ _ _ ?_
    conv => whnf
    rw [nI_sh (by omega) i (by omega), nI_m1, show (1 : Int32) = nI 1 from rfl, nI_eq (by omega) (by decide), ← tb_d, ← hbz]
    refine ⟨fun c => ?_, fun c => ?_⟩
    · refine am_run hX 2 _ _ _ _ ?_
      conv => whnf
      rw [nI_1]
      refine ih (i + 1) (by omega) (fun b hb => ?_)
      by_cases q : b = w + i
      · subst q
        exact Bool.eq_false_iff.mpr c
      · exact hno b (by omega)
    · have c := Classical.not_not.mp c
      rw [fp_t hv6 c hno] at hP
      refine am_run hX 4 _ _ _ _ ?_
      conv => whnf
      rw [nI_add]
      exact ⟨trivial, hP⟩
set_option maxRecDepth 100000 in
theorem fo_x {P : am_Q} {X : am_X} {x z : Nat} (hX : am_K d false nm_X12_firstOf P X) (w8 : w ≤ 8) (hx : x < 2 ^ w) (hz : z < 2 ^ w) (hP : P (.inl (some (aI (nI (fpV w (x + 2 ^ w * z)))))) M) : ∀ (m i : Nat), i + m = w → (∀ b, b < i → (x + 2 ^ w * z).testBit b = false) → X 2 [some (aI (nI x)), some (aI (nI z)), some (aI (nI w)), some (aI (nI i))] [] M := by
  have h8 := w256 w8
  have hv := v_lt hx hz
  have hv6 := Nat.lt_of_lt_of_le hv (pw16g w8)
  intro m
  induction m with
  | zero =>
    intro i hi hno
    obtain rfl : i = w := by omega
    refine am_run hX 5 _ _ _ _ ?_
    conv => whnf
    refine ⟨fun _ => ?_, fun c => absurd (nI_le (Nat.le_refl _) (by omega)) c⟩
    conv => whnf
    exact fo_z hX w8 hx hz hP i 0 (by omega) hno
  | succ m ih =>
    intro i hi hno
    have hbx := bt_x (w := w) (x := x) (z := z) (b := i) hx (by omega)
    refine am_run hX 3 _ _ _ _ ?_
    conv => whnf
    refine ⟨fun c => absurd c (nI_ge (by omega) (by omega)), fun _ => ?_⟩
    refine am_run hX 7 _ _ _ _ ?_
    conv => whnf
    rw [nI_sh (by omega) i (by omega), nI_m1, show (1 : Int32) = nI 1 from rfl, nI_eq (by omega) (by decide), ← tb_d, ← hbx]
    refine ⟨fun c => ?_, fun c => ?_⟩
    · refine am_run hX 2 _ _ _ _ ?_
      conv => whnf
      rw [nI_1]
      refine ih (i + 1) (by omega) (fun b hb => ?_)
      by_cases q : b = i
      · subst q
        exact Bool.eq_false_iff.mpr c
      · exact hno b (by omega)
    · have c := Classical.not_not.mp c
      rw [fp_t hv6 c hno] at hP
      refine am_run hX 2 _ _ _ _ ?_
      conv => whnf
      exact ⟨trivial, hP⟩
set_option maxRecDepth 100000 in
theorem ct_firstV {x z : Nat} (w8 : w ≤ 8) (hx : x < 2 ^ w) (hz : z < 2 ^ w) : am_M (d + 1) false nm_X12_firstOf [aI (nI x), aI (nI z), aI (nI w)] M (am_q1 (aI (nI (fpV w (x + 2 ^ w * z)))) M) := by
  refine ⟨rfl, rfl, rfl, fun X hX => am_run hX 2 _ _ _ _ ?_⟩
  conv => whnf
  exact fo_x hX w8 hx hz ⟨rfl, rfl⟩ w 0 (by omega) (fun b hb => absurd hb (Nat.not_lt_zero _))
set_option maxRecDepth 100000 in
theorem ct_hasV {x z p : Nat} (w8 : w ≤ 8) (hx : x < 2 ^ w) (hz : z < 2 ^ w) (hp : p < 2 * w) : am_M (d + 1) false nm_X12_has [aI (nI x), aI (nI z), aI (nI p), aI (nI w)] M (am_q1 (aI (if (x + 2 ^ w * z).testBit p = true then 1 else 0)) M) := by
  have h8 := w256 w8
  refine ⟨rfl, rfl, rfl, fun X hX => am_run hX 3 _ _ _ _ ?_⟩
  conv => whnf
  refine ⟨fun c => ?_, fun c => ?_⟩
  · have hwp : w ≤ p := by
      apply Classical.byContradiction
      intro y
      exact absurd c (nI_ge (by omega) (by omega))
    have hbz := bt_z (w := w) (x := x) (z := z) (b := p - w) hx
    rw [show w + (p - w) = p by omega] at hbz
    refine am_run hX 9 _ _ _ _ ?_
    conv => whnf
    rw [nI_sub hwp, nI_sh (by omega) (p - w) (by omega), nI_m1, show (1 : Int32) = nI 1 from rfl, nI_eq (by omega) (by decide), ← tb_d, ← hbz]
    refine ⟨fun q => ?_, fun q => ?_⟩
    · refine am_run hX 2 _ _ _ _ ?_
      conv => whnf
      rw [if_neg q]
      exact ⟨rfl, rfl, rfl⟩
    · refine am_run hX 3 _ _ _ _ ?_
      conv => whnf
      rw [if_pos (Classical.not_not.mp q)]
      exact ⟨rfl, rfl, rfl⟩
  · have hwp : p < w := by
      apply Classical.byContradiction
      intro y
      exact c (nI_le (by omega) (by omega))
    have hbx := bt_x (w := w) (x := x) (z := z) (b := p) hx hwp
    refine am_run hX 7 _ _ _ _ ?_
    conv => whnf
    rw [nI_sh (by omega) p (by omega), nI_m1, show (1 : Int32) = nI 1 from rfl, nI_eq (by omega) (by decide), ← tb_d, ← hbx]
    refine ⟨fun q => ?_, fun q => ?_⟩
    · refine am_run hX 3 _ _ _ _ ?_
      conv => whnf
      rw [if_neg q]
      exact ⟨rfl, rfl, rfl⟩
    · refine am_run hX 3 _ _ _ _ ?_
      conv => whnf
      rw [if_pos (Classical.not_not.mp q)]
      exact ⟨rfl, rfl, rfl⟩
end GPI
/-- a row put at its place -/
def inN (R : Nat → Nat) (a v : Nat) : Nat → Nat := fun i => if i < a then R i else if i = a then v else R (i - 1)
/-- reduced rows, and one more that is reduced by them -/
theorem in_rr {w r a v : Nat} {R : Nat → Nat} (h : rrf R r) (hl : ∀ i, i < r → R i < 2 ^ (2 * w)) (w8 : w ≤ 8) (hv : v < 2 ^ (2 * w)) (h0 : v ≠ 0) (hz : ∀ j, j < r → v.testBit (rdP (R j)) = false) (ha : a ≤ r) (h1 : ∀ i, i < a → rdP (R i) < rdP v) (h2 : ∀ i, a ≤ i → i < r → rdP v < rdP (R i)) : rrf (elR (inN R a v) (rdP v) a) (r + 1) ∧ (∀ i, i < r + 1 → elR (inN R a v) (rdP v) a i < 2 ^ (2 * w)) := by
  have h16 := pw16g w8
  have hR6 : ∀ i, i < r → R i < 65536 := fun i hi => (h.1 i hi).1
  have hv6 : v < 65536 := Nat.lt_of_lt_of_le hv h16
  obtain ⟨v1, v2, v3⟩ := rdP_t hv6 h0
  have s0 : inN R a v a = v := by
    unfold inN
    rw [if_neg (Nat.lt_irrefl _), if_pos rfl]
  have ea : elR (inN R a v) (rdP v) a a = v := by rw [el_k, s0]
  -- the others, by their old number
  have hold : ∀ i, i < r + 1 → i ≠ a → ∃ o, o < r ∧ inN R a v i = R o ∧ (i < a → o = i ∧ rdP (R o) < rdP v) ∧ (a < i → o = i - 1 ∧ rdP v < rdP (R o)) := by
    intro i hi hia
    unfold inN
    by_cases q : i < a
    · rw [if_pos q]
      exact ⟨i, by omega, rfl, fun _ => ⟨rfl, h1 i q⟩, fun c => by omega⟩
    · rw [if_neg q, if_neg hia]
      exact ⟨i - 1, by omega, rfl, fun c => absurd c q, fun _ => ⟨rfl, h2 (i - 1) (by omega) (by omega)⟩⟩
  have hval : ∀ i, i < r + 1 → i ≠ a → ∃ o, o < r ∧ (i < a → o = i ∧ rdP (R o) < rdP v) ∧ (a < i → o = i - 1 ∧ rdP v < rdP (R o)) ∧ (elR (inN R a v) (rdP v) a i = R o ∨ (i < a ∧ elR (inN R a v) (rdP v) a i = R o ^^^ v)) ∧ (elR (inN R a v) (rdP v) a i).testBit (rdP v) = false := by
    intro i hi hia
    obtain ⟨o, o1, o2, o3, o4⟩ := hold i hi hia
    by_cases c : (R o).testBit (rdP v) = true
    · have e : elR (inN R a v) (rdP v) a i = R o ^^^ v := by
        have : elR (inN R a v) (rdP v) a i = inN R a v i ^^^ inN R a v a := if_pos ⟨hia, by rw [o2]; exact c⟩
        rw [this, o2, s0]
      have hlt : i < a := by
        apply Classical.byContradiction
        intro y
        have := (o4 (by omega)).2
        rw [(rdP_t (hR6 o o1) (h.1 o o1).2).2.2 _ this] at c
        cases c
      refine ⟨o, o1, o3, o4, Or.inr ⟨hlt, e⟩, ?_⟩
      rw [e, Nat.testBit_xor, c, v1]
      rfl
    · have e : elR (inN R a v) (rdP v) a i = R o := by
        have : elR (inN R a v) (rdP v) a i = inN R a v i := if_neg (fun y => c (by rw [← o2]; exact y.2))
        rw [this, o2]
      refine ⟨o, o1, o3, o4, Or.inl e, ?_⟩
      rw [e]
      exact Bool.eq_false_iff.mpr c
  have hpiv : ∀ i, i < r + 1 → i ≠ a → ∃ o, o < r ∧ (i < a → o = i ∧ rdP (R o) < rdP v) ∧ (a < i → o = i - 1 ∧ rdP v < rdP (R o)) ∧ rdP (elR (inN R a v) (rdP v) a i) = rdP (R o) ∧ (∀ j, j < r → j ≠ o → (elR (inN R a v) (rdP v) a i).testBit (rdP (R j)) = false) ∧ elR (inN R a v) (rdP v) a i < 2 ^ (2 * w) ∧ elR (inN R a v) (rdP v) a i ≠ 0 := by
    intro i hi hia
    obtain ⟨o, o1, o3, o4, o5, o6⟩ := hval i hi hia
    obtain ⟨t1, t2, t3⟩ := rdP_t (hR6 o o1) (h.1 o o1).2
    refine ⟨o, o1, o3, o4, ?_⟩
    rcases o5 with e | ⟨hlt, e⟩
    · rw [e]
      exact ⟨rfl, fun j hj hjo => h.2.2 o j o1 hj (fun q => hjo q.symm), hl o o1, (h.1 o o1).2⟩
    · have hp := (o3 hlt).2
      have hlt2 := Nat.xor_lt_two_pow (hl o o1) hv
      have ht : (R o ^^^ v).testBit (rdP (R o)) = true := by
        rw [Nat.testBit_xor, t1, v3 _ hp]
        rfl
      rw [e]
      refine ⟨rdP_u (Nat.lt_of_lt_of_le hlt2 h16) ht (fun b hb => ?_), fun j hj hjo => ?_, hlt2, fun q => ?_⟩
      · rw [Nat.testBit_xor, t3 b hb, v3 b (by omega)]
        rfl
      · rw [Nat.testBit_xor, h.2.2 o j o1 hj (fun q => hjo q.symm), hz j hj]
        rfl
      · rw [q, Nat.zero_testBit] at ht
        cases ht
  have hall : ∀ i, i < r + 1 → elR (inN R a v) (rdP v) a i < 2 ^ (2 * w) ∧ elR (inN R a v) (rdP v) a i ≠ 0 := by
    intro i hi
    by_cases q : i = a
    · subst q
      rw [ea]
      exact ⟨hv, h0⟩
    · obtain ⟨o, _, _, _, _, _, o7⟩ := hpiv i hi q
      exact o7
  refine ⟨⟨fun i hi => ⟨Nat.lt_of_lt_of_le (hall i hi).1 h16, (hall i hi).2⟩, fun i j hij hj => ?_, fun i j hi hj hij => ?_⟩, fun i hi => (hall i hi).1⟩
  · by_cases qi : i = a
    · subst qi
      obtain ⟨o, o1, o2, o3, o4, _⟩ := hpiv j hj (by omega)
      rw [ea, o4]
      exact (o3 hij).2
    · obtain ⟨o, o1, o2, o3, o4, _⟩ := hpiv i (by omega) qi
      rw [o4]
      by_cases qj : j = a
      · subst qj
        rw [ea]
        exact (o2 hij).2
      · obtain ⟨u, u1, u2, u3, u4, _⟩ := hpiv j hj qj
        rw [u4]
        refine h.2.1 o u ?_ u1
        rcases Nat.lt_or_ge i a with y | y
        · have := (o2 y).1
          rcases Nat.lt_or_ge j a with t | t
          · have := (u2 t).1
            omega
          · have := (u3 (by omega)).1
            omega
        · have := (o3 (by omega)).1
          have := (u3 (by omega)).1
          omega
  · by_cases qj : j = a
    · subst qj
      rw [ea]
      obtain ⟨o, _, _, _, _, o6⟩ := hval i hi hij
      exact o6
    · obtain ⟨u, u1, u2, u3, u4, _⟩ := hpiv j hj qj
      rw [u4]
      by_cases qi : i = a
      · subst qi
        rw [ea]
        exact hz u u1
      · obtain ⟨o, o1, o2, o3, o4, o5, _⟩ := hpiv i hi qi
        refine o5 u u1 (fun e => hij ?_)
        rcases Nat.lt_or_ge i a with y | y
        · have := (o2 y).1
          rcases Nat.lt_or_ge j a with t | t
          · have := (u2 t).1
            omega
          · have := (u3 (by omega)).1
            omega
        · have := (o3 (by omega)).1
          rcases Nat.lt_or_ge j a with t | t
          · have := (u2 t).1
            omega
          · have := (u3 (by omega)).1
            omega
theorem in_sp {r a v p : Nat} {R : Nat → Nat} (ha : a ≤ r) : (∀ u, Spn R r u → Spn (elR (inN R a v) p a) (r + 1) u) ∧ Spn (elR (inN R a v) p a) (r + 1) v := by
  have hs := (el_sp (S := inN R a v) (c := p) (k := a) (r := r + 1) (by omega)).2
  have s0 : inN R a v a = v := by
    unfold inN
    rw [if_neg (Nat.lt_irrefl _), if_pos rfl]
  constructor
  · intro u hu
    refine sp_sub (fun i hi => ?_) hu
    by_cases q : i < a
    · have e : inN R a v i = R i := if_pos q
      rw [← e]
      exact hs i (by omega)
    · have e : inN R a v (i + 1) = R i := by
        unfold inN
        rw [if_neg (by omega), if_neg (by omega)]
        rfl
      rw [← e]
      exact hs (i + 1) (by omega)
  · have := hs a (by omega)
    rw [s0] at this
    exact this
theorem in_G {G : Nat → Prop} {r a v p : Nat} {R : Nat → Nat} (hx : ∀ a b, G a → G b → G (a ^^^ b)) (ha : a ≤ r) (hR : ∀ i, i < r → G (R i)) (hv : G v) : ∀ i, i < r + 1 → G (elR (inN R a v) p a i) := by
  have hs : ∀ i, i < r + 1 → G (inN R a v i) := by
    intro i hi
    unfold inN
    by_cases q : i < a
    · rw [if_pos q]
      exact hR i (by omega)
    · rw [if_neg q]
      by_cases y : i = a
      · rw [if_pos y]
        exact hv
      · rw [if_neg y]
        exact hR (i - 1) (by omega)
  intro i hi
  unfold elR
  split
  · exact hx _ _ (hs i hi) (hs a (by omega))
  · exact hs i hi
