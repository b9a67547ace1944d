/-! DIAGRAMS: one way of a MEANING, at the class -/
theorem sh2_b {i j : Nat} (hi : i < 60) (hj : j < 64) : ((((2 : Int64) <<< ((nI i).toInt64 &&& 63)) - 1) ^^^ -1).toBitVec.getLsbD j = decide (i < j) := by
  have : ∀ i, i < 60 → ∀ j, j < 64 → ((((2 : Int64) <<< ((nI i).toInt64 &&& 63)) - 1) ^^^ -1).toBitVec.getLsbD j = decide (i < j) := by decide +kernel
  exact this i hi j hj
theorem lbc_s {x : Int64} {f : Nat → Bool} (h : ∀ j, j < 64 → x.toBitVec.getLsbD j = f j) : lbc x = nI (sm (fun j => if f j = true then 1 else 0) 64) := by
  rw [lbc_p, pcn_sm, sm_e (g := fun j => if f j = true then 1 else 0) 64 (fun j hj => by rw [bt_tb _ hj, h j hj])]
theorem sm_b {f : Nat → Nat} (h : ∀ j, f j ≤ 1) : ∀ n, sm f n ≤ n
  | 0 => Nat.le_refl _
  | n + 1 => by
    have := sm_b h n
    have := h n
    show sm f n + f n ≤ n + 1
    omega
/-- those above, by TURNED EDGES -/
def abW (W : WB) (u : Nat → Bool) (i : Nat) : Nat := sm (fun j => if (decide (W.2.2 i j = 2) && u j && decide (i < j)) = true then 1 else 0) 64
/-- eighths, as the class counts them -/
def egC (W : WB) (u : Nat → Bool) : Nat → Nat
  | 0 => 0
  | i + 1 => if u i = true then egC W u i + (W.2.1 i + 4 * abW W u i) else egC W u i
/-- all PLAIN EDGES join what is alike -/
def wyC (W : WB) (u : Nat → Bool) (n : Nat) : Prop := ∀ i, i < n → u i = true → ∀ j, W.2.2 i j = 1 → u j = true
/-- one more, at the place of its eighths -/
def awM (N : mm_M) (c e : Nat) : mm_M := mm_l N c (vp_updL (N.2 c) (e % 4) (N.2 c (e % 4) + if e % 8 < 4 then 1 else -1))
section WAY
variable {d m inp : Nat} {N : mm_M} {W : WB} {v : Int64} {u : Nat → Bool}
theorem ab_b {i : Nat} : abW W u i ≤ 64 := sm_b (fun j => by
  by_cases h : (decide (W.2.2 i j = 2) && u j && decide (i < j)) = true
  · rw [if_pos h]; decide
  · rw [if_neg h]; decide) 64
theorem eg_b (g : gdW m inp W) (hu : ∀ i, u i = true → W.1 i = true) : ∀ n, egC W u n ≤ 300 * n
  | 0 => Nat.le_refl _
  | n + 1 => by
    have ih := eg_b g hu n
    show (if u n = true then egC W u n + (W.2.1 n + 4 * abW W u n) else egC W u n) ≤ 300 * (n + 1)
    by_cases h : u n = true
    · rw [if_pos h]
      have := g.2.2.2.2.2.2.2.2.2.2 n (hu n h)
      have := ab_b (W := W) (u := u) (i := n)
      omega
    · rw [if_neg h]
      omega
set_option maxRecDepth 100000 in
theorem aw_l {Pp : am_Q} {X : am_X} (hX : am_K (d + 1) false nm_X10_addWay Pp X) (h : cwR N m inp W) (g : gdW m inp W) (hv : ∀ i, i < 64 → v.toBitVec.getLsbD i = u i) (hu : ∀ i, u i = true → W.1 i = true) (hN : ¬ wyC W u m → Pp (.inl none) N) (hK : wyC W u m → ∀ l5 l6, X 92 [some (aR 39), some (aJ v), none, some (aI (nI (egC W u m))), some (aI (nI m)), l5, l6] [] N) : ∀ w i l5 l6, i + w = m → wyC W u i → X 5 [some (aR 39), some (aJ v), none, some (aI (nI (egC W u i))), some (aI (nI i)), l5, l6] [] N := by
  have m60 := g.1
  intro w
  induction w with
  | zero =>
    intro i l5 l6 hi hy
    have hi : i = m := by omega
    subst hi
    refine am_run hX 4 _ _ _ _ ?_
    conv => whnf
    rw [h.1]
    exact ⟨fun _ => hK hy _ _, fun c => absurd (nI_le (by omega) (by omega)) c⟩
  | succ w ih =>
    intro i l5 l6 hi hy
    have key := lb_us (x := v) (i := i) (by omega)
    rw [hv i (by omega)] at key
    have hI : vp_in (nI i) 60 := vp_in_nI (by omega) (by decide)
    have nx : ∀ l5 l6, wyC W u (i + 1) → X 86 [some (aR 39), some (aJ v), none, some (aI (nI (egC W u (i + 1)))), some (aI (nI i)), l5, l6] [] N := fun l5 l6 hq => by
      refine am_run hX 2 _ _ _ _ ?_
      conv => whnf
      rw [nI_1]
      exact ih (i + 1) _ _ (by omega) hq
    refine am_run hX 4 _ _ _ _ ?_
    conv => whnf
    rw [h.1]
    refine ⟨fun c => absurd c (nI_ge (by omega) (by omega)), fun _ => ?_⟩
    refine am_run hX 8 _ _ _ _ ?_
    conv => whnf
    cases hs : u i with
    | false =>
      rw [hs] at key
      have e : egC W u (i + 1) = egC W u i := if_neg (by rw [hs]; decide)
      rw [e] at nx
      refine ⟨fun _ => nx _ _ fun x hx hux => ?_, fun c => absurd (key.mpr rfl) c⟩
      by_cases ex : x = i
      · rw [ex, hs] at hux
        exact absurd hux (by decide)
      · exact hy x (by omega) hux
    | true =>
      rw [hs] at key
      have e : egC W u (i + 1) = egC W u i + (W.2.1 i + 4 * abW W u i) := if_pos hs
      rw [e] at nx
      refine ⟨fun c => absurd (key.mp c) (by decide), fun _ => ?_⟩
      refine am_run hX 11 _ _ _ _ ?_
      conv => whnf
      refine ⟨hI, ?_⟩
      conv => whnf
      rw [nI_clamp (n := i) (by omega), lg_0]
      have bits : ∀ j, j < 64 → (N.2 40 i &&& (v ^^^ -1)).toBitVec.getLsbD j = (decide (W.2.2 i j = 1) && !u j) := fun j hj => by
        rw [Int64.toBitVec_and, BitVec.getLsbD_and, (h.2.2.2.2 i (by omega) j hj).1, not_b hj, hv j hj]
      refine ⟨fun z => ?_, fun z => ?_⟩
      · have yes : wyC W u (i + 1) := fun x hx hux j hj => by
          by_cases ex : x = i
          · rw [ex] at hj
            have lj := g.2.2.2.2.1 j (g.2.2.2.2.2.2.2.2.2.1 i j (by omega)).2
            have := bits j (by omega)
            rw [z, bit_0, decide_eq_true hj, Bool.true_and] at this
            cases hh : u j with
            | true => rfl
            | false =>
              rw [hh] at this
              exact absurd this (by decide)
          · exact hy x (by omega) hux j hj
        refine am_run hX 15 _ _ _ _ ?_
        conv => whnf
        refine ⟨hI, ?_⟩
        conv => whnf
        rw [nI_clamp (n := i) (by omega)]
        have eb : lbc ((N.2 41 i &&& v) &&& ((((2 : Int64) <<< ((nI i).toInt64 &&& 63)) - 1) ^^^ -1)) = nI (abW W u i) := lbc_s fun j hj => by
          rw [Int64.toBitVec_and, BitVec.getLsbD_and, Int64.toBitVec_and, BitVec.getLsbD_and, (h.2.2.2.2 i (by omega) j hj).2, hv j hj, sh2_b (by omega) hj]
        have kb := ct_lbc (d := d) (M := N) ((N.2 41 i &&& v) &&& ((((2 : Int64) <<< ((nI i).toInt64 &&& 63)) - 1) ^^^ -1))
        rw [eb] at kb
        refine am_run hX 12 _ _ _ _ ?_
        conv => whnf
        refine ⟨hI, ?_⟩
        conv => whnf
        rw [nI_clamp (n := i) (by omega), h.2.2.2.1 i (hu i hs)]
        refine am_c1 kb ?_
        conv => whnf
        rw [show (4 : Int32) = nI 4 from rfl, nI_mul, nI_add, nI_add]
        exact nx _ _ yes
      · obtain ⟨j, hj, hb⟩ := bit_ex z
        rw [bits j hj, Bool.and_eq_true] at hb
        refine am_run hX 1 _ _ _ _ ?_
        conv => whnf
        refine ⟨trivial, hN fun y => ?_⟩
        rw [y i (by omega) hs j (of_decide_eq_true hb.1)] at hb
        exact absurd hb.2 (by decide)
set_option maxRecDepth 100000 in
theorem ct_awC (h : cwR N m inp W) (g : gdW m inp W) (hv : ∀ i, i < 64 → v.toBitVec.getLsbD i = u i) (hu : ∀ i, u i = true → W.1 i = true) : am_M (d + 2) false nm_X10_addWay [aR 39, aJ v] N (fun r N' => r = .inl none ∧ ((wyC W u m ∧ N' = awM N 45 (egC W u m)) ∨ (¬ wyC W u m ∧ N' = N))) := by
  have m60 := g.1
  have eb := eg_b g hu m
  refine ⟨rfl, rfl, rfl, fun X hX => am_run hX 4 _ _ _ _ ?_⟩
  conv => whnf
  refine aw_l (d := d) hX h g hv hu (fun hno => ⟨rfl, Or.inr ⟨hno, rfl⟩⟩) (fun hy l5 l6 => ?_) m 0 _ _ (by omega) (fun x hx => absurd hx (Nat.not_lt_zero _))
  generalize egC W u m = e at *
  have hE : vp_in (nI (e % 4)) 4 := vp_in_nI (by omega) (by decide)
  have e4 : e &&& 4 = if e % 8 < 4 then 0 else 4 := by
    have k : ∀ r, r < 8 → r &&& 4 = if r < 4 then 0 else 4 := by decide
    have k2 : e &&& 4 = e % 8 &&& 4 := by
      have := Nat.and_mod_two_pow (a := e) (b := 4) (n := 3)
      rw [show (4 : Nat) % 2 ^ 3 = 4 from rfl, show (2 : Nat) ^ 3 = 8 from rfl, Nat.mod_eq_of_lt (Nat.lt_of_le_of_lt Nat.and_le_right (by decide))] at this
      exact this
    rw [k2]
    exact k _ (by omega)
  refine am_run hX 11 _ _ _ _ ?_
  conv => whnf
  rw [nI_m3]
  refine ⟨hE, ?_⟩
  conv => whnf
  rw [nI_clamp (n := e % 4) (by omega), show (4 : Int32) = nI 4 from rfl, nI_and, e4]
  by_cases c : e % 8 < 4
  · rw [if_pos c]
    refine ⟨fun z => absurd rfl z, fun _ => ?_⟩
    refine am_run hX 5 _ _ _ _ ?_
    conv => whnf
    refine ⟨hE, ?_⟩
    conv => whnf
    rw [nI_clamp (n := e % 4) (by omega)]
    refine ⟨trivial, rfl, Or.inl ⟨hy, ?_⟩⟩
    unfold awM
    rw [if_pos c]
  · rw [if_neg c]
    refine ⟨fun _ => ?_, fun z => absurd (by decide) z⟩
    refine am_run hX 4 _ _ _ _ ?_
    conv => whnf
    refine ⟨hE, ?_⟩
    conv => whnf
    rw [nI_clamp (n := e % 4) (by omega)]
    refine ⟨trivial, rfl, Or.inl ⟨hy, ?_⟩⟩
    unfold awM
    rw [if_neg c]
end WAY
