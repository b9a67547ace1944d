/-! THE CLASS'S merge, whole; add -/
theorem fF_o {M : mm_M} {n : Nat} {q : Nat → Int32} {f g : Nat → Int64} {k : Nat} (h1 : k ≠ 83) (h2 : k ≠ 98) : (fF M n q f g).1 k = M.1 k := by
  simp [fF, mm_i, mm_l, h1, h2]
section MRW
variable {d : Nat} {M : mm_M} {a xr xp sA hA sX hX m : Nat} {κA κX : Nat → Nat} {RA IA RX IX : Nat → Int32} {sg : Int32}
/-- the numbers of the two, at a key of the first, of the second, of both, of none -/
theorem ad_A {cA cX : Int64} {R R' : Nat → Int32} {i : Nat} (ra : ∀ i j, i < j → j < sA → κA i < κA j) (hi : i < sA) (hno : ∀ b, b < sX → κX b ≠ κA i) : adP cA cX (sA, κA, R) (sX, κX, R') (κA i) = cA * (R i).toInt64 := by
  show cA * lkp κA R sA (κA i) + cX * lkp κX R' sX (κA i) = _
  rw [lkp_in sA (ris_i ra) hi, lkp_no sX hno, Int64.mul_zero, Int64.add_zero]
theorem ad_X {cA cX : Int64} {R R' : Nat → Int32} {j : Nat} (rx : ∀ i j, i < j → j < sX → κX i < κX j) (hj : j < sX) (hno : ∀ b, b < sA → κA b ≠ κX j) : adP cA cX (sA, κA, R) (sX, κX, R') (κX j) = 0 + cX * (R' j).toInt64 := by
  show cA * lkp κA R sA (κX j) + cX * lkp κX R' sX (κX j) = _
  rw [lkp_in sX (ris_i rx) hj, lkp_no sA hno, Int64.mul_zero]
theorem ad_AX {cA cX : Int64} {R R' : Nat → Int32} {i j : Nat} (ra : ∀ i j, i < j → j < sA → κA i < κA j) (rx : ∀ i j, i < j → j < sX → κX i < κX j) (hi : i < sA) (hj : j < sX) (e : κA i = κX j) : adP cA cX (sA, κA, R) (sX, κX, R') (κA i) = cA * (R i).toInt64 + cX * (R' j).toInt64 := by
  show cA * lkp κA R sA (κA i) + cX * lkp κX R' sX (κA i) = _
  rw [lkp_in sA (ris_i ra) hi, e, lkp_in sX (ris_i rx) hj]
theorem ad_0 {cA cX : Int64} {R R' : Nat → Int32} {x : Nat} (h1 : ∀ b, b < sA → κA b ≠ x) (h2 : ∀ b, b < sX → κX b ≠ x) : adP cA cX (sA, κA, R) (sX, κX, R') x = 0 := by
  show cA * lkp κA R sA x + cX * lkp κX R' sX x = _
  rw [lkp_no sA h1, lkp_no sX h2, Int64.mul_zero, Int64.mul_zero]
  rfl
theorem nz_00 : nzJ 0 0 = false := by decide
set_option maxRecDepth 100000 in
theorem mg_l {Pp : am_Q} {X : am_X} {P Q : Nat → Int64} (hX' : am_K (d + 1) false nm_X9_merge Pp X) (ha : a < 2) (hx : xr = 1 ∧ xp = 0 ∨ xr = 1 ∧ xp = 1 ∨ xr = 2 ∧ xp = 2) (e0 : M.1 84 0 = nI a ∧ M.1 88 0 = nI a ∧ M.1 92 0 = nI a) (ex : M.1 84 xr = nI xp ∧ M.1 88 xr = nI xp ∧ M.1 92 xr = nI xp) (h1 : csS M a 0 (sA, hA, κA, RA, IA)) (h2 : csS M xp xr (sX, hX, κX, RX, IX)) (s1 : sA ≤ 150) (s2 : sX ≤ 150) (m1 : hA ≤ m) (m2 : hX ≤ m) (ra : ∀ i j, i < j → j < sA → κA i < κA j) (rx : ∀ i j, i < j → j < sX → κX i < κX j) (la : ∀ i, i < sA → κA i < 65536) (lx : ∀ i, i < sX → κX i < 65536) (hPe : P = adP (shA (m - hA)) (sg.toInt64 <<< ((nI (m - hX)).toInt64 &&& 63)) (sA, κA, RA) (sX, κX, RX)) (hQe : Q = adP (shA (m - hA)) (sg.toInt64 <<< ((nI (m - hX)).toInt64 &&& 63)) (sA, κA, IA) (sX, κX, IX)) (hP : ∀ n κ q f g, n ≤ sA + sX → fnd P Q 65536 n κ q f g → Pp (.inl none) (fF M n q f g)) : ∀ w i j n β κ q f g l6 l7 l8 l9 l10 l11, (sA - i) + (sX - j) = w → i ≤ sA → j ≤ sX → n ≤ i + j → β ≤ 65536 → fnd P Q β n κ q f g → (∀ b, i ≤ b → b < sA → β ≤ κA b) → (∀ b, j ≤ b → b < sX → β ≤ κX b) → (∀ b, b < i → κA b < β) → (∀ b, b < j → κX b < β) → X 11 [some (aR 83), some (aI (nI xr)), some (aI (nI m)), some (aI sg), some (aI (nI i)), some (aI (nI j)), l6, l7, l8, l9, l10, l11] [] (fF M n q f g) := by
  have h0 : vp_in 0 3 := vp_in_nI (n := 0) (N := 3) (by decide) (by decide)
  have hin : vp_in (nI xr) 3 := vp_in_nI (by omega) (by decide)
  have z0 : ∀ x, (∀ b, b < sA → κA b ≠ x) → (∀ b, b < sX → κX b ≠ x) → nzJ (P x) (Q x) = false := fun x y1 y2 => by
    rw [hPe, hQe, ad_0 y1 y2, ad_0 y1 y2]
    rfl
  intro w
  induction w using Nat.strongRecOn with
  | _ w ih =>
  intro i j n β κ q f g l6 l7 l8 l9 l10 l11 hw hi hj hn hβ hF gA gX lA lX
  have start : (i < sA ∨ j < sX) → X 33 [some (aR 83), some (aI (nI xr)), some (aI (nI m)), some (aI sg), some (aI (nI i)), some (aI (nI j)), l6, l7, l8, l9, l10, l11] [] (fF M n q f g) → X 11 [some (aR 83), some (aI (nI xr)), some (aI (nI m)), some (aI sg), some (aI (nI i)), some (aI (nI j)), l6, l7, l8, l9, l10, l11] [] (fF M n q f g) := fun hc hK => by
    refine am_run hX' 6 _ _ _ _ ?_
    conv => whnf
    refine ⟨h0, ?_⟩
    conv => whnf
    rw [show (fF M n q f g).1 96 (Int32.toNatClampNeg 0) = nI sA from h1.1]
    refine ⟨fun _ => hK, fun c => ?_⟩
    have c : ¬ i < sA := fun z => c (nI_lt z (by omega))
    refine am_run hX' 6 _ _ _ _ ?_
    conv => whnf
    refine ⟨hin, ?_⟩
    conv => whnf
    rw [nI_clamp (n := xr) (by omega), show (fF M n q f g).1 96 xr = nI sX from h2.1]
    exact ⟨fun z => absurd z (nI_ge (by omega) (by omega)), fun _ => hK⟩
  by_cases hend : i = sA ∧ j = sX
  · obtain ⟨ei, ej⟩ := hend
    subst ei
    subst ej
    refine am_run hX' 6 _ _ _ _ ?_
    conv => whnf
    refine ⟨h0, ?_⟩
    conv => whnf
    rw [show (fF M n q f g).1 96 (Int32.toNatClampNeg 0) = nI i from h1.1]
    refine ⟨fun c => absurd c (nI_nlt (Nat.le_refl _) (by omega)), fun _ => ?_⟩
    refine am_run hX' 6 _ _ _ _ ?_
    conv => whnf
    refine ⟨hin, ?_⟩
    conv => whnf
    rw [nI_clamp (n := xr) (by omega), show (fF M n q f g).1 96 xr = nI j from h2.1]
    refine ⟨fun _ => ?_, fun c => absurd (nI_le (Nat.le_refl _) (by omega)) c⟩
    refine am_run hX' 1 _ _ _ _ ?_
    conv => whnf
    refine ⟨trivial, hP n κ q f g hn (fnd_up hF hβ fun x y1 y2 => z0 x (fun b hb e => ?_) (fun b hb e => ?_))⟩
    · have := lA b hb
      omega
    · have := lX b hb
      omega
  · -- the next key
    have fin : ∀ k i' j' (p r : Int64) (o t : Nat), p = P k → r = Q k → k = min o t → o < 2 ^ 30 → t < 2 ^ 30 → β ≤ k → k < 65536 → i ≤ i' → j ≤ j' → i' ≤ sA → j' ≤ sX → i + j < i' + j' → (∀ b, i ≤ b → b < sA → k ≤ κA b) → (∀ b, j ≤ b → b < sX → k ≤ κX b) → (∀ b, i' ≤ b → b < sA → k < κA b) → (∀ b, j' ≤ b → b < sX → k < κX b) → (∀ b, b < i' → κA b ≤ k) → (∀ b, b < j' → κX b ≤ k) → X 209 [some (aR 83), some (aI (nI xr)), some (aI (nI m)), some (aI sg), some (aI (nI i')), some (aI (nI j')), some (aI (nI o)), some (aI (nI t)), some (aJ p), none, some (aJ r), none] [] (fF M n q f g) := by
      intro k i' j' p r o t ep er ek ho ht kb k6 ii jj iA jX ij mA mX uA uX wA' wX'
      refine am_run hX' 8 _ _ _ _ ?_
      conv => whnf
      rw [nI_min (by omega) (by omega), ← ek]
      refine am_cq (ct_findR (d := d) (k := k) hF kb (fun x y1 y2 => z0 x (fun b hb e => ?_) (fun b hb e => ?_)) ep er (by omega)) ?_
      · by_cases c : b < i
        · have := lA b c
          omega
        · have := mA b (by omega) hb
          omega
      · by_cases c : b < j
        · have := lX b c
          omega
        · have := mX b (by omega) hb
          omega
      · rintro r' M' ⟨rfl, n2, κ2, q2, f2, g2, hn2, hF2, rfl⟩
        refine ⟨none, rfl, ?_⟩
        conv => whnf
        refine ih ((sA - i') + (sX - j')) (by omega) i' j' n2 (k + 1) κ2 q2 f2 g2 _ _ _ _ _ _ rfl iA jX (by omega) (by omega) hF2 (fun b y1 y2 => uA b y1 y2) (fun b y1 y2 => uX b y1 y2) (fun b y => Nat.lt_succ_of_le (wA' b y)) (fun b y => Nat.lt_succ_of_le (wX' b y))
    have k97A : (fF M n q f g).1 97 0 = nI hA := h1.2.1
    have k97X : (fF M n q f g).1 97 xr = nI hX := h2.2.1
    refine start (by omega) ?_
    refine mg_one (d := d) (N := fF M n q f g) (s := sA) (κA := κA) hX' ha e0.1 h1.1 s1 (fun j hj => by rw [fF_o (by omega) (by omega)]; exact (h1.2.2 j hj).1) hi ?_
    refine mg_two (d := d) (N := fF M n q f g) (s := sX) (κX := κX) hX' hx ex.1 h2.1 s2 (fun j hj => by rw [fF_o (by omega) (by omega)]; exact (h2.2.2 j hj).1) hj ?_
    refine am_run hX' 7 _ _ _ _ ?_
    conv => whnf
    by_cases cA : i < sA
    · obtain ⟨_, rA1, rA2⟩ := h1.2.2 i cA
      have lAi := la i cA
      by_cases cX : j < sX
      · obtain ⟨_, rX1, rX2⟩ := h2.2.2 j cX
        have lXj := lx j cX
        rw [if_pos cA, if_pos cX]
        by_cases c1 : κA i ≤ κX j
        · refine ⟨fun z => absurd z (nI_nlt c1 (by omega)), fun _ => ?_⟩
          refine mg_A (d := d) (N := fF M n q f g) hX' ha e0.2.1 e0.2.2 k97A m1 (by omega) ?_
          rw [fF_o (k := 89 + a) (by omega) (by omega), fF_o (k := 93 + a) (by omega) (by omega), show M.1 (89 + a) i = RA i from rA1, show M.1 (93 + a) i = IA i from rA2]
          refine am_run hX' 3 _ _ _ _ ?_
          conv => whnf
          by_cases c2 : κX j ≤ κA i
          · have e : κA i = κX j := by omega
            refine ⟨fun z => absurd z (nI_nlt c2 (by omega)), fun _ => ?_⟩
            refine mg_X (d := d) (N := fF M n q f g) hX' hx ex.2.1 ex.2.2 k97X m2 (by omega) ?_
            rw [fF_o (k := 89 + xp) (by omega) (by omega), fF_o (k := 93 + xp) (by omega) (by omega), show M.1 (89 + xp) j = RX j from rX1, show M.1 (93 + xp) j = IX j from rX2]
            refine fin (κA i) (i + 1) (j + 1) _ _ _ _ (by rw [hPe, ad_AX ra rx cA cX e]) (by rw [hQe, ad_AX ra rx cA cX e]) (by omega) (by omega) (by omega) (gA i (by omega) cA) lAi (by omega) (by omega) (by omega) (by omega) (by omega) (fun b y1 y2 => ?_) (fun b y1 y2 => ?_) (fun b y1 y2 => ra i b (by omega) y2) (fun b y1 y2 => ?_) (fun b y => ?_) (fun b y => ?_)
            · by_cases eb : b = i
              · rw [eb]; exact Nat.le_refl _
              · exact Nat.le_of_lt (ra i b (by omega) y2)
            · by_cases eb : b = j
              · rw [eb]; exact c1
              · have := rx j b (by omega) y2
                omega
            · have := rx j b (by omega) y2
              omega
            · by_cases eb : b = i
              · rw [eb]; exact Nat.le_refl _
              · exact Nat.le_of_lt (ra b i (by omega) cA)
            · by_cases eb : b = j
              · rw [eb]; exact c2
              · have := rx b j (by omega) cX
                omega
          · refine ⟨fun _ => ?_, fun z => absurd (nI_lt (by omega) (by omega)) z⟩
            have hno : ∀ b, b < sX → κX b ≠ κA i := fun b hb e => by
              by_cases cb : b < j
              · have := lX b cb
                have := gA i (by omega) cA
                omega
              · by_cases eb : b = j
                · rw [eb] at e; omega
                · have := rx j b (by omega) hb
                  omega
            refine fin (κA i) (i + 1) j _ _ _ _ (by rw [hPe, ad_A ra cA hno]) (by rw [hQe, ad_A ra cA hno]) (by omega) (by omega) (by omega) (gA i (by omega) cA) lAi (by omega) (by omega) (by omega) (by omega) (by omega) (fun b y1 y2 => ?_) (fun b y1 y2 => ?_) (fun b y1 y2 => ra i b (by omega) y2) (fun b y1 y2 => ?_) (fun b y => ?_) (fun b y => ?_)
            · by_cases eb : b = i
              · rw [eb]; exact Nat.le_refl _
              · exact Nat.le_of_lt (ra i b (by omega) y2)
            · by_cases eb : b = j
              · rw [eb]; exact c1
              · have := rx j b (by omega) y2
                omega
            · by_cases eb : b = j
              · rw [eb]; omega
              · have := rx j b (by omega) y2
                omega
            · by_cases eb : b = i
              · rw [eb]; exact Nat.le_refl _
              · exact Nat.le_of_lt (ra b i (by omega) cA)
            · have := lX b y
              have := gA i (by omega) cA
              omega
        · refine ⟨fun _ => ?_, fun z => absurd (nI_lt (by omega) (by omega)) z⟩
          refine am_run hX' 3 _ _ _ _ ?_
          conv => whnf
          refine ⟨fun z => absurd z (nI_nlt (by omega) (by omega)), fun _ => ?_⟩
          refine mg_X (d := d) (N := fF M n q f g) hX' hx ex.2.1 ex.2.2 k97X m2 (by omega) ?_
          rw [fF_o (k := 89 + xp) (by omega) (by omega), fF_o (k := 93 + xp) (by omega) (by omega), show M.1 (89 + xp) j = RX j from rX1, show M.1 (93 + xp) j = IX j from rX2]
          have hno : ∀ b, b < sA → κA b ≠ κX j := fun b hb e => by
            by_cases cb : b < i
            · have := lA b cb
              have := gX j (by omega) cX
              omega
            · by_cases eb : b = i
              · rw [eb] at e; omega
              · have := ra i b (by omega) hb
                omega
          refine fin (κX j) i (j + 1) _ _ _ _ (by rw [hPe, ad_X rx cX hno]) (by rw [hQe, ad_X rx cX hno]) (by omega) (by omega) (by omega) (gX j (by omega) cX) lXj (by omega) (by omega) (by omega) (by omega) (by omega) (fun b y1 y2 => ?_) (fun b y1 y2 => ?_) (fun b y1 y2 => ?_) (fun b y1 y2 => rx j b (by omega) y2) (fun b y => ?_) (fun b y => ?_)
          · by_cases eb : b = i
            · rw [eb]; omega
            · have := ra i b (by omega) y2
              omega
          · by_cases eb : b = j
            · rw [eb]; exact Nat.le_refl _
            · exact Nat.le_of_lt (rx j b (by omega) y2)
          · by_cases eb : b = i
            · rw [eb]; omega
            · have := ra i b (by omega) y2
              omega
          · have := lA b y
            have := gX j (by omega) cX
            omega
          · by_cases eb : b = j
            · rw [eb]; exact Nat.le_refl _
            · exact Nat.le_of_lt (rx b j (by omega) cX)
      · rw [if_pos cA, if_neg cX]
        refine ⟨fun z => absurd z (nI_nlt (by omega) (by omega)), fun _ => ?_⟩
        refine mg_A (d := d) (N := fF M n q f g) hX' ha e0.2.1 e0.2.2 k97A m1 (by omega) ?_
        rw [fF_o (k := 89 + a) (by omega) (by omega), fF_o (k := 93 + a) (by omega) (by omega), show M.1 (89 + a) i = RA i from rA1, show M.1 (93 + a) i = IA i from rA2]
        refine am_run hX' 3 _ _ _ _ ?_
        conv => whnf
        refine ⟨fun _ => ?_, fun z => absurd (nI_lt (by omega) (by omega)) z⟩
        have hno : ∀ b, b < sX → κX b ≠ κA i := fun b hb e => by
          have := lX b (by omega)
          have := gA i (by omega) cA
          omega
        refine fin (κA i) (i + 1) j _ _ _ _ (by rw [hPe, ad_A ra cA hno]) (by rw [hQe, ad_A ra cA hno]) (by omega) (by omega) (by omega) (gA i (by omega) cA) lAi (by omega) (by omega) (by omega) (by omega) (by omega) (fun b y1 y2 => ?_) (fun b y1 y2 => by omega) (fun b y1 y2 => ra i b (by omega) y2) (fun b y1 y2 => by omega) (fun b y => ?_) (fun b y => ?_)
        · by_cases eb : b = i
          · rw [eb]; exact Nat.le_refl _
          · exact Nat.le_of_lt (ra i b (by omega) y2)
        · by_cases eb : b = i
          · rw [eb]; exact Nat.le_refl _
          · exact Nat.le_of_lt (ra b i (by omega) cA)
        · have := lX b y
          have := gA i (by omega) cA
          omega
    · have cX : j < sX := by omega
      obtain ⟨_, rX1, rX2⟩ := h2.2.2 j cX
      have lXj := lx j cX
      rw [if_neg cA, if_pos cX]
      refine ⟨fun _ => ?_, fun z => absurd (nI_lt (by omega) (by omega)) z⟩
      refine am_run hX' 3 _ _ _ _ ?_
      conv => whnf
      refine ⟨fun z => absurd z (nI_nlt (by omega) (by omega)), fun _ => ?_⟩
      refine mg_X (d := d) (N := fF M n q f g) hX' hx ex.2.1 ex.2.2 k97X m2 (by omega) ?_
      rw [fF_o (k := 89 + xp) (by omega) (by omega), fF_o (k := 93 + xp) (by omega) (by omega), show M.1 (89 + xp) j = RX j from rX1, show M.1 (93 + xp) j = IX j from rX2]
      have hno : ∀ b, b < sA → κA b ≠ κX j := fun b hb e => by
        have := lA b (by omega)
        have := gX j (by omega) cX
        omega
      refine fin (κX j) i (j + 1) _ _ _ _ (by rw [hPe, ad_X rx cX hno]) (by rw [hQe, ad_X rx cX hno]) (by omega) (by omega) (by omega) (gX j (by omega) cX) lXj (by omega) (by omega) (by omega) (by omega) (by omega) (fun b y1 y2 => by omega) (fun b y1 y2 => ?_) (fun b y1 y2 => by omega) (fun b y1 y2 => rx j b (by omega) y2) (fun b y => ?_) (fun b y => ?_)
      · by_cases eb : b = j
        · rw [eb]; exact Nat.le_refl _
        · exact Nat.le_of_lt (rx j b (by omega) y2)
      · have := lA b y
        have := gX j (by omega) cX
        omega
      · by_cases eb : b = j
        · rw [eb]; exact Nat.le_refl _
        · exact Nat.le_of_lt (rx b j (by omega) cX)
end MRW
