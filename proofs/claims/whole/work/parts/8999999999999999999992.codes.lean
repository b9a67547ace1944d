/-! codes -/
/-- the first weight of which p holds -/
def dsL (p : Nat → Bool) : Nat → Nat → Nat
  | 0, _ => 0
  | m + 1, w => if p w = true then w else dsL p m (w + 1)
def pD (n s : Nat) (sy : Nat → Nat) (re : Nat → Int32) (w : Nat) : Bool := decide ((if s = n then 0 else kN (pA re w) (4 ^ n)) < kN (pB sy w) (4 ^ n))
/-- the reference's numbers -/
def cdR (M : mm_M) (n s : Nat) (sy : Nat → Nat) (re : Nat → Int32) : Prop := M.1 108 109 = 1 ∧ M.1 108 110 = nI n ∧ M.1 108 111 = nI s ∧ (∀ w, w < 9 → M.1 182 w = nI (kN (pA re w) (4 ^ n)) ∧ M.1 183 w = nI (kN (pB sy w) (4 ^ n)) ∧ M.1 184 w = nI (kN (pC sy re (4 ^ n) w) (4 ^ n))) ∧ (∀ u, u < 2 ^ s → M.1 185 u = oN (lsCd sy (4 ^ n) u)) ∧ M.1 108 124 = nI (dsL (pD n s sy re) n 1)
/-- what codes answers -/
def cdV (n s : Nat) (sy : Nat → Nat) (re : Nat → Int32) (k : Nat) : Int32 :=
  if 100 ≤ k ∧ k ≤ 108 then nI (kN (pA re (k - 100)) (4 ^ n))
  else if 200 ≤ k ∧ k ≤ 208 then nI (kN (pB sy (k - 200)) (4 ^ n))
  else if 300 ≤ k ∧ k ≤ 308 then nI (kN (pC sy re (4 ^ n) (k - 300)) (4 ^ n))
  else if 400 ≤ k ∧ k < 400 + 2 ^ s then oN (lsCd sy (4 ^ n) (k - 400))
  else if k = 0 then nI n else if k = 1 then nI s else if k = 2 then nI (dsL (pD n s sy re) n 1) else -1
theorem dv100 : ∀ k, k < 400 → nI k / 100 = nI (k / 100) ∧ nI k - nI k / 100 * 100 = nI (k % 100) := by decide +kernel
section CDD
variable {d n s : Nat} {M : mm_M} {sy : Nat → Nat} {re : Nat → Int32}
set_option maxRecDepth 100000 in
theorem di_l {Pp : am_Q} {X : am_X} (hX : am_K d false nm_X3_distance Pp X) (hT : cdT M n s sy re) (hA : cdA M n sy re) : ∀ m w l2, w + m = n + 1 → 1 ≤ w → Pp (.inl (some (aI (nI (dsL (pD n s sy re) m w))))) M → X 2 [some (aR 46), some (aI (nI w)), l2] [] M := by
  have n8 := hT.2.2.2.1
  have s8 := hT.2.2.2.2.1
  have m16 : 4 ^ n ≤ 65536 := (Nat.pow_le_pow_right (n := 4) (by decide) n8 : 4 ^ n ≤ 4 ^ 8)
  intro m
  induction m with
  | zero =>
    intro w l2 hw h1 hP
    refine am_run hX 4 _ _ _ _ ?_
    conv => whnf
    rw [hT.1]
    refine ⟨fun _ => ?_, fun c => absurd (nI_lt (by omega) (by omega)) c⟩
    refine am_run hX 2 _ _ _ _ ?_
    conv => whnf
    exact ⟨trivial, hP⟩
  | succ m ih =>
    intro w l2 hw h1 hP
    have hW : vp_in (nI w) 9 := vp_in_nI (by omega) (by decide)
    obtain ⟨b1, b2, _⟩ := hA.1 w (by omega)
    have kA := kN_le (pA re w) (4 ^ n)
    have kB := kN_le (pB sy w) (4 ^ n)
    refine am_run hX 4 _ _ _ _ ?_
    conv => whnf
    rw [hT.1]
    refine ⟨fun c => absurd c (nI_nlt (by omega) (by omega)), fun _ => ?_⟩
    have k31 : ∀ q, q = (if s = n then 0 else kN (pA re w) (4 ^ n)) → q ≤ 65536 → X 31 [some (aR 46), some (aI (nI w)), l2] [aI (nI q)] M := fun q hq q16 => by
      refine am_run hX 7 _ _ _ _ ?_
      conv => whnf
      refine ⟨hW, ?_⟩
      conv => whnf
      rw [nI_clamp (n := w) (by omega), b2]
      by_cases c : q < kN (pB sy w) (4 ^ n)
      · refine ⟨fun z => absurd z (nI_ge c (by omega)), fun _ => ?_⟩
        refine am_run hX 2 _ _ _ _ ?_
        conv => whnf
        have e : dsL (pD n s sy re) (m + 1) w = w := if_pos (decide_eq_true (by rw [← hq]; exact c))
        rw [e] at hP
        exact ⟨trivial, hP⟩
      · refine ⟨fun _ => ?_, fun z => absurd (nI_le (by omega) (by omega)) z⟩
        refine am_run hX 2 _ _ _ _ ?_
        conv => whnf
        rw [nI_1]
        have e : dsL (pD n s sy re) (m + 1) w = dsL (pD n s sy re) m (w + 1) := if_neg (fun z => c (by rw [hq]; exact of_decide_eq_true z))
        rw [e] at hP
        exact ih (w + 1) _ (by omega) (by omega) hP
    refine am_run hX 5 _ _ _ _ ?_
    conv => whnf
    rw [hT.1, hT.2.1]
    by_cases e : s = n
    · refine ⟨fun c => absurd (by rw [e]) c, fun _ => ?_⟩
      refine am_run hX 2 _ _ _ _ ?_
      conv => whnf
      exact k31 0 (by rw [if_pos e]) (by decide)
    · refine ⟨fun _ => ?_, fun c => absurd (fun z => e ((nI_eq (by omega) (by omega)).mp z)) c⟩
      refine am_run hX 4 _ _ _ _ ?_
      conv => whnf
      refine ⟨hW, ?_⟩
      conv => whnf
      rw [nI_clamp (n := w) (by omega), b1]
      exact k31 _ (by rw [if_neg e]) (by omega)
set_option maxRecDepth 100000 in
theorem ct_dist (hT : cdT M n s sy re) (hA : cdA M n sy re) : am_M (d + 1) false nm_X3_distance [aR 46] M (am_q1 (aI (nI (dsL (pD n s sy re) n 1))) M) := by
  refine ⟨rfl, rfl, rfl, fun X hX => am_run hX 2 _ _ _ _ ?_⟩
  conv => whnf
  exact di_l hX hT hA n 1 _ (by omega) (by omega) ⟨rfl, rfl⟩
set_option maxRecDepth 100000 in
theorem cx_43 {k : Nat} {Pp : am_Q} {X : am_X} (hX : am_K (d + 1) false nm_X11_codes Pp X) (hT : cdT M n s sy re) (hA : cdA M n sy re) (k2 : 2 ≤ k) (k31 : k < 2 ^ 31) (hP : Pp (.inl (some (aI (cdV n s sy re k)))) M) : X 50 [some (aR 0), some (aI (nI k)), none, none] [] M := by
  have s8 := hT.2.2.2.2.1
  have s256 : 2 ^ s ≤ 256 := (Nat.pow_le_pow_right (n := 2) (by decide) s8 : 2 ^ s ≤ 2 ^ 8)
  refine am_run hX 3 _ _ _ _ ?_
  conv => whnf
  by_cases e2 : k = 2
  · refine ⟨fun c => absurd (by rw [e2]; rfl) c, fun _ => ?_⟩
    refine am_run hX 3 _ _ _ _ ?_
    conv => whnf
    refine am_c1 (ct_dist (d := d) hT hA) ?_
    conv => whnf
    refine am_run hX 1 _ _ _ _ ?_
    conv => whnf
    have e : cdV n s sy re k = nI (dsL (pD n s sy re) n 1) := by
      unfold cdV
      rw [if_neg (by omega), if_neg (by omega), if_neg (by omega), if_neg (by omega), if_neg (by omega), if_neg (by omega), if_pos e2]
    rw [e] at hP
    exact ⟨trivial, hP⟩
  refine ⟨fun _ => ?_, fun c => absurd (fun z => e2 ((nI_eq (b := 2) (by omega) (by decide)).mp z)) c⟩
  refine am_run hX 3 _ _ _ _ ?_
  conv => whnf
  by_cases k4 : k < 400
  · refine ⟨fun _ => ?_, fun c => absurd (nI_lt k4 (by decide)) c⟩
    obtain ⟨q1, q2⟩ := dv100 k k4
    refine am_run hX 3 _ _ _ _ ?_
    conv => whnf
    refine ⟨by decide, ?_⟩
    conv => whnf
    rw [q1]
    refine am_run hX 4 _ _ _ _ ?_
    conv => whnf
    refine ⟨by decide, ?_⟩
    conv => whnf
    rw [q2]
    have bad : ¬ (100 ≤ k ∧ k % 100 ≤ 8) → X 126 [some (aR 0), some (aI (nI k)), some (aI (nI (k / 100))), some (aI (nI (k % 100)))] [] M := fun c => by
      refine am_run hX 2 _ _ _ _ ?_
      conv => whnf
      have e : cdV n s sy re k = -1 := by
        unfold cdV
        rw [if_neg (by omega), if_neg (by omega), if_neg (by omega), if_neg (by omega), if_neg (by omega), if_neg (by omega), if_neg (by omega)]
      rw [e] at hP
      exact ⟨trivial, hP⟩
    refine am_run hX 4 _ _ _ _ ?_
    conv => whnf
    by_cases c1 : k < 100
    · refine ⟨fun _ => bad (by omega), fun c => absurd (nI_lt (a := k / 100) (b := 1) (by omega) (by decide)) c⟩
    refine ⟨fun c => absurd c (nI_nlt (b := 1) (by omega) (by omega)), fun _ => ?_⟩
    refine am_run hX 3 _ _ _ _ ?_
    conv => whnf
    by_cases c8 : k % 100 ≤ 8
    · refine ⟨fun _ => ?_, fun c => absurd (nI_le (b := 8) c8 (by decide)) c⟩
      have hI : vp_in (nI (k % 100)) 9 := vp_in_nI (by omega) (by decide)
      obtain ⟨g1, g2, g3⟩ := hA.1 (k % 100) (by omega)
      refine am_run hX 3 _ _ _ _ ?_
      conv => whnf
      by_cases d1 : k / 100 = 1
      · refine ⟨fun c => absurd (by rw [d1]; rfl) c, fun _ => ?_⟩
        refine am_run hX 7 _ _ _ _ ?_
        conv => whnf
        refine ⟨hI, ?_⟩
        conv => whnf
        rw [nI_clamp (n := k % 100) (by omega), g1]
        have e : cdV n s sy re k = nI (kN (pA re (k % 100)) (4 ^ n)) := by
          unfold cdV
          rw [if_pos (by omega), show k - 100 = k % 100 by omega]
        rw [e] at hP
        exact ⟨trivial, hP⟩
      refine ⟨fun _ => ?_, fun c => absurd (fun z => d1 ((nI_eq (b := 1) (by omega) (by decide)).mp z)) c⟩
      refine am_run hX 3 _ _ _ _ ?_
      conv => whnf
      by_cases d2 : k / 100 = 2
      · refine ⟨fun c => absurd (by rw [d2]; rfl) c, fun _ => ?_⟩
        refine am_run hX 7 _ _ _ _ ?_
        conv => whnf
        refine ⟨hI, ?_⟩
        conv => whnf
        rw [nI_clamp (n := k % 100) (by omega), g2]
        have e : cdV n s sy re k = nI (kN (pB sy (k % 100)) (4 ^ n)) := by
          unfold cdV
          rw [if_neg (by omega), if_pos (by omega), show k - 200 = k % 100 by omega]
        rw [e] at hP
        exact ⟨trivial, hP⟩
      refine ⟨fun _ => ?_, fun c => absurd (fun z => d2 ((nI_eq (b := 2) (by omega) (by decide)).mp z)) c⟩
      refine am_run hX 6 _ _ _ _ ?_
      conv => whnf
      refine ⟨hI, ?_⟩
      conv => whnf
      rw [nI_clamp (n := k % 100) (by omega), g3]
      have e : cdV n s sy re k = nI (kN (pC sy re (4 ^ n) (k % 100)) (4 ^ n)) := by
        unfold cdV
        rw [if_neg (by omega), if_neg (by omega), if_pos (by omega), show k - 300 = k % 100 by omega]
      rw [e] at hP
      exact ⟨trivial, hP⟩
    · exact ⟨fun c => absurd c (nI_ge (a := 8) (b := k % 100) (by omega) (by omega)), fun _ => bad (by omega)⟩
  refine ⟨fun c => absurd c (nI_nlt (b := 400) (by omega) (by omega)), fun _ => ?_⟩
  refine am_run hX 9 _ _ _ _ ?_
  conv => whnf
  rw [hT.2.1, sh2 s (by omega), show (400 : Int32) = nI 400 from rfl, nI_sub (by omega)]
  by_cases cs : k - 400 < 2 ^ s
  · refine ⟨fun c => absurd c (nI_ge cs (by omega)), fun _ => ?_⟩
    refine am_run hX 8 _ _ _ _ ?_
    conv => whnf
    rw [show (400 : Int32) = nI 400 from rfl, nI_sub (by omega)]
    refine ⟨vp_in_nI (by show k - 400 < 256; omega) (by decide), ?_⟩
    conv => whnf
    rw [nI_clamp (n := k - 400) (by omega), hA.2 _ (by omega)]
    refine am_run hX 2 _ _ _ _ ?_
    conv => whnf
    have e : cdV n s sy re k = oN (lsCd sy (4 ^ n) (k - 400)) := by
      unfold cdV
      rw [if_neg (by omega), if_neg (by omega), if_neg (by omega), if_pos (by omega)]
    rw [e] at hP
    exact ⟨trivial, hP⟩
  · refine ⟨fun _ => ?_, fun c => absurd (nI_le (by omega) (by omega)) c⟩
    refine am_run hX 2 _ _ _ _ ?_
    conv => whnf
    have e : cdV n s sy re k = -1 := by
      unfold cdV
      rw [if_neg (by omega), if_neg (by omega), if_neg (by omega), if_neg (by omega), if_neg (by omega), if_neg (by omega), if_neg (by omega)]
    rw [e] at hP
    exact ⟨trivial, hP⟩
/-- what is kept of a CODE, without the PAULIS -/
def cdI0 (M : mm_M) (n s : Nat) (sy : Nat → Nat) (re : Nat → Int32) : Prop := cdT M n s sy re ∧ (M.1 46 17 = 0 ∨ M.1 46 17 = 1 ∧ cdA M n sy re) ∧ cdR M n s sy re
set_option maxRecDepth 100000 in
theorem ct_cdsX {k : Nat} (h : cdI0 M n s sy re) (k31 : k < 2 ^ 31) : am_M (d + 4) false nm_X11_codes [aR 0, aI (nI k)] M (fun r N => r = .inl (some (aI (cdV n s sy re k))) ∧ (N = M ∨ caG M N ∧ N.1 46 17 = 1 ∧ cdA N n sy re)) := by
  obtain ⟨hT, h17, _⟩ := h
  have n1 := hT.2.2.1
  have n8 := hT.2.2.2.1
  refine ⟨rfl, rfl, rfl, fun X hX => am_run hX 4 _ _ _ _ ?_⟩
  conv => whnf
  rw [hT.1]
  refine ⟨fun c => absurd ((nI_eq (b := 0) (by omega) (by decide)).mp c) (by omega), fun _ => ?_⟩
  refine am_run hX 2 _ _ _ _ ?_
  conv => whnf
  refine ⟨fun _ => ?_, fun c => absurd (nI_le (a := 0) (b := k) (by omega) k31) c⟩
  refine am_run hX 3 _ _ _ _ ?_
  conv => whnf
  by_cases c2 : k < 2
  · refine ⟨fun c => absurd c (nI_ge (b := 2) c2 (by decide)), fun _ => ?_⟩
    refine am_run hX 2 _ _ _ _ ?_
    conv => whnf
    by_cases c0 : k = 0
    · refine ⟨fun c => absurd (by rw [c0]; rfl) c, fun _ => ?_⟩
      refine am_run hX 5 _ _ _ _ ?_
      conv => whnf
      rw [hT.1]
      refine ⟨trivial, ?_, Or.inl rfl⟩
      unfold cdV
      rw [if_neg (by omega), if_neg (by omega), if_neg (by omega), if_neg (by omega), if_pos c0]
    · refine ⟨fun _ => ?_, fun c => absurd (fun z => c0 ((nI_eq (b := 0) (by omega) (by decide)).mp z)) c⟩
      refine am_run hX 4 _ _ _ _ ?_
      conv => whnf
      rw [hT.2.1]
      refine ⟨trivial, ?_, Or.inl rfl⟩
      unfold cdV
      rw [if_neg (by omega), if_neg (by omega), if_neg (by omega), if_neg (by omega), if_neg c0, if_pos (by omega)]
  · refine ⟨fun _ => ?_, fun c => absurd (nI_le (a := 2) (b := k) (by omega) k31) c⟩
    refine am_run hX 3 _ _ _ _ ?_
    conv => whnf
    rcases h17 with h17 | ⟨h17, hA⟩
    · refine am_cq (ct_cAll (d := d) hT h17) ?_
      rintro r N ⟨rfl, g1, g2, g3⟩
      refine ⟨_, rfl, ?_⟩
      conv => whnf
      have T2 : cdT N n s sy re := by
        unfold cdT
        rw [g1.2.1 10 (by decide), g1.2.1 11 (by decide), g1.1 51 (by decide) (by decide), g1.1 52 (by decide) (by decide)]
        exact hT
      exact cx_43 (d := d + 2) hX T2 g3 (by omega) k31 ⟨rfl, Or.inr ⟨g1, g2, g3⟩⟩
    · refine am_c0 (ct_cAll1 (d := d) h17) ?_
      conv => whnf
      exact cx_43 (d := d + 2) hX hT hA (by omega) k31 ⟨rfl, Or.inl rfl⟩
set_option maxRecDepth 100000 in
theorem ct_cdsR {k : Nat} (hR : cdR M n s sy re) (s8 : s ≤ 8) (k31 : k < 2 ^ 31) : am_M (d + 1) false nm_X12_codes [aR 108, aI (nI k)] M (am_q1 (aI (cdV n s sy re k)) (th0 M)) := by
  have s256 : 2 ^ s ≤ 256 := (Nat.pow_le_pow_right (n := 2) (by decide) s8 : 2 ^ s ≤ 2 ^ 8)
  obtain ⟨h1, h2, h3, h4, h5, h6⟩ := hR
  refine ⟨rfl, rfl, rfl, fun X hX => am_run hX 6 _ _ _ _ ?_⟩
  conv => whnf
  rw [show (mm_i M 108 (upd (M.1 108) 0 0)).1 108 109 = 1 from h1]
  refine ⟨fun _ => ?_, fun c => absurd (by decide) c⟩
  show X 14 _ _ (th0 M)
  have k118 : ¬ (100 ≤ k ∧ k ≤ 108) → ¬ (200 ≤ k ∧ k ≤ 208) → ¬ (300 ≤ k ∧ k ≤ 308) → ¬ (400 ≤ k ∧ k < 400 + 2 ^ s) → X 118 [some (aR 108), some (aI (nI k))] [] (th0 M) := fun e1 e2 e3 e4 => by
    have e : cdV n s sy re k = if k = 0 then nI n else if k = 1 then nI s else if k = 2 then nI (dsL (pD n s sy re) n 1) else -1 := by
      unfold cdV
      rw [if_neg e1, if_neg e2, if_neg e3, if_neg e4]
    rw [e] at hX
    refine am_run hX 2 _ _ _ _ ?_
    conv => whnf
    by_cases c0 : k = 0
    · rw [if_pos c0] at hX
      refine ⟨fun c => absurd (by rw [c0]; rfl) c, fun _ => ?_⟩
      refine am_run hX 4 _ _ _ _ ?_
      conv => whnf
      exact ⟨trivial, by rw [show (th0 M).1 108 110 = nI n from h2], rfl⟩
    rw [if_neg c0] at hX
    refine ⟨fun _ => ?_, fun c => absurd (fun z => c0 ((nI_eq (b := 0) (by omega) (by decide)).mp z)) c⟩
    refine am_run hX 3 _ _ _ _ ?_
    conv => whnf
    by_cases c1 : k = 1
    · rw [if_pos c1] at hX
      refine ⟨fun c => absurd (by rw [c1]; rfl) c, fun _ => ?_⟩
      refine am_run hX 4 _ _ _ _ ?_
      conv => whnf
      exact ⟨trivial, by rw [show (th0 M).1 108 111 = nI s from h3], rfl⟩
    rw [if_neg c1] at hX
    refine ⟨fun _ => ?_, fun c => absurd (fun z => c1 ((nI_eq (b := 1) (by omega) (by decide)).mp z)) c⟩
    refine am_run hX 3 _ _ _ _ ?_
    conv => whnf
    by_cases c2 : k = 2
    · rw [if_pos c2] at hX
      refine ⟨fun c => absurd (by rw [c2]; rfl) c, fun _ => ?_⟩
      refine am_run hX 4 _ _ _ _ ?_
      conv => whnf
      exact ⟨trivial, by rw [show (th0 M).1 108 124 = nI (dsL (pD n s sy re) n 1) from h6], rfl⟩
    rw [if_neg c2] at hX
    refine ⟨fun _ => ?_, fun c => absurd (fun z => c2 ((nI_eq (b := 2) (by omega) (by decide)).mp z)) c⟩
    refine am_run hX 2 _ _ _ _ ?_
    conv => whnf
    exact ⟨trivial, rfl, rfl⟩
  have k86 : ¬ (100 ≤ k ∧ k ≤ 108) → ¬ (200 ≤ k ∧ k ≤ 208) → ¬ (300 ≤ k ∧ k ≤ 308) → X 86 [some (aR 108), some (aI (nI k))] [] (th0 M) := fun e1 e2 e3 => by
    refine am_run hX 3 _ _ _ _ ?_
    conv => whnf
    by_cases c4 : k < 400
    · exact ⟨fun _ => k118 e1 e2 e3 (by omega), fun c => absurd (nI_lt c4 (by decide)) c⟩
    refine ⟨fun c => absurd c (nI_nlt (b := 400) (by omega) (by omega)), fun _ => ?_⟩
    refine am_run hX 8 _ _ _ _ ?_
    conv => whnf
    rw [show (th0 M).1 108 111 = nI s from h3, sh2 s (by omega), show (400 : Int32) = nI 400 from rfl, nI_add]
    by_cases c5 : k < 400 + 2 ^ s
    · refine ⟨fun c => absurd c (nI_ge c5 (by omega)), fun _ => ?_⟩
      refine am_run hX 7 _ _ _ _ ?_
      conv => whnf
      rw [show (400 : Int32) = nI 400 from rfl, nI_sub (by omega)]
      refine ⟨vp_in_nI (by show k - 400 < 256; omega) (by decide), ?_⟩
      conv => whnf
      rw [nI_clamp (n := k - 400) (by omega), show (th0 M).1 185 (k - 400) = oN (lsCd sy (4 ^ n) (k - 400)) from h5 _ (by omega)]
      refine ⟨trivial, ?_, rfl⟩
      unfold cdV
      rw [if_neg e1, if_neg e2, if_neg e3, if_pos (by omega)]
    · exact ⟨fun _ => k118 e1 e2 e3 (by omega), fun c => absurd (nI_le (by omega) k31) c⟩
  have k61 : ¬ (100 ≤ k ∧ k ≤ 108) → ¬ (200 ≤ k ∧ k ≤ 208) → X 61 [some (aR 108), some (aI (nI k))] [] (th0 M) := fun e1 e2 => by
    refine am_run hX 3 _ _ _ _ ?_
    conv => whnf
    by_cases c4 : k < 300
    · exact ⟨fun _ => k86 e1 e2 (by omega), fun c => absurd (nI_lt c4 (by decide)) c⟩
    refine ⟨fun c => absurd c (nI_nlt (b := 300) (by omega) (by omega)), fun _ => ?_⟩
    refine am_run hX 3 _ _ _ _ ?_
    conv => whnf
    by_cases c5 : k ≤ 308
    · refine ⟨fun c => absurd c (nI_nlt (a := 308) c5 (by decide)), fun _ => ?_⟩
      refine am_run hX 7 _ _ _ _ ?_
      conv => whnf
      rw [show (300 : Int32) = nI 300 from rfl, nI_sub (by omega)]
      refine ⟨vp_in_nI (by show k - 300 < 9; omega) (by decide), ?_⟩
      conv => whnf
      rw [nI_clamp (n := k - 300) (by omega), show (th0 M).1 184 (k - 300) = nI (kN (pC sy re (4 ^ n) (k - 300)) (4 ^ n)) from (h4 _ (by omega)).2.2]
      refine ⟨trivial, ?_, rfl⟩
      unfold cdV
      rw [if_neg e1, if_neg e2, if_pos (by omega)]
    · exact ⟨fun _ => k86 e1 e2 (by omega), fun c => absurd (nI_lt (a := 308) (b := k) (by omega) k31) c⟩
  have k36 : ¬ (100 ≤ k ∧ k ≤ 108) → X 36 [some (aR 108), some (aI (nI k))] [] (th0 M) := fun e1 => by
    refine am_run hX 3 _ _ _ _ ?_
    conv => whnf
    by_cases c4 : k < 200
    · exact ⟨fun _ => k61 e1 (by omega), fun c => absurd (nI_lt c4 (by decide)) c⟩
    refine ⟨fun c => absurd c (nI_nlt (b := 200) (by omega) (by omega)), fun _ => ?_⟩
    refine am_run hX 3 _ _ _ _ ?_
    conv => whnf
    by_cases c5 : k ≤ 208
    · refine ⟨fun c => absurd c (nI_nlt (a := 208) c5 (by decide)), fun _ => ?_⟩
      refine am_run hX 7 _ _ _ _ ?_
      conv => whnf
      rw [show (200 : Int32) = nI 200 from rfl, nI_sub (by omega)]
      refine ⟨vp_in_nI (by show k - 200 < 9; omega) (by decide), ?_⟩
      conv => whnf
      rw [nI_clamp (n := k - 200) (by omega), show (th0 M).1 183 (k - 200) = nI (kN (pB sy (k - 200)) (4 ^ n)) from (h4 _ (by omega)).2.1]
      refine ⟨trivial, ?_, rfl⟩
      unfold cdV
      rw [if_neg e1, if_pos (by omega)]
    · exact ⟨fun _ => k61 e1 (by omega), fun c => absurd (nI_lt (a := 208) (b := k) (by omega) k31) c⟩
  refine am_run hX 3 _ _ _ _ ?_
  conv => whnf
  by_cases c4 : k < 100
  · exact ⟨fun _ => k36 (by omega), fun c => absurd (nI_lt c4 (by decide)) c⟩
  refine ⟨fun c => absurd c (nI_nlt (b := 100) (by omega) (by omega)), fun _ => ?_⟩
  refine am_run hX 3 _ _ _ _ ?_
  conv => whnf
  by_cases c5 : k ≤ 108
  · refine ⟨fun c => absurd c (nI_nlt (a := 108) c5 (by decide)), fun _ => ?_⟩
    refine am_run hX 7 _ _ _ _ ?_
    conv => whnf
    rw [show (100 : Int32) = nI 100 from rfl, nI_sub (by omega)]
    refine ⟨vp_in_nI (by show k - 100 < 9; omega) (by decide), ?_⟩
    conv => whnf
    rw [nI_clamp (n := k - 100) (by omega), show (th0 M).1 182 (k - 100) = nI (kN (pA re (k - 100)) (4 ^ n)) from (h4 _ (by omega)).1]
    refine ⟨trivial, ?_, rfl⟩
    unfold cdV
    rw [if_pos (by omega)]
  · exact ⟨fun _ => k36 (by omega), fun c => absurd (nI_lt (a := 108) (b := k) (by omega) k31) c⟩
end CDD
