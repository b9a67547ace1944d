/-! WHAT A PAULI GOES THROUGH: the class's canCarry, the reference's canGoThrough -/
def plB (x : bk_X) : Bool := decide ((x.2.2.2.1 = 0 ∧ (x.1 ≤ 4 ∨ x.1 = 6 ∨ x.1 = 8)) ∨ (x.2.2.2.1 ≠ 0 ∧ x.1 ≤ 2 ∧ pc x.2.2.2.1 = 1))
def q0B (x : bk_X) : Bool := decide (x.2.2.2.2.1 = 0 ∧ x.2.2.2.2.2 = 0)
def okB (x : bk_X) : Bool := q0B x && (decide (9 ≤ x.1) || plB x)
theorem pc_f : ∀ S, S < 256 → pc S ≤ 8 ∧ (S ≠ 0 → 0 < pc S) := by decide +kernel
theorem plB_p {x : bk_X} (h : plB x = true) : pln x := by
  unfold plB at h
  have z := of_decide_eq_true h
  exact z
theorem pl_1 {x : bk_X} (h : pln x) : plB x = true := decide_eq_true h
theorem pl_0 {x : bk_X} (h : ¬ pln x) : plB x = false := decide_eq_false h
section CNC
variable {d : Nat} {M : mm_M}
set_option maxRecDepth 100000 in
theorem ct_isCl {W : Nat} {x : bk_X} (hW : W ≤ 8) (ow : bk_w W x) : am_M (d + 2) false nm_X0_isClifford [aI (nI (bk_p x))] M (am_q1 (aI (b01 (plB x))) M) := by
  have h8 := w256 hW
  have c8 := ow.2.2.2.1
  have hk10 := ow.1
  obtain ⟨p8', pz'⟩ := pc_f x.2.2.2.1 (by omega)
  refine ⟨rfl, rfl, rfl, fun X hX => am_run hX 60 _ _ _ _ ?_⟩
  conv => whnf
  refine am_c1 (ct_kind (d := d)) ?_
  rw [bk_k hW ow]
  conv => whnf
  refine am_c1 (ct_controlsOf (d := d)) ?_
  rw [bk_cc hW ow]
  conv => whnf
  refine am_c1 (ct_bit16 d x.2.2.2.1 (by omega) M) ?_
  conv => whnf
  by_cases h0 : x.2.2.2.1 = 0
  · rw [h0]
    refine ⟨fun c => absurd rfl c, fun _ => ?_⟩
    conv => whnf
    by_cases h4 : x.1 ≤ 4
    · refine ⟨fun _ => ?_, fun c => absurd (nI_le (a := x.1) (b := 4) h4 (by decide)) c⟩
      conv => whnf
      rw [pl_1 (Or.inl ⟨h0, by omega⟩)]
      exact ⟨rfl, rfl, rfl⟩
    refine ⟨fun c => absurd c (nI_ge (a := 4) (b := x.1) (by omega) (by omega)), fun _ => ?_⟩
    conv => whnf
    by_cases h6 : x.1 = 6
    · rw [h6]
      refine ⟨fun _ => ?_, fun c => absurd rfl c⟩
      conv => whnf
      rw [pl_1 (Or.inl ⟨h0, by omega⟩)]
      exact ⟨rfl, rfl, rfl⟩
    refine ⟨fun c => absurd ((nI_eq (a := x.1) (b := 6) (by omega) (by decide)).mp c) h6, fun _ => ?_⟩
    conv => whnf
    by_cases h8' : x.1 = 8
    · rw [h8']
      refine ⟨fun c => absurd rfl c, fun _ => ?_⟩
      conv => whnf
      rw [pl_1 (Or.inl ⟨h0, by omega⟩)]
      exact ⟨rfl, rfl, rfl⟩
    · refine ⟨fun _ => ?_, fun c => absurd ((nI_eq (a := x.1) (b := 8) (by omega) (by decide)).mp (Decidable.byContradiction c)) h8'⟩
      conv => whnf
      rw [pl_0 (fun z => by rcases z with ⟨_, z⟩ | ⟨z, _⟩ <;> omega)]
      exact ⟨rfl, rfl, rfl⟩
  · have q := pz' h0
    refine ⟨fun _ => ?_, fun c => absurd (nI_ne0 q (by omega)) c⟩
    conv => whnf
    by_cases h1 : pc x.2.2.2.1 = 1
    · rw [h1]
      refine ⟨fun c => absurd rfl c, fun _ => ?_⟩
      conv => whnf
      by_cases h2 : x.1 ≤ 2
      · refine ⟨fun c => absurd c (nI_nlt (a := 2) (b := x.1) h2 (by decide)), fun _ => ?_⟩
        conv => whnf
        rw [pl_1 (Or.inr ⟨h0, h2, h1⟩)]
        exact ⟨rfl, rfl, rfl⟩
      · refine ⟨fun _ => ?_, fun c => absurd (nI_lt (a := 2) (b := x.1) (by omega) (by omega)) c⟩
        conv => whnf
        rw [pl_0 (fun z => by rcases z with ⟨z, _⟩ | ⟨_, z, _⟩ <;> omega)]
        exact ⟨rfl, rfl, rfl⟩
    · refine ⟨fun _ => ?_, fun c => absurd ((nI_eq (a := pc x.2.2.2.1) (b := 1) (by omega) (by decide)).mp (Decidable.byContradiction c)) h1⟩
      conv => whnf
      rw [pl_0 (fun z => by rcases z with ⟨z, _⟩ | ⟨_, _, z⟩ <;> omega)]
      exact ⟨rfl, rfl, rfl⟩
set_option maxRecDepth 100000 in
theorem cc_l {P : am_Q} {X : am_X} {n c W S : Nat} {op : Nat → bk_X} (hX : am_K (d + 3) false nm_X11_canCarry P X) (h : cir M n c W S op) (hP : P (.inl (some (aI (b01 (allN (fun j => okB (op j)) S))))) M) : ∀ (m i : Nat), i + m = S → allN (fun j => okB (op j)) i = true → ∀ l, X 2 [some (aR 0), some (aI (nI c)), some (aI (nI i)), l] [] M := by
  obtain ⟨hbk, hcc, hbc, hops, _⟩ := h
  have hS300 := hbc.2.2.1
  have hn20 := hbk.1
  have w8 := hbc.2.1
  intro m
  induction m with
  | zero =>
    intro i hi ha l
    have hi : i = S := by omega
    subst hi
    refine am_run hX 12 _ _ _ _ ?_
    conv => whnf
    refine ⟨vp_in_nI (by show c < 20; omega) (by decide), ?_⟩
    conv => whnf
    rw [nI_clamp (n := c) (by omega), hbc.2.2.2.2.2.1]
    refine ⟨fun _ => ?_, fun c => absurd (nI_le (by omega) (by omega)) c⟩
    conv => whnf
    rw [ha] at hP
    exact ⟨rfl, hP⟩
  | succ m ih =>
    intro i hi ha l
    have ih := ih (i + 1) (by omega)
    obtain ⟨og, bo⟩ := hops i (by omega)
    have ow := og.1
    have hk10 := ow.1
    have hno : okB (op i) = false → P (.inl (some (aI 0))) M := fun q => by
      rw [show allN (fun j => okB (op j)) S = false from by
        cases z : allN (fun j => okB (op j)) S with
        | false => rfl
        | true =>
          have := (all_iff S).mp z i (by omega)
          rw [q] at this
          exact absurd this (by decide)] at hP
      exact hP
    have hyes : okB (op i) = true → ∀ l, X 50 [some (aR 0), some (aI (nI c)), some (aI (nI i)), some l] [] M := fun q l => by
      refine am_run hX 2 _ _ _ _ ?_
      conv => whnf
      rw [nI_1]
      exact ih (by simp only [allN]; rw [ha, q]; rfl) _
    refine am_run hX 7 _ _ _ _ ?_
    conv => whnf
    refine ⟨vp_in_nI (by show c < 20; omega) (by decide), ?_⟩
    conv => whnf
    rw [nI_clamp (n := c) (by omega), hbc.2.2.2.2.2.1]
    refine ⟨fun c => absurd c (nI_ge (by omega) (by omega)), fun _ => ?_⟩
    refine am_run hX 9 _ _ _ _ ?_
    conv => whnf
    refine am_c1 (bk_at (d := d) hbk hcc hbc (by omega)) ?_
    rw [bo.1]
    conv => whnf
    refine am_c1 (ct_asks (d := d + 2)) ?_
    have hl := bk_lt w8 ow
    have hA : nI (bk_p (op i)) >>> (18 &&& 31) = 0 ↔ ((op i).2.2.2.2.1 = 0 ∧ (op i).2.2.2.2.2 = 0) := by
      rw [show (18 : Int32) = nI 18 from rfl, nI_sh (by omega) 18 (by decide), show (0 : Int32) = nI 0 from rfl, nI_eq (by have : bk_p (op i) / 2 ^ 18 ≤ bk_p (op i) := Nat.div_le_self _ _; omega) (by decide), pk_18 w8 ow]
    by_cases hq : (op i).2.2.2.2.1 = 0 ∧ (op i).2.2.2.2.2 = 0
    · rw [if_pos (hA.mpr hq)]
      conv => whnf
      refine ⟨fun c => absurd rfl c, fun _ => ?_⟩
      refine am_run hX 4 _ _ _ _ ?_
      conv => whnf
      refine am_c1 (ct_kind (d := d + 2)) ?_
      rw [bk_k w8 ow]
      conv => whnf
      have hq0 : q0B (op i) = true := decide_eq_true hq
      by_cases h9 : 9 ≤ (op i).1
      · refine ⟨fun _ => ?_, fun c => absurd (nI_le (a := 9) h9 (by omega)) c⟩
        exact hyes (by unfold okB; rw [hq0, decide_eq_true h9]; rfl) _
      · refine ⟨fun c => absurd c (nI_ge (a := (op i).1) (b := 9) (by omega) (by decide)), fun _ => ?_⟩
        refine am_run hX 3 _ _ _ _ ?_
        conv => whnf
        refine am_c1 (ct_isCl (d := d + 1) w8 ow) ?_
        cases hp : plB (op i) with
        | true =>
          conv => whnf
          refine ⟨fun _ => ?_, fun c => absurd (by decide) c⟩
          exact hyes (by unfold okB; rw [hq0, hp]; cases decide (9 ≤ (op i).1) <;> rfl) _
        | false =>
          conv => whnf
          refine ⟨fun c => absurd rfl c, fun _ => ?_⟩
          refine am_run hX 3 _ _ _ _ ?_
          conv => whnf
          exact ⟨rfl, hno (by unfold okB; rw [hq0, hp, decide_eq_false h9]; rfl)⟩
    · rw [if_neg (fun z => hq (hA.mp z))]
      conv => whnf
      refine ⟨fun _ => ?_, fun c => absurd (by decide) c⟩
      refine am_run hX 3 _ _ _ _ ?_
      conv => whnf
      exact ⟨rfl, hno (by unfold okB; rw [show q0B (op i) = false from decide_eq_false hq]; rfl)⟩
set_option maxRecDepth 100000 in
theorem ct_canC {n c W S : Nat} {op : Nat → bk_X} (h : cir M n c W S op) : am_M (d + 4) false nm_X11_canCarry [aR 0, aI (nI c)] M (am_q1 (aI (b01 (allN (fun j => okB (op j)) S))) M) := by
  refine ⟨rfl, rfl, rfl, fun X hX => am_run hX 2 _ _ _ _ ?_⟩
  conv => whnf
  exact cc_l hX h ⟨rfl, rfl⟩ S 0 (by omega) rfl _
set_option maxRecDepth 100000 in
theorem ct_isPl {W a : Nat} {x : bk_X} (hW : W ≤ 8) (ow : bk_w W x) (bo : bk_o M a x) (ha : a < 6300) : am_M (d + 2) false nm_X12_isPlainAt [aR 108, aI (nI a)] M (am_q1 (aI (b01 (q0B x && plB x))) M) := by
  have h8 := w256 hW
  obtain ⟨k1, k2, k3, k4, k5, k6⟩ := ow
  obtain ⟨o1', o2, o3, o4, o5, o6, o7⟩ := bo
  obtain ⟨p8', pz'⟩ := pc_f x.2.2.2.1 (by omega)
  have hin : vp_in (nI a) 6300 := vp_in_nI ha (by decide)
  refine ⟨rfl, rfl, rfl, fun X hX => am_run hX 80 _ _ _ _ ?_⟩
  conv => whnf
  refine ⟨hin, ?_⟩
  conv => whnf
  rw [nI_clamp (n := a) (by omega), o6]
  by_cases hq1 : x.2.2.2.2.1 = 0
  · rw [hq1]
    refine ⟨fun c => absurd rfl c, fun _ => ?_⟩
    conv => whnf
    refine ⟨hin, ?_⟩
    conv => whnf
    rw [nI_clamp (n := a) (by omega), o7]
    by_cases hq2 : x.2.2.2.2.2 = 0
    · rw [hq2]
      have hq0 : q0B x = true := decide_eq_true ⟨hq1, hq2⟩
      rw [hq0]
      refine ⟨fun _ => ?_, fun c => absurd rfl c⟩
      conv => whnf
      refine ⟨hin, ?_⟩
      conv => whnf
      rw [nI_clamp (n := a) (by omega), o5]
      by_cases h0 : x.2.2.2.1 = 0
      · rw [h0]
        refine ⟨fun _ => ?_, fun c => absurd rfl c⟩
        conv => whnf
        refine ⟨hin, ?_⟩
        conv => whnf
        rw [nI_clamp (n := a) (by omega), o2]
        by_cases h4 : x.1 ≤ 4
        · refine ⟨fun _ => ?_, fun c => absurd (nI_le (a := x.1) (b := 4) h4 (by decide)) c⟩
          conv => whnf
          rw [pl_1 (Or.inl ⟨h0, by omega⟩)]
          exact ⟨rfl, rfl, rfl⟩
        refine ⟨fun c => absurd c (nI_ge (a := 4) (b := x.1) (by omega) (by omega)), fun _ => ?_⟩
        conv => whnf
        refine ⟨hin, ?_⟩
        conv => whnf
        rw [nI_clamp (n := a) (by omega), o2]
        by_cases h6 : x.1 = 6
        · rw [h6]
          refine ⟨fun _ => ?_, fun c => absurd rfl c⟩
          conv => whnf
          rw [pl_1 (Or.inl ⟨h0, by omega⟩)]
          exact ⟨rfl, rfl, rfl⟩
        refine ⟨fun c => absurd ((nI_eq (a := x.1) (b := 6) (by omega) (by decide)).mp c) h6, fun _ => ?_⟩
        conv => whnf
        refine ⟨hin, ?_⟩
        conv => whnf
        rw [nI_clamp (n := a) (by omega), o2]
        by_cases h8' : x.1 = 8
        · rw [h8']
          refine ⟨fun c => absurd rfl c, fun _ => ?_⟩
          conv => whnf
          rw [pl_1 (Or.inl ⟨h0, by omega⟩)]
          exact ⟨rfl, rfl, rfl⟩
        · refine ⟨fun _ => ?_, fun c => absurd ((nI_eq (a := x.1) (b := 8) (by omega) (by decide)).mp (Decidable.byContradiction c)) h8'⟩
          conv => whnf
          rw [pl_0 (fun z => by rcases z with ⟨_, z⟩ | ⟨z, _⟩ <;> omega)]
          exact ⟨rfl, rfl, rfl⟩
      · refine ⟨fun c => absurd c (nI_ne0 (by omega) (by omega)), fun _ => ?_⟩
        conv => whnf
        refine ⟨hin, ?_⟩
        conv => whnf
        rw [nI_clamp (n := a) (by omega), o2]
        by_cases h2 : x.1 ≤ 2
        · refine ⟨fun c => absurd c (nI_nlt (a := 2) (b := x.1) h2 (by decide)), fun _ => ?_⟩
          conv => whnf
          refine ⟨hin, ?_⟩
          conv => whnf
          rw [nI_clamp (n := a) (by omega), o5]
          refine am_c1 (ct_count d x.2.2.2.1 (by omega) M) ?_
          conv => whnf
          by_cases h1 : pc x.2.2.2.1 = 1
          · rw [h1]
            refine ⟨fun c => absurd rfl c, fun _ => ?_⟩
            conv => whnf
            rw [pl_1 (Or.inr ⟨h0, h2, h1⟩)]
            exact ⟨rfl, rfl, rfl⟩
          · refine ⟨fun _ => ?_, fun c => absurd ((nI_eq (a := pc x.2.2.2.1) (b := 1) (by omega) (by decide)).mp (Decidable.byContradiction c)) h1⟩
            conv => whnf
            rw [pl_0 (fun z => by rcases z with ⟨z, _⟩ | ⟨_, _, z⟩ <;> omega)]
            exact ⟨rfl, rfl, rfl⟩
        · refine ⟨fun _ => ?_, fun c => absurd (nI_lt (a := 2) (b := x.1) (by omega) (by omega)) c⟩
          conv => whnf
          rw [pl_0 (fun z => by rcases z with ⟨z, _⟩ | ⟨_, z, _⟩ <;> omega)]
          exact ⟨rfl, rfl, rfl⟩
    · refine ⟨fun c => absurd c (nI_ne0 (by omega) (by omega)), fun _ => ?_⟩
      conv => whnf
      rw [show q0B x = false from decide_eq_false fun z => hq2 z.2]
      exact ⟨rfl, rfl, rfl⟩
  · refine ⟨fun _ => ?_, fun c => absurd (nI_ne0 (by omega) (by omega)) c⟩
    conv => whnf
    rw [show q0B x = false from decide_eq_false fun z => hq1 z.1]
    exact ⟨rfl, rfl, rfl⟩
set_option maxRecDepth 100000 in
theorem cg_l {P : am_Q} {X : am_X} {n c W S : Nat} {op : Nat → bk_X} (hX : am_K (d + 2) false nm_X12_canGoThrough P X) (h : cir M n c W S op) (hP : P (.inl (some (aI (b01 (allN (fun j => okB (op j)) S))))) M) : ∀ (m i : Nat), i + m = S → allN (fun j => okB (op j)) i = true → ∀ l, X 6 [some (aR 108), some (aI (nI c)), some (aI (nI (300 * c + i))), l] [] M := by
  obtain ⟨hbk, hcc, hbc, hops, _⟩ := h
  have hS300 := hbc.2.2.1
  have hn20 := hbk.1
  have w8 := hbc.2.1
  have e3 : (300 : Int32) * nI c + nI S = nI (300 * c + S) := by rw [show (300 : Int32) = nI 300 from rfl, nI_mul, nI_add]
  intro m
  induction m with
  | zero =>
    intro i hi ha l
    have hi : i = S := by omega
    subst hi
    refine am_run hX 16 _ _ _ _ ?_
    conv => whnf
    refine ⟨vp_in_nI (by show c < 21; omega) (by decide), ?_⟩
    conv => whnf
    rw [nI_clamp (n := c) (by omega), hbc.2.2.2.2.2.2.1, e3]
    refine ⟨fun _ => ?_, fun c => absurd (nI_le (by omega) (by omega)) c⟩
    conv => whnf
    rw [ha] at hP
    exact ⟨rfl, hP⟩
  | succ m ih =>
    intro i hi ha l
    have ih := ih (i + 1) (by omega)
    obtain ⟨og, bo⟩ := hops i (by omega)
    have ow := og.1
    obtain ⟨k1, k2, k3, k4, k5, k6⟩ := ow
    have hno : okB (op i) = false → P (.inl (some (aI 0))) M := fun q => by
      rw [show allN (fun j => okB (op j)) S = false from by
        cases z : allN (fun j => okB (op j)) S with
        | false => rfl
        | true =>
          have := (all_iff S).mp z i (by omega)
          rw [q] at this
          exact absurd this (by decide)] at hP
      exact hP
    have hin : vp_in (nI (300 * c + i)) 6300 := vp_in_nI (by omega) (by decide)
    have f71 : okB (op i) = true → ∀ l, X 71 [some (aR 108), some (aI (nI c)), some (aI (nI (300 * c + i))), some (aI l)] [] M := fun q l => by
      refine am_run hX 2 _ _ _ _ ?_
      conv => whnf
      rw [nI_1]
      exact ih (by simp only [allN]; rw [ha, q]; rfl) _
    have f55 : ((op i).1 < 9 ∨ q0B (op i) = false) → X 55 [some (aR 108), some (aI (nI c)), some (aI (nI (300 * c + i))), l] [] M := fun q => by
      have e : okB (op i) = (q0B (op i) && plB (op i)) := by
        unfold okB
        rcases q with q | q
        · rw [decide_eq_false (show ¬ 9 ≤ (op i).1 by omega)]
          rfl
        · rw [q]
          rfl
      refine am_run hX 8 _ _ _ _ ?_
      conv => whnf
      refine ⟨fun c => absurd rfl c, fun _ => ?_⟩
      conv => whnf
      refine am_c1 (ct_isPl (d := d) w8 og.1 bo (by omega)) ?_
      cases hq : (q0B (op i) && plB (op i)) with
      | true =>
        conv => whnf
        refine ⟨fun _ => ?_, fun c => absurd (by decide) c⟩
        exact f71 (by rw [e, hq]) _
      | false =>
        conv => whnf
        refine ⟨fun c => absurd rfl c, fun _ => ?_⟩
        refine am_run hX 3 _ _ _ _ ?_
        conv => whnf
        exact ⟨rfl, hno (by rw [e, hq])⟩
    obtain ⟨o1', o2, o3, o4, o5, o6, o7⟩ := bo
    refine am_run hX 10 _ _ _ _ ?_
    conv => whnf
    refine ⟨vp_in_nI (by show c < 21; omega) (by decide), ?_⟩
    conv => whnf
    rw [nI_clamp (n := c) (by omega), hbc.2.2.2.2.2.2.1, e3]
    refine ⟨fun c => absurd c (nI_ge (by omega) (by omega)), fun _ => ?_⟩
    refine am_run hX 6 _ _ _ _ ?_
    conv => whnf
    refine ⟨hin, ?_⟩
    conv => whnf
    rw [nI_clamp (n := 300 * c + i) (by omega), o2]
    by_cases h9 : (op i).1 < 9
    · refine ⟨fun _ => ?_, fun c => absurd (nI_lt (a := (op i).1) (b := 9) h9 (by decide)) c⟩
      exact f55 (Or.inl h9)
    · refine ⟨fun c => absurd c (nI_nlt (a := (op i).1) (b := 9) (by omega) (by omega)), fun _ => ?_⟩
      refine am_run hX 5 _ _ _ _ ?_
      conv => whnf
      refine ⟨hin, ?_⟩
      conv => whnf
      rw [nI_clamp (n := 300 * c + i) (by omega), o6]
      by_cases hq1 : (op i).2.2.2.2.1 = 0
      · rw [hq1]
        refine ⟨fun c => absurd rfl c, fun _ => ?_⟩
        refine am_run hX 5 _ _ _ _ ?_
        conv => whnf
        refine ⟨hin, ?_⟩
        conv => whnf
        rw [nI_clamp (n := 300 * c + i) (by omega), o7]
        by_cases hq2 : (op i).2.2.2.2.2 = 0
        · rw [hq2]
          refine ⟨fun c => absurd rfl c, fun _ => ?_⟩
          refine am_run hX 5 _ _ _ _ ?_
          conv => whnf
          refine ⟨fun _ => ?_, fun c => absurd (by decide) c⟩
          exact f71 (by unfold okB; rw [show q0B (op i) = true from decide_eq_true ⟨hq1, hq2⟩, decide_eq_true (show 9 ≤ (op i).1 by omega)]; rfl) _
        · refine ⟨fun _ => ?_, fun c => absurd (nI_ne0 (by omega) (by omega)) c⟩
          exact f55 (Or.inr (decide_eq_false fun z => hq2 z.2))
      · refine ⟨fun _ => ?_, fun c => absurd (nI_ne0 (by omega) (by omega)) c⟩
        exact f55 (Or.inr (decide_eq_false fun z => hq1 z.1))
set_option maxRecDepth 100000 in
theorem ct_canG {n c W S : Nat} {op : Nat → bk_X} (h : cir M n c W S op) : am_M (d + 3) false nm_X12_canGoThrough [aR 108, aI (nI c)] M (am_q1 (aI (b01 (allN (fun j => okB (op j)) S))) M) := by
  refine ⟨rfl, rfl, rfl, fun X hX => am_run hX 4 _ _ _ _ ?_⟩
  conv => whnf
  rw [show (300 : Int32) * nI c = nI (300 * c) from by rw [show (300 : Int32) = nI 300 from rfl, nI_mul]]
  exact cg_l hX h ⟨rfl, rfl⟩ S 0 (by omega) rfl _
end CNC
