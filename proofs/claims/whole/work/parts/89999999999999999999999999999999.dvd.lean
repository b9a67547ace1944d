/-! derive: what the reference asks first -/
/-- OPS that can be SHORTEST -/
def plA (l : List bk_X) : Prop := ∀ j, j < l.length → plB (zg l j) = true
/-- what the reference asks -/
def rvD (n : Nat) (F : Nat → Nat × List bk_X) (how p q : Int32) : Prop := vaD n F how p q ∧ n ≠ 20 ∧ ∀ c, c < n → p = nI c → (how = 2 → (F c).1 ≤ 7) ∧ (how = 4 → mgA (F c).2) ∧ (how = 6 → (F c).1 = 2 ∧ plA (F c).2)
/-- the bank at the reference -/
def bkR (N : mm_M) (n : Nat) (F : Nat → Nat × List bk_X) : Prop := n ≤ 20 ∧ N.1 108 6 = nI n ∧ ∀ c, c < n → 1 ≤ (F c).1 ∧ (F c).1 ≤ 8 ∧ N.1 110 c = nI (F c).1 ∧ opsL N c (F c).1 (F c).2 ∧ okL (F c).2 ∧ ∀ j, j < (F c).2.length → ogd (F c).1 (zg (F c).2 j)
theorem bkX_r {N : mm_M} {n : Nat} {F : Nat → Nat × List bk_X} (h : bkX N n F) : bkR N n F := ⟨h.1, h.2.2.1, fun c hc => by
  obtain ⟨a1, a2, a3, a4, a5⟩ := h.2.2.2 c hc
  exact ⟨a1, a2, a4, a5⟩⟩
section DVD
variable {d : Nat} {M : mm_M} {n : Nat} {F : Nat → Nat × List bk_X} {how p q : Int32}
set_option maxRecDepth 100000 in
theorem ipu_l {P : am_Q} {X : am_X} {c W : Nat} {l : List bk_X} (hX : am_K d false nm_X12_isPure P X) (hc20 : c < 20) (w8 : W ≤ 8) (h : opsL M c W l) (hP : P (.inl (some (aI (if allN (fun j => pureB (zg l j)) l.length = true then 1 else 0)))) M) : ∀ (m i : Nat), i + m = l.length → allN (fun j => pureB (zg l j)) i = true → X 6 [some (aR 108), some (aI (nI c)), some (aI (nI (300 * c + i)))] [] M := by
  obtain ⟨_, h111, hS300, hops⟩ := h
  have e3 : (300 : Int32) * nI c + nI l.length = nI (300 * c + l.length) := by rw [show (300 : Int32) = nI 300 from rfl, nI_mul, nI_add]
  intro m
  induction m with
  | zero =>
    intro i hi ha
    have hi : i = l.length := by omega
    subst hi
    refine am_run hX 16 _ _ _ _ ?_
    conv => whnf
    refine ⟨vp_in_nI (by show c < 21; omega) (by decide), ?_⟩
    conv => whnf
    rw [nI_clamp (n := c) (by omega), h111, e3]
    refine ⟨fun _ => ?_, fun c => absurd (nI_le (by omega) (by omega)) c⟩
    conv => whnf
    rw [if_pos ha] at hP
    exact ⟨rfl, hP⟩
  | succ m ih =>
    intro i hi ha
    have ih := ih (i + 1) (by omega)
    obtain ⟨ow, o1', o2, o3, o4, o5, o6, o7⟩ := hops i (by omega)
    obtain ⟨k1, k2, k3, k4, k5, k6⟩ := ow
    have hno : pureB (zg l i) = false → P (.inl (some (aI 0))) M := fun q => by
      rw [if_neg (fun z => by have := (all_iff l.length).mp z i (by omega); rw [q] at this; exact absurd this (by decide))] at hP
      exact hP
    refine am_run hX 10 _ _ _ _ ?_
    conv => whnf
    refine ⟨vp_in_nI (by show c < 21; omega) (by decide), ?_⟩
    conv => whnf
    rw [nI_clamp (n := c) (by omega), h111, e3]
    refine ⟨fun c => absurd c (nI_ge (by omega) (by omega)), fun _ => ?_⟩
    refine am_run hX 6 _ _ _ _ ?_
    conv => whnf
    refine ⟨vp_in_nI (by show _ < 6300; omega) (by decide), ?_⟩
    conv => whnf
    rw [nI_clamp (n := 300 * c + i) (by omega), o2]
    by_cases h9 : (zg l i).1 < 9
    · refine ⟨fun c => absurd c (nI_ge (a := (zg l i).1) (b := 9) h9 (by decide)), fun _ => ?_⟩
      refine am_run hX 5 _ _ _ _ ?_
      conv => whnf
      refine ⟨vp_in_nI (by show _ < 6300; omega) (by decide), ?_⟩
      conv => whnf
      rw [nI_clamp (n := 300 * c + i) (by omega), o6, show (0 : Int32) = nI 0 from rfl, nI_eq (by omega) (by decide)]
      refine ⟨fun q => ?_, fun q => ?_⟩
      · refine am_run hX 3 _ _ _ _ ?_
        conv => whnf
        exact ⟨rfl, hno (decide_eq_false fun z => q z.2.1)⟩
      · have q : (zg l i).2.2.2.2.1 = 0 := Decidable.byContradiction q
        refine am_run hX 5 _ _ _ _ ?_
        conv => whnf
        refine ⟨vp_in_nI (by show _ < 6300; omega) (by decide), ?_⟩
        conv => whnf
        rw [nI_clamp (n := 300 * c + i) (by omega), o7, show (0 : Int32) = nI 0 from rfl, nI_eq (by omega) (by decide)]
        refine ⟨fun q2 => ?_, fun q2 => ?_⟩
        · refine am_run hX 2 _ _ _ _ ?_
          conv => whnf
          rw [nI_1]
          exact ih (by simp only [allN]; rw [ha, show pureB (zg l i) = true from decide_eq_true ⟨h9, q, q2⟩]; rfl)
        · refine am_run hX 3 _ _ _ _ ?_
          conv => whnf
          exact ⟨rfl, hno (decide_eq_false fun z => q2 z.2.2)⟩
    · refine ⟨fun _ => ?_, fun c => absurd (nI_le (a := 9) (by omega) (by omega)) c⟩
      refine am_run hX 3 _ _ _ _ ?_
      conv => whnf
      exact ⟨rfl, hno (decide_eq_false fun z => h9 z.1)⟩
set_option maxRecDepth 100000 in
theorem ct_isPuO {c W : Nat} {l : List bk_X} (hc20 : c < 20) (w8 : W ≤ 8) (h : opsL M c W l) : am_M (d + 1) false nm_X12_isPure [aR 108, aI (nI c)] M (am_q1 (aI (if allN (fun j => pureB (zg l j)) l.length = true then 1 else 0)) M) := by
  refine ⟨rfl, rfl, rfl, fun X hX => am_run hX 4 _ _ _ _ ?_⟩
  conv => whnf
  rw [show (300 : Int32) * nI c = nI (300 * c) from by rw [show (300 : Int32) = nI 300 from rfl, nI_mul]]
  exact ipu_l hX hc20 w8 h ⟨rfl, rfl⟩ l.length 0 (by omega) rfl
theorem bk_iscV {h : Int32} (hB : bkR M n F) : am_M (d + 1) false nm_X12_isCircuit [aR 108, aI h] (th0 M) (am_q1 (aI (if h < 0 ∨ nI n ≤ h then 0 else 1)) (th0 M)) := by
  have := bk_isc (d := d) (M := th0 M) h
  rw [show (th0 M).1 108 6 = nI n from hB.2.1] at this
  exact this
set_option maxRecDepth 100000 in
theorem ipl_l {c W : Nat} {l : List bk_X} {P : am_Q} {X : am_X} (hX : am_K (d + 2) false nm_X12_isPlain P X) (hc : c < 20) (hW : W ≤ 8) (hl : opsL M c W l) (hpu : purL l) (h1 : plA l → P (.inl (some (aI 1))) M) (h0 : ¬ plA l → P (.inl (some (aI 0))) M) : ∀ (m k : Nat), k + m = l.length → (∀ j, j < k → plB (zg l j) = true) → X 6 [some (aR 108), some (aI (nI c)), some (aI (nI (300 * c + k)))] [] M := by
  obtain ⟨_, h111, s300, hop⟩ := hl
  intro m
  induction m with
  | zero =>
    intro k hk hM
    obtain rfl : k = l.length := by omega
    refine am_run hX 12 _ _ _ _ ?_
    conv => whnf
    refine ⟨vp_in_nI (by show c < 21; omega) (by decide), ?_⟩
    conv => whnf
    rw [nI_clamp (n := c) (by omega), h111, show (300 : Int32) = nI 300 from rfl, nI_mul, nI_add]
    refine ⟨fun _ => ?_, fun q => absurd (nI_le (Nat.le_refl _) (by omega)) q⟩
    conv => whnf
    exact ⟨rfl, h1 hM⟩
  | succ m ih =>
    intro k hk hM
    have kl : k < l.length := by omega
    obtain ⟨ow, bo⟩ := hop k kl
    have pk := of_decide_eq_true (hpu k kl)
    have hq0 : q0B (zg l k) = true := decide_eq_true pk.2
    refine am_run hX 10 _ _ _ _ ?_
    conv => whnf
    refine ⟨vp_in_nI (by show c < 21; omega) (by decide), ?_⟩
    conv => whnf
    rw [nI_clamp (n := c) (by omega), h111, show (300 : Int32) = nI 300 from rfl, nI_mul, nI_add]
    refine ⟨fun q => absurd q (nI_ge (by omega) (by omega)), fun _ => ?_⟩
    refine am_run hX 3 _ _ _ _ ?_
    conv => whnf
    refine am_c1 (ct_isPl (d := d) hW ow bo (by omega)) ?_
    rw [hq0, Bool.true_and]
    cases hb : plB (zg l k) with
    | true =>
      refine am_run hX 1 _ _ _ _ ?_
      conv => whnf
      refine ⟨fun _ => ?_, fun q => absurd (by decide) q⟩
      refine am_run hX 2 _ _ _ _ ?_
      conv => whnf
      rw [nI_1]
      refine ih (k + 1) (by omega) (fun j hj => ?_)
      by_cases q : j = k
      · subst q
        exact hb
      · exact hM j (by omega)
    | false =>
      refine am_run hX 3 _ _ _ _ ?_
      conv => whnf
      refine ⟨fun q => absurd rfl q, fun _ => ?_⟩
      conv => whnf
      refine ⟨rfl, h0 (fun q => ?_)⟩
      rw [q k kl] at hb
      cases hb
set_option maxRecDepth 100000 in
theorem ct_isPlA {c W : Nat} {l : List bk_X} (hc : c < 20) (hW : W ≤ 8) (hl : opsL M c W l) (hpu : purL l) : am_M (d + 3) false nm_X12_isPlain [aR 108, aI (nI c)] M (fun r N => N = M ∧ ((plA l ∧ r = .inl (some (aI 1))) ∨ (¬ plA l ∧ r = .inl (some (aI 0))))) := by
  refine ⟨rfl, rfl, rfl, fun X hX => am_run hX 4 _ _ _ _ ?_⟩
  conv => whnf
  rw [show (300 : Int32) = nI 300 from rfl, nI_mul]
  exact ipl_l (d := d) hX hc hW hl hpu (fun h => ⟨rfl, Or.inl ⟨h, rfl⟩⟩) (fun h => ⟨rfl, Or.inr ⟨h, rfl⟩⟩) l.length 0 (by omega) (fun j hj => absurd hj (Nat.not_lt_zero _))
set_option maxRecDepth 100000 in
theorem dv_chr {P : am_Q} {X : am_X} (hX : am_K (d + 4) false nm_X12_derive P X) (hB : bkR M n F) (hno : ¬ rvD n F how p q → P (.inl (some (aI (-1)))) (th0 M)) (hK : rvD n F how p q → ∀ v4, X 162 [some (aR 108), some (aI how), some (aI p), some (aI q), some (aI v4)] [] (th0 M)) : X 0 [some (aR 108), some (aI how), some (aI p), some (aI q), none] [] M := by
  have n20 := hB.1
  have hB' : bkR (th0 M) n F := hB
  have t6 : (th0 M).1 108 6 = nI n := hB.2.1
  -- behind 'two'
  have h20 : ∀ v : Int32, v = (if how = 1 ∨ how = 3 then 1 else 0) → X 20 [some (aR 108), some (aI how), some (aI p), some (aI q), none] [aI v] (th0 M) := by
    intro v hv
    have h77 : ¬ rvD n F how p q → X 77 [some (aR 108), some (aI how), some (aI p), some (aI q), some (aI v)] [] (th0 M) := by
      intro h
      refine am_run hX 2 _ _ _ _ ?_
      conv => whnf
      exact ⟨trivial, hno h⟩
    refine am_run hX 3 _ _ _ _ ?_
    conv => whnf
    refine ⟨fun c => h77 (fun h => h.1.1 c), fun g0 => ?_⟩
    refine am_run hX 3 _ _ _ _ ?_
    conv => whnf
    refine ⟨fun c => h77 (fun h => h.1.2.1 c), fun g6 => ?_⟩
    refine am_run hX 3 _ _ _ _ ?_
    conv => whnf
    refine am_c1 (bk_iscV (d := d + 3) hB) ?_
    rcases bk_no (p := p) n20 with hp | ⟨c, hc, rfl⟩
    · rw [if_pos hp]
      refine am_run hX 1 _ _ _ _ ?_
      conv => whnf
      refine ⟨fun _ => h77 (fun h => ?_), fun z => absurd rfl z⟩
      obtain ⟨_, _, c, hc, e, _⟩ := h.1
      subst e
      exact absurd hp (bk_yes n20 hc)
    rw [if_neg (bk_yes n20 hc)]
    have hcu : ∀ c2, c2 < n → nI c = nI c2 → c2 = c := fun c2 h2 e => ((nI_eq (by omega) (by omega)).mp e).symm
    obtain ⟨w1, w8, f110, hl, ok, hg⟩ := hB'.2.2 c hc
    refine am_run hX 1 _ _ _ _ ?_
    conv => whnf
    refine ⟨fun z => absurd z (by decide), fun _ => ?_⟩
    -- the last questions
    have h68 : ((how = 1 ∨ how = 3) → ∃ c', c' < n ∧ q = nI c' ∧ (F c).1 = (F c').1) → X 68 [some (aR 108), some (aI how), some (aI (nI c)), some (aI q), some (aI v)] [] (th0 M) := by
      intro htw
      refine am_run hX 4 _ _ _ _ ?_
      conv => whnf
      rw [t6, show (20 : Int32) = nI 20 from rfl, nI_eq (by omega) (by decide)]
      refine ⟨fun hn20 => ?_, fun z => h77 (fun h => h.2.1 (Decidable.byContradiction z))⟩
      have h121 : ¬ rvD n F how (nI c) q → X 121 [some (aR 108), some (aI how), some (aI (nI c)), some (aI q), some (aI v)] [] (th0 M) := by
        intro h
        refine am_run hX 2 _ _ _ _ ?_
        conv => whnf
        exact ⟨trivial, hno h⟩
      have h160 : ¬ rvD n F how (nI c) q → X 160 [some (aR 108), some (aI how), some (aI (nI c)), some (aI q), some (aI v)] [] (th0 M) := by
        intro h
        refine am_run hX 2 _ _ _ _ ?_
        conv => whnf
        exact ⟨trivial, hno h⟩
      have hrv : vaD n F how (nI c) q → ((how = 2 → (F c).1 ≤ 7) ∧ (how = 4 → mgA (F c).2) ∧ (how = 6 → (F c).1 = 2 ∧ plA (F c).2)) → rvD n F how (nI c) q := fun hv h => ⟨hv, hn20, fun c2 hc2 e2 => by
        have := hcu c2 hc2 e2
        subst this
        exact h⟩
      have h136 : vaD n F how (nI c) q → (how = 2 → (F c).1 ≤ 7) → (how = 4 → mgA (F c).2) → X 136 [some (aR 108), some (aI how), some (aI (nI c)), some (aI q), some (aI v)] [] (th0 M) := by
        intro hva h2 h4
        refine am_run hX 3 _ _ _ _ ?_
        conv => whnf
        refine ⟨fun h6 => hK (hrv hva ⟨h2, h4, fun z => absurd z h6⟩) v, fun h6 => ?_⟩
        have h6 := Decidable.byContradiction h6
        have hpu : purL (F c).2 := by
          obtain ⟨_, _, c2, hc2, e2, _, h5⟩ := hva
          have := hcu c2 hc2 e2
          subst this
          exact h5 (by rw [h6]; decide)
        refine am_run hX 6 _ _ _ _ ?_
        conv => whnf
        refine ⟨vp_in_nI (by show c < 21; omega) (by decide), ?_⟩
        conv => whnf
        rw [nI_clamp (n := c) (by omega), f110, show (2 : Int32) = nI 2 from rfl, nI_eq (by omega) (by decide)]
        refine ⟨fun z => h160 (fun h => z ((h.2.2 c hc rfl).2.2 h6).1), fun hW2 => ?_⟩
        have hW2 := Decidable.byContradiction hW2
        refine am_run hX 3 _ _ _ _ ?_
        conv => whnf
        refine am_cq (ct_isPlA (d := d + 1) (by omega) w8 hl hpu) fun r1 N1 hq => ?_
        obtain ⟨rfl, ⟨h1, rfl⟩ | ⟨h1, rfl⟩⟩ := hq
        · refine ⟨_, rfl, ?_⟩
          refine am_run hX 1 _ _ _ _ ?_
          conv => whnf
          exact ⟨fun _ => hK (hrv hva ⟨h2, h4, fun _ => ⟨hW2, h1⟩⟩) v, fun z => absurd (by decide) z⟩
        · refine ⟨_, rfl, ?_⟩
          refine am_run hX 1 _ _ _ _ ?_
          conv => whnf
          exact ⟨fun z => absurd rfl z, fun _ => h160 (fun h => h1 ((h.2.2 c hc rfl).2.2 h6).2)⟩
      have h123 : vaD n F how (nI c) q → (how = 2 → (F c).1 ≤ 7) → X 123 [some (aR 108), some (aI how), some (aI (nI c)), some (aI q), some (aI v)] [] (th0 M) := by
        intro hva h2
        refine am_run hX 3 _ _ _ _ ?_
        conv => whnf
        refine ⟨fun h4 => h136 hva h2 (fun z => absurd z h4), fun h4 => ?_⟩
        have h4 := Decidable.byContradiction h4
        have hpu : purL (F c).2 := by
          obtain ⟨_, _, c2, hc2, e2, _, h5⟩ := hva
          have := hcu c2 hc2 e2
          subst this
          exact h5 (by rw [h4]; decide)
        refine am_run hX 3 _ _ _ _ ?_
        conv => whnf
        refine am_cq (ct_cbm (d := d + 2) (M := th0 M) (by omega) w8 hl.2.1 hl.2.2.1 (fun j hj => ops_r hl hj) (fun j hj => ⟨hg j hj, hpu j hj⟩)) fun r1 N1 hq => ?_
        obtain ⟨rfl, ⟨h1, rfl⟩ | ⟨h1, rfl⟩⟩ := hq
        · refine ⟨_, rfl, ?_⟩
          refine am_run hX 1 _ _ _ _ ?_
          conv => whnf
          exact ⟨fun z => absurd z (by decide), fun _ => h136 hva h2 (fun _ => h1)⟩
        · refine ⟨_, rfl, ?_⟩
          refine am_run hX 1 _ _ _ _ ?_
          conv => whnf
          exact ⟨fun _ => h160 (fun h => h1 ((h.2.2 c hc rfl).2.1 h4)), fun z => absurd rfl z⟩
      have h105 : vaD n F how (nI c) q → X 105 [some (aR 108), some (aI how), some (aI (nI c)), some (aI q), some (aI v)] [] (th0 M) := by
        intro hva
        refine am_run hX 3 _ _ _ _ ?_
        conv => whnf
        refine ⟨fun h2 => h123 hva (fun z => absurd z h2), fun h2 => ?_⟩
        have h2 := Decidable.byContradiction h2
        refine am_run hX 6 _ _ _ _ ?_
        conv => whnf
        refine ⟨vp_in_nI (by show c < 21; omega) (by decide), ?_⟩
        conv => whnf
        rw [nI_clamp (n := c) (by omega), f110, show (8 : Int32) = nI 8 from rfl, nI_eq (by omega) (by decide)]
        refine ⟨fun z => h123 hva (fun _ => by omega), fun z => h121 (fun h => ?_)⟩
        have := (h.2.2 c hc rfl).1 h2
        have := Decidable.byContradiction z
        omega
      have h92 : (how ≠ 1 → purL (F c).2) → X 92 [some (aR 108), some (aI how), some (aI (nI c)), some (aI q), some (aI v)] [] (th0 M) := by
        intro hpu
        refine am_run hX 3 _ _ _ _ ?_
        conv => whnf
        refine ⟨fun h3 => h105 ⟨g0, g6, c, hc, rfl, fun h => ?_, hpu⟩, fun h3 => ?_⟩
        · obtain ⟨c', a, b, e⟩ := htw h
          exact ⟨c', a, b, e, fun z => absurd z h3⟩
        · have h3 := Decidable.byContradiction h3
          obtain ⟨c', hc', rfl, e⟩ := htw (Or.inr h3)
          obtain ⟨_, w8'', _, hl'', _⟩ := hB'.2.2 c' hc'
          refine am_run hX 3 _ _ _ _ ?_
          conv => whnf
          refine am_c1 (ct_isPuO (d := d + 3) (by omega) w8'' hl'') ?_
          by_cases hpu' : allN (fun j => pureB (zg (F c').2 j)) (F c').2.length = true
          · rw [if_pos hpu']
            refine am_run hX 1 _ _ _ _ ?_
            conv => whnf
            refine ⟨fun z => absurd z (by decide), fun _ => h105 ⟨g0, g6, c, hc, rfl, fun _ => ⟨c', hc', rfl, e, fun _ => pur_a.mp hpu'⟩, hpu⟩⟩
          · rw [if_neg hpu']
            refine am_run hX 1 _ _ _ _ ?_
            conv => whnf
            refine ⟨fun _ => h121 (fun h => ?_), fun z => absurd rfl z⟩
            obtain ⟨_, _, c2, _, _, h2, _⟩ := h.1
            obtain ⟨c3, hc3, e3, _, h5⟩ := h2 (Or.inr h3)
            have e4 : c3 = c' := ((nI_eq (by omega) (by omega)).mp e3).symm
            subst e4
            exact hpu' (pur_a.mpr (h5 h3))
      refine am_run hX 3 _ _ _ _ ?_
      conv => whnf
      refine ⟨fun h1 => h92 (fun z => absurd h1 z), fun h1 => ?_⟩
      refine am_run hX 3 _ _ _ _ ?_
      conv => whnf
      refine am_c1 (ct_isPuO (d := d + 3) (by omega) w8 hl) ?_
      by_cases hpu : allN (fun j => pureB (zg (F c).2 j)) (F c).2.length = true
      · rw [if_pos hpu]
        refine am_run hX 1 _ _ _ _ ?_
        conv => whnf
        refine ⟨fun z => absurd z (by decide), fun _ => h92 (fun _ => pur_a.mp hpu)⟩
      · rw [if_neg hpu]
        refine am_run hX 1 _ _ _ _ ?_
        conv => whnf
        refine ⟨fun _ => h121 (fun h => ?_), fun z => absurd rfl z⟩
        obtain ⟨_, _, c2, hc2, e2, _, h5⟩ := h.1
        have := hcu c2 hc2 e2
        subst this
        exact hpu (pur_a.mpr (h5 h1))
    by_cases htw : how = 1 ∨ how = 3
    · rw [if_pos htw] at hv
      subst hv
      refine am_run hX 2 _ _ _ _ ?_
      conv => whnf
      refine ⟨fun z => absurd z (by decide), fun _ => ?_⟩
      refine am_run hX 3 _ _ _ _ ?_
      conv => whnf
      refine am_c1 (bk_iscV (d := d + 3) hB) ?_
      rcases bk_no (p := q) n20 with hq | ⟨c', hc', rfl⟩
      · rw [if_pos hq]
        refine am_run hX 1 _ _ _ _ ?_
        conv => whnf
        refine ⟨fun _ => h77 (fun h => ?_), fun z => absurd rfl z⟩
        obtain ⟨_, _, c2, _, _, h2, _⟩ := h.1
        obtain ⟨c3, hc3, e3, _⟩ := h2 htw
        subst e3
        exact absurd hq (bk_yes n20 hc3)
      rw [if_neg (bk_yes n20 hc')]
      obtain ⟨w1', w8', f110', hl', ok', hg'⟩ := hB'.2.2 c' hc'
      refine am_run hX 1 _ _ _ _ ?_
      conv => whnf
      refine ⟨fun z => absurd z (by decide), fun _ => ?_⟩
      refine am_run hX 9 _ _ _ _ ?_
      conv => whnf
      refine ⟨vp_in_nI (by show c < 21; omega) (by decide), ?_⟩
      conv => whnf
      refine ⟨vp_in_nI (by show c' < 21; omega) (by decide), ?_⟩
      conv => whnf
      rw [nI_clamp (n := c) (by omega), nI_clamp (n := c') (by omega), f110, f110', nI_eq (by omega) (by omega)]
      refine ⟨fun e => h77 (fun h => ?_), fun e => h68 (fun _ => ⟨c', hc', rfl, Decidable.byContradiction e⟩)⟩
      obtain ⟨_, _, c2, hc2, e2, h2, _⟩ := h.1
      have := hcu c2 hc2 e2
      subst this
      obtain ⟨c3, hc3, e3, e4, _⟩ := h2 htw
      have e5 : c3 = c' := ((nI_eq (by omega) (by omega)).mp e3).symm
      subst e5
      exact e e4
    · rw [if_neg htw] at hv
      subst hv
      refine am_run hX 2 _ _ _ _ ?_
      conv => whnf
      exact ⟨fun _ => h68 (fun h => absurd h htw), fun z => absurd rfl z⟩
  refine am_run hX 6 _ _ _ _ ?_
  conv => whnf
  refine ⟨fun h1 => ?_, fun h1 => ?_⟩
  · refine am_run hX 2 _ _ _ _ ?_
    conv => whnf
    exact h20 1 (by rw [if_pos (Or.inl h1)])
  · refine am_run hX 3 _ _ _ _ ?_
    conv => whnf
    refine ⟨fun h3 => ?_, fun h3 => ?_⟩
    · refine am_run hX 1 _ _ _ _ ?_
      conv => whnf
      exact h20 0 (by rw [if_neg (fun z => z.elim h1 h3)])
    · refine am_run hX 2 _ _ _ _ ?_
      conv => whnf
      exact h20 1 (by rw [if_pos (Or.inr (Decidable.byContradiction h3))])
end DVD
