/-! PAULIS: what the reference finds -/
def pDg (n x i : Nat) : Nat := x / 2 ^ (2 * (n - 1 - i)) % 4
def pfR (n x : Nat) : Nat → Nat
  | 0 => 0
  | i + 1 => (pfR n x i ||| (if pDg n x i = 1 ∨ pDg n x i = 2 then 2 ^ i else 0)) ||| (if 2 ≤ pDg n x i then 256 * 2 ^ i else 0)
theorem pfR_l {n x : Nat} : ∀ i, i ≤ 8 → pfR n x i < 65536
  | 0, _ => by show 0 < 65536; decide
  | i + 1, h => by
    have ih := pfR_l (n := n) (x := x) i (by omega)
    have p : 2 ^ i ≤ 2 ^ 7 := Nat.pow_le_pow_right (by decide) (by omega)
    have e : (2 : Nat) ^ 16 = 65536 := rfl
    show ((pfR n x i ||| _) ||| _) < 2 ^ 16
    refine Nat.or_lt_two_pow (Nat.or_lt_two_pow (by omega) ?_) ?_
    · by_cases c : pDg n x i = 1 ∨ pDg n x i = 2
      · rw [if_pos c]; omega
      · rw [if_neg c]; decide
    · by_cases c : 2 ≤ pDg n x i
      · rw [if_pos c]; omega
      · rw [if_neg c]; decide
def kyR (r : Nat) : Nat := 256 * (r % 256) + r / 256
noncomputable def syR (n x : Nat) (gx gz : Nat → Nat) : Nat → Nat
  | 0 => 0
  | j + 1 => syR n x gx gz j ||| iteC (cm (kyR (pfR n x n)) (256 * gx j + gz j)) 0 (2 ^ j)
/-- the reference's rows and what each PAULI is -/
def cdP (M : mm_M) (n s : Nat) (sy : Nat → Nat) (re : Nat → Int32) : Prop := ∃ gx gz : Nat → Nat, (∀ j, j < s → M.1 176 j = nI (gx j) ∧ M.1 177 j = nI (gz j) ∧ gx j < 256 ∧ gz j < 256) ∧ ∀ x, x < 4 ^ n → sy x = syR n x gx gz s ∧ M.1 181 x = if re x = 0 then 2 else if sy x = 0 then 1 else 0
def cdI (M : mm_M) : Prop := (M.1 46 10 = 0 ∧ M.1 108 109 = 0) ∨ ∃ n s sy re, cdI0 M n s sy re ∧ cdP M n s sy re
section PAU
variable {d n s : Nat} {M : mm_M} {sy : Nat → Nat} {re : Nat → Int32}
theorem sh256 : ∀ i, i < 8 → (256 : Int32) <<< (nI i &&& 31) = nI (256 * 2 ^ i) := by decide +kernel
set_option maxRecDepth 100000 in
theorem pOf_l {x : Nat} {Pp : am_Q} {X : am_X} (hX : am_K d false nm_X12_pauliOf Pp X) (h110 : M.1 108 110 = nI n) (n1 : 1 ≤ n) (n8 : n ≤ 8) (hx : x < 65536) (hP : Pp (.inl (some (aI (nI (pfR n x n))))) M) : ∀ m i l4, i + m = n → X 4 [some (aR 108), some (aI (nI x)), some (aI (nI (pfR n x i))), some (aI (nI i)), l4] [] M := by
  intro m
  induction m with
  | zero =>
    intro i l4 hi
    have hi : i = n := by omega
    subst hi
    refine am_run hX 4 _ _ _ _ ?_
    conv => whnf
    rw [h110]
    refine ⟨fun _ => ?_, fun c => absurd (nI_le (by omega) (by omega)) c⟩
    refine am_run hX 2 _ _ _ _ ?_
    conv => whnf
    exact ⟨trivial, hP⟩
  | succ m ih =>
    intro i l4 hi
    have dl : pDg n x i < 4 := Nat.mod_lt _ (by decide)
    refine am_run hX 4 _ _ _ _ ?_
    conv => whnf
    rw [h110]
    refine ⟨fun c => absurd c (nI_ge (by omega) (by omega)), fun _ => ?_⟩
    have k66 : ∀ a b, a = (if pDg n x i = 1 ∨ pDg n x i = 2 then 2 ^ i else 0) → b = (if 2 ≤ pDg n x i then 256 * 2 ^ i else 0) → X 66 [some (aR 108), some (aI (nI x)), some (aI (nI (pfR n x i ||| a))), some (aI (nI i)), some (aI (nI (pDg n x i)))] [aI (nI b), aI (nI (pfR n x i ||| a))] M := fun a b ha hb => by
      refine am_run hX 4 _ _ _ _ ?_
      conv => whnf
      rw [nI_or, nI_1]
      have := ih (i + 1) (some (aI (nI (pDg n x i)))) (by omega)
      have e : pfR n x (i + 1) = (pfR n x i ||| a) ||| b := by rw [ha, hb]; rfl
      rw [e] at this
      exact this
    have k48 : ∀ a, a = (if pDg n x i = 1 ∨ pDg n x i = 2 then 2 ^ i else 0) → X 48 [some (aR 108), some (aI (nI x)), some (aI (nI (pfR n x i))), some (aI (nI i)), some (aI (nI (pDg n x i)))] [aI (nI a), aI (nI (pfR n x i))] M := fun a ha => by
      refine am_run hX 6 _ _ _ _ ?_
      conv => whnf
      rw [nI_or]
      by_cases c : 2 ≤ pDg n x i
      · refine ⟨fun z => absurd z (nI_nlt (b := 2) c (by omega)), fun _ => ?_⟩
        refine am_run hX 4 _ _ _ _ ?_
        conv => whnf
        rw [sh256 i (by omega)]
        exact k66 a _ ha (by rw [if_pos c])
      · refine ⟨fun _ => ?_, fun z => absurd (nI_lt (b := 2) (by omega) (by decide)) z⟩
        refine am_run hX 1 _ _ _ _ ?_
        conv => whnf
        exact k66 a 0 ha (by rw [if_neg c])
    refine am_run hX 12 _ _ _ _ ?_
    conv => whnf
    rw [h110, show (2 : Int32) * (nI n - 1 - nI i) = nI (2 * (n - 1 - i)) from by rw [show (1 : Int32) = nI 1 from rfl, nI_sub (by omega), nI_sub (by omega), show (2 : Int32) = nI 2 from rfl, nI_mul], nI_sh (by omega) _ (by omega), nI_m3]
    show X _ _ [aI (nI (pDg n x i))] M
    refine am_run hX 5 _ _ _ _ ?_
    conv => whnf
    have k41 : (pDg n x i = 1 ∨ pDg n x i = 2) → X 41 [some (aR 108), some (aI (nI x)), some (aI (nI (pfR n x i))), some (aI (nI i)), some (aI (nI (pDg n x i)))] [aI (nI (pfR n x i))] M := fun c => by
      refine am_run hX 4 _ _ _ _ ?_
      conv => whnf
      rw [sh2 i (by omega)]
      exact k48 _ (by rw [if_pos c])
    by_cases c1 : pDg n x i = 1
    · exact ⟨fun _ => k41 (Or.inl c1), fun z => absurd (by rw [c1]; rfl) z⟩
    refine ⟨fun z => absurd ((nI_eq (b := 1) (by omega) (by decide)).mp z) c1, fun _ => ?_⟩
    refine am_run hX 3 _ _ _ _ ?_
    conv => whnf
    by_cases c2 : pDg n x i = 2
    · exact ⟨fun z => absurd (by rw [c2]; rfl) z, fun _ => k41 (Or.inr c2)⟩
    refine ⟨fun _ => ?_, fun z => absurd (fun q => c2 ((nI_eq (b := 2) (by omega) (by decide)).mp q)) z⟩
    refine am_run hX 1 _ _ _ _ ?_
    conv => whnf
    exact k48 0 (by rw [if_neg (by omega)])
set_option maxRecDepth 100000 in
theorem ct_pOf {x : Nat} (h110 : M.1 108 110 = nI n) (n1 : 1 ≤ n) (n8 : n ≤ 8) (hx : x < 65536) : am_M (d + 1) false nm_X12_pauliOf [aR 108, aI (nI x)] M (am_q1 (aI (nI (pfR n x n))) M) := by
  refine ⟨rfl, rfl, rfl, fun X hX => am_run hX 4 _ _ _ _ ?_⟩
  conv => whnf
  exact pOf_l hX h110 n1 n8 hx ⟨rfl, rfl⟩ n 0 _ (by omega)
set_option maxRecDepth 100000 in
theorem sy_l {x : Nat} {gx gz : Nat → Nat} {Pp : am_Q} {X : am_X} (hX : am_K (d + 2) false nm_X12_syndromeOf Pp X) (h111 : M.1 108 111 = nI s) (n8 : n ≤ 8) (s8 : s ≤ 8) (hg : ∀ j, j < s → M.1 176 j = nI (gx j) ∧ M.1 177 j = nI (gz j) ∧ gx j < 256 ∧ gz j < 256) (hP : Pp (.inl (some (aI (nI (syR n x gx gz s))))) M) : ∀ m j, j + m = s → X 11 [some (aR 108), some (aI (nI x)), some (aI (nI (pfR n x n))), some (aI (nI (syR n x gx gz j))), some (aI (nI j))] [] M := by
  have pl := pfR_l (n := n) (x := x) n n8
  intro m
  induction m with
  | zero =>
    intro j hj
    have hj : j = s := by omega
    subst hj
    refine am_run hX 4 _ _ _ _ ?_
    conv => whnf
    rw [h111]
    refine ⟨fun _ => ?_, fun c => absurd (nI_le (by omega) (by omega)) c⟩
    refine am_run hX 2 _ _ _ _ ?_
    conv => whnf
    exact ⟨trivial, hP⟩
  | succ m ih =>
    intro j hj
    obtain ⟨g1, g2, g3, g4⟩ := hg j (by omega)
    have hJ : vp_in (nI j) 8 := vp_in_nI (by omega) (by decide)
    refine am_run hX 4 _ _ _ _ ?_
    conv => whnf
    rw [h111]
    refine ⟨fun c => absurd c (nI_ge (by omega) (by omega)), fun _ => ?_⟩
    refine am_run hX 11 _ _ _ _ ?_
    conv => whnf
    refine ⟨hJ, ?_⟩
    conv => whnf
    refine am_run hX 4 _ _ _ _ ?_
    conv => whnf
    refine ⟨hJ, ?_⟩
    conv => whnf
    rw [nI_clamp (n := j) (by omega), g1, g2, nI_m255, show (8 : Int32) &&& 31 = nI 8 &&& 31 from rfl, nI_sh (by omega) 8 (by decide)]
    have key := ct_comm (d := d) (M := M) (a := kyR (pfR n x n)) (b := 256 * gx j + gz j) (by unfold kyR; omega) (by omega)
    rw [show kyR (pfR n x n) / 256 = pfR n x n % 256 by unfold kyR; omega, show kyR (pfR n x n) % 256 = pfR n x n / 2 ^ 8 by unfold kyR; omega, show (256 * gx j + gz j) / 256 = gx j by omega, show (256 * gx j + gz j) % 256 = gz j by omega] at key
    refine am_run hX 1 _ _ _ _ ?_
    conv => whnf
    have fin : ∀ b, b = iteC (cm (kyR (pfR n x n)) (256 * gx j + gz j)) 0 (2 ^ j) → X 58 [some (aR 108), some (aI (nI x)), some (aI (nI (pfR n x n))), some (aI (nI (syR n x gx gz j))), some (aI (nI j))] [aI (nI b), aI (nI (syR n x gx gz j))] M := fun b hb => by
      refine am_run hX 4 _ _ _ _ ?_
      conv => whnf
      rw [nI_or, nI_1]
      have := ih (j + 1) (by omega)
      have e : syR n x gx gz (j + 1) = syR n x gx gz j ||| b := by rw [hb]; rfl
      rw [e] at this
      exact this
    refine am_cq key ?_
    rintro r M' ⟨rfl, ⟨hc, rfl⟩ | ⟨hc, rfl⟩⟩
    · refine ⟨_, rfl, ?_⟩
      conv => whnf
      refine am_run hX 1 _ _ _ _ ?_
      conv => whnf
      refine ⟨fun z => absurd z (by decide), fun _ => ?_⟩
      refine am_run hX 2 _ _ _ _ ?_
      conv => whnf
      exact fin 0 (by rw [iteC_t hc])
    · refine ⟨_, rfl, ?_⟩
      conv => whnf
      refine am_run hX 1 _ _ _ _ ?_
      conv => whnf
      refine ⟨fun _ => ?_, fun z => absurd rfl z⟩
      refine am_run hX 3 _ _ _ _ ?_
      conv => whnf
      rw [sh2 j (by omega)]
      exact fin _ (by rw [iteC_f hc])
set_option maxRecDepth 100000 in
theorem ct_sOf {x : Nat} {gx gz : Nat → Nat} (h110 : M.1 108 110 = nI n) (h111 : M.1 108 111 = nI s) (n1 : 1 ≤ n) (n8 : n ≤ 8) (s8 : s ≤ 8) (hx : x < 65536) (hg : ∀ j, j < s → M.1 176 j = nI (gx j) ∧ M.1 177 j = nI (gz j) ∧ gx j < 256 ∧ gz j < 256) : am_M (d + 3) false nm_X12_syndromeOf [aR 108, aI (nI x)] M (am_q1 (aI (nI (syR n x gx gz s))) M) := by
  refine ⟨rfl, rfl, rfl, fun X hX => am_run hX 3 _ _ _ _ ?_⟩
  conv => whnf
  refine am_c1 (ct_pOf (d := d + 1) h110 n1 n8 hx) ?_
  conv => whnf
  refine am_run hX 5 _ _ _ _ ?_
  conv => whnf
  exact sy_l (d := d) hX h111 n8 s8 hg ⟨rfl, rfl⟩ s 0 (by omega)
set_option maxRecDepth 100000 in
theorem wo_l {x : Nat} {Pp : am_Q} {X : am_X} (hX : am_K d false nm_X12_weightOf Pp X) (h110 : M.1 108 110 = nI n) (n8 : n ≤ 8) (hx : x < 65536) (hP : Pp (.inl (some (aI (nI (wN n x))))) M) : ∀ m i, i + m = n → X 4 [some (aR 108), some (aI (nI x)), some (aI (nI (wN i x))), some (aI (nI i))] [] M := by
  intro m
  induction m with
  | zero =>
    intro i hi
    have hi : i = n := by omega
    subst hi
    refine am_run hX 4 _ _ _ _ ?_
    conv => whnf
    rw [h110]
    refine ⟨fun _ => ?_, fun c => absurd (nI_le (by omega) (by omega)) c⟩
    refine am_run hX 2 _ _ _ _ ?_
    conv => whnf
    exact ⟨trivial, hP⟩
  | succ m ih =>
    intro i hi
    have ih := ih (i + 1) (by omega)
    refine am_run hX 4 _ _ _ _ ?_
    conv => whnf
    rw [h110]
    refine ⟨fun c => absurd c (nI_ge (by omega) (by omega)), fun _ => ?_⟩
    have dl : x / 4 ^ i % 4 < 4 := Nat.mod_lt _ (by decide)
    have fin : ∀ b, b = (if x / 4 ^ i % 4 = 0 then 0 else 1) → X 28 [some (aR 108), some (aI (nI x)), some (aI (nI (wN i x))), some (aI (nI i))] [aI (nI b), aI (nI (wN i x))] M := fun b hb => by
      refine am_run hX 4 _ _ _ _ ?_
      conv => whnf
      rw [nI_add, nI_1, hb]
      exact ih
    refine am_run hX 9 _ _ _ _ ?_
    conv => whnf
    rw [show (2 : Int32) * nI i = nI (2 * i) from by rw [show (2 : Int32) = nI 2 from rfl, nI_mul], nI_sh (by omega) _ (by omega), nI_m3, show (2 : Nat) ^ (2 * i) = 4 ^ i from by rw [Nat.pow_mul]]
    by_cases c : x / 4 ^ i % 4 = 0
    · refine ⟨fun _ => ?_, fun z => absurd (by rw [c]; rfl) z⟩
      refine am_run hX 1 _ _ _ _ ?_
      conv => whnf
      exact fin 0 (by rw [if_pos c])
    · refine ⟨fun z => absurd ((nI_eq (b := 0) (by omega) (by decide)).mp z) c, fun _ => ?_⟩
      refine am_run hX 2 _ _ _ _ ?_
      conv => whnf
      exact fin 1 (by rw [if_neg c])
set_option maxRecDepth 100000 in
theorem ct_wRf {x : Nat} (h110 : M.1 108 110 = nI n) (n8 : n ≤ 8) (hx : x < 4 ^ n) : am_M (d + 1) false nm_X12_weightOf [aR 108, aI (nI x)] M (am_q1 (aI (nI (wN 8 x))) M) := by
  have e := wN_0 (8 - n) n x hx
  rw [show n + (8 - n) = 8 by omega] at e
  rw [e]
  refine ⟨rfl, rfl, rfl, fun X hX => am_run hX 4 _ _ _ _ ?_⟩
  conv => whnf
  exact wo_l hX h110 n8 (p4 n8 hx) ⟨rfl, rfl⟩ n 0 (by omega)
end PAU
/-! codes, pauli: the pairs -/
section CDP
variable {d n s : Nat} {M : mm_M} {sy : Nat → Nat} {re : Nat → Int32}
def paV (sy : Nat → Nat) (re : Nat → Int32) (x : Nat) (q : Int32) : Int32 := if q = 0 then nI (sy x) else if q = 1 then (if re x = 0 then 2 else if sy x = 0 then 1 else 0) else if q = 2 then nI (wN 8 x) else -1
theorem neg_l {p : Int32} {k : Nat} (h : p < 0) (hk : k < 2 ^ 31) : p < nI k := by
  have a : p.toInt < (0 : Int32).toInt := Int32.lt_iff_toInt_lt.mp h
  refine Int32.lt_iff_toInt_lt.mpr (Int.lt_of_lt_of_le a ?_)
  exact Int32.le_iff_toInt_le.mp (nI_le (a := 0) (b := k) (by omega) hk)
set_option maxRecDepth 100000 in
theorem cdsX_0 {p : Int32} (h : M.1 46 10 = 0 ∨ p < 0) : am_M (d + 1) false nm_X11_codes [aR 0, aI p] M (am_q1 (aI (-1)) M) := by
  refine ⟨rfl, rfl, rfl, fun X hX => am_run hX 4 _ _ _ _ ?_⟩
  conv => whnf
  have no : X 14 [some (aR 0), some (aI p), none, none] [] M := by
    refine am_run hX 2 _ _ _ _ ?_
    conv => whnf
    exact ⟨trivial, rfl, rfl⟩
  refine ⟨fun _ => no, fun c => ?_⟩
  have h := h.resolve_left c
  refine am_run hX 2 _ _ _ _ ?_
  conv => whnf
  refine ⟨fun z => absurd h (Int32.not_lt.mpr z), fun _ => no⟩
set_option maxRecDepth 100000 in
theorem cdsR_0 {p : Int32} (h : M.1 108 109 = 0) : am_M (d + 1) false nm_X12_codes [aR 108, aI p] M (am_q1 (aI (-1)) (th0 M)) := by
  refine ⟨rfl, rfl, rfl, fun X hX => am_run hX 6 _ _ _ _ ?_⟩
  conv => whnf
  rw [show (mm_i M 108 (upd (M.1 108) 0 0)).1 108 109 = 0 from h]
  refine ⟨fun c => absurd rfl c, fun _ => ?_⟩
  refine am_run hX 2 _ _ _ _ ?_
  conv => whnf
  exact ⟨trivial, rfl, rfl⟩
set_option maxRecDepth 100000 in
theorem cdsR_n {p : Int32} (h1 : M.1 108 109 = 1) (h : p < 0) : am_M (d + 1) false nm_X12_codes [aR 108, aI p] M (am_q1 (aI (-1)) (th0 M)) := by
  have ne : ∀ k, k < 2 ^ 31 → ¬ p = nI k := fun k hk e => by
    rw [e] at h
    exact nI_pos hk h
  refine ⟨rfl, rfl, rfl, fun X hX => am_run hX 6 _ _ _ _ ?_⟩
  conv => whnf
  rw [show (mm_i M 108 (upd (M.1 108) 0 0)).1 108 109 = 1 from h1]
  refine ⟨fun _ => ?_, fun c => absurd (by decide) c⟩
  refine am_run hX 3 _ _ _ _ ?_
  conv => whnf
  refine ⟨fun _ => ?_, fun c => absurd (neg_l (k := 100) h (by decide)) c⟩
  refine am_run hX 3 _ _ _ _ ?_
  conv => whnf
  refine ⟨fun _ => ?_, fun c => absurd (neg_l (k := 200) h (by decide)) c⟩
  refine am_run hX 3 _ _ _ _ ?_
  conv => whnf
  refine ⟨fun _ => ?_, fun c => absurd (neg_l (k := 300) h (by decide)) c⟩
  refine am_run hX 3 _ _ _ _ ?_
  conv => whnf
  refine ⟨fun _ => ?_, fun c => absurd (neg_l (k := 400) h (by decide)) c⟩
  refine am_run hX 2 _ _ _ _ ?_
  conv => whnf
  refine ⟨fun _ => ?_, fun c => absurd (ne 0 (by decide)) c⟩
  refine am_run hX 3 _ _ _ _ ?_
  conv => whnf
  refine ⟨fun _ => ?_, fun c => absurd (ne 1 (by decide)) c⟩
  refine am_run hX 3 _ _ _ _ ?_
  conv => whnf
  refine ⟨fun _ => ?_, fun c => absurd (ne 2 (by decide)) c⟩
  refine am_run hX 2 _ _ _ _ ?_
  conv => whnf
  exact ⟨trivial, rfl, rfl⟩
set_option maxRecDepth 100000 in
theorem paX_0 {p q : Int32} (h : M.1 46 10 = 0) : am_M (d + 1) false nm_X11_pauli [aR 0, aI p, aI q] M (am_q1 (aI (-1)) M) := by
  refine ⟨rfl, rfl, rfl, fun X hX => am_run hX 4 _ _ _ _ ?_⟩
  conv => whnf
  rw [h]
  refine ⟨fun _ => ?_, fun c => absurd rfl c⟩
  refine am_run hX 2 _ _ _ _ ?_
  conv => whnf
  exact ⟨trivial, rfl, rfl⟩
set_option maxRecDepth 100000 in
theorem paR_0 {p q : Int32} (h : M.1 108 109 = 0) : am_M (d + 1) false nm_X12_pauli [aR 108, aI p, aI q] M (am_q1 (aI (-1)) (th0 M)) := by
  refine ⟨rfl, rfl, rfl, fun X hX => am_run hX 6 _ _ _ _ ?_⟩
  conv => whnf
  rw [show (mm_i M 108 (upd (M.1 108) 0 0)).1 108 109 = 0 from h]
  refine ⟨fun _ => ?_, fun c => absurd rfl c⟩
  refine am_run hX 2 _ _ _ _ ?_
  conv => whnf
  exact ⟨trivial, rfl, rfl⟩
set_option maxRecDepth 100000 in
theorem paX_1 {p q : Int32} (hT : cdT M n s sy re) : am_M (d + 3) false nm_X11_pauli [aR 0, aI p, aI q] M (fun r N => N = M ∧ (((p < 0 ∨ ∃ k, p = nI k ∧ k < 2 ^ 31 ∧ 4 ^ n ≤ k) ∧ r = .inl (some (aI (-1)))) ∨ ∃ x, x < 4 ^ n ∧ p = nI x ∧ r = .inl (some (aI (paV sy re x q))))) := by
  have n1 := hT.2.2.1
  have n8 := hT.2.2.2.1
  have m16 : 4 ^ n ≤ 65536 := (Nat.pow_le_pow_right (n := 4) (by decide) n8 : 4 ^ n ≤ 4 ^ 8)
  refine ⟨rfl, rfl, rfl, fun X hX => am_run hX 4 _ _ _ _ ?_⟩
  conv => whnf
  rw [hT.1]
  refine ⟨fun c => absurd ((nI_eq (b := 0) (by omega) (by decide)).mp c) (by omega), fun _ => ?_⟩
  have no : (p < 0 ∨ ∃ k, p = nI k ∧ k < 2 ^ 31 ∧ 4 ^ n ≤ k) → X 29 [some (aR 0), some (aI p), some (aI q)] [] M := fun h => by
    refine am_run hX 2 _ _ _ _ ?_
    conv => whnf
    exact ⟨trivial, rfl, Or.inl ⟨h, rfl⟩⟩
  refine am_run hX 2 _ _ _ _ ?_
  conv => whnf
  refine ⟨fun c => no (Or.inl c), fun c => ?_⟩
  obtain ⟨x, x31, rfl⟩ := nI_of c
  refine am_run hX 9 _ _ _ _ ?_
  conv => whnf
  rw [hT.1, show (2 : Int32) = nI 2 from rfl, nI_mul, sh4 n8]
  by_cases hx : x < 4 ^ n
  · refine ⟨fun _ => ?_, fun z => absurd (nI_lt hx (by omega)) z⟩
    have x16 := p4 n8 hx
    obtain ⟨t1, t2, t3⟩ := hT.2.2.2.2.2 x hx
    have fin : ∀ v, v = paV sy re x q → am_q1 (aI v) M (.inl (some (aI v))) M → (M = M ∧ (((nI x < 0 ∨ ∃ k, nI x = nI k ∧ k < 2 ^ 31 ∧ 4 ^ n ≤ k) ∧ (.inl (some (aI v)) : am_R) = .inl (some (aI (-1)))) ∨ ∃ y, y < 4 ^ n ∧ nI x = nI y ∧ (.inl (some (aI v)) : am_R) = .inl (some (aI (paV sy re y q))))) := fun v hv _ => ⟨rfl, Or.inr ⟨x, hx, rfl, by rw [hv]⟩⟩
    refine am_run hX 2 _ _ _ _ ?_
    conv => whnf
    refine ⟨fun c0 => ?_, fun c0 => ?_⟩
    · refine am_run hX 4 _ _ _ _ ?_
      conv => whnf
      refine am_c1 (ct_lk51 (d := d + 1) x16) ?_
      rw [t1]
      conv => whnf
      refine am_run hX 1 _ _ _ _ ?_
      conv => whnf
      refine ⟨trivial, fin _ ?_ ⟨rfl, rfl⟩⟩
      unfold paV
      rw [if_pos c0]
    refine ⟨fun c1 => ?_, fun c1 => ?_⟩
    · have e : paV sy re x q = if re x = 0 then 2 else if sy x = 0 then 1 else 0 := by
        unfold paV
        rw [if_neg c0, if_pos c1]
      refine am_run hX 4 _ _ _ _ ?_
      conv => whnf
      refine am_c1 (ct_lk52 (d := d + 1) x16) ?_
      rw [t3]
      conv => whnf
      refine am_run hX 1 _ _ _ _ ?_
      conv => whnf
      by_cases r0 : re x = 0
      · refine ⟨fun z => absurd r0 z, fun _ => ?_⟩
        refine am_run hX 3 _ _ _ _ ?_
        conv => whnf
        exact ⟨trivial, fin _ (by rw [e, if_pos r0]) ⟨rfl, rfl⟩⟩
      refine ⟨fun _ => ?_, fun z => absurd r0 z⟩
      refine am_run hX 4 _ _ _ _ ?_
      conv => whnf
      refine am_c1 (ct_lk51 (d := d + 1) x16) ?_
      rw [t1]
      conv => whnf
      have := pw2 hT.2.2.2.2.1 t2
      refine am_run hX 1 _ _ _ _ ?_
      conv => whnf
      by_cases s0 : sy x = 0
      · refine ⟨fun z => absurd (by rw [s0]; rfl) z, fun _ => ?_⟩
        refine am_run hX 3 _ _ _ _ ?_
        conv => whnf
        exact ⟨trivial, fin _ (by rw [e, if_neg r0, if_pos s0]) ⟨rfl, rfl⟩⟩
      refine ⟨fun _ => ?_, fun z => absurd (fun u => s0 ((nI_eq (b := 0) (by omega) (by decide)).mp u)) z⟩
      refine am_run hX 2 _ _ _ _ ?_
      conv => whnf
      exact ⟨trivial, fin _ (by rw [e, if_neg r0, if_neg s0]) ⟨rfl, rfl⟩⟩
    refine ⟨fun c2 => ?_, fun c2 => ?_⟩
    · refine am_run hX 4 _ _ _ _ ?_
      conv => whnf
      refine am_c1 (ct_wOf (d := d) x16) ?_
      conv => whnf
      refine am_run hX 1 _ _ _ _ ?_
      conv => whnf
      refine ⟨trivial, fin _ ?_ ⟨rfl, rfl⟩⟩
      unfold paV
      rw [if_neg c0, if_neg c1, if_pos c2]
    · refine am_run hX 2 _ _ _ _ ?_
      conv => whnf
      refine ⟨trivial, fin _ ?_ ⟨rfl, rfl⟩⟩
      unfold paV
      rw [if_neg c0, if_neg c1, if_neg c2]
  · refine ⟨fun z => absurd z (nI_nlt (by omega) (by omega)), fun _ => no (Or.inr ⟨x, rfl, x31, by omega⟩)⟩
set_option maxRecDepth 100000 in
theorem paR_1 {p q : Int32} (hT : cdT M n s sy re) (hR : cdR M n s sy re) (hP : cdP M n s sy re) : am_M (d + 4) false nm_X12_pauli [aR 108, aI p, aI q] M (fun r N => N = th0 M ∧ (((p < 0 ∨ ∃ k, p = nI k ∧ k < 2 ^ 31 ∧ 4 ^ n ≤ k) ∧ r = .inl (some (aI (-1)))) ∨ ∃ x, x < 4 ^ n ∧ p = nI x ∧ r = .inl (some (aI (paV sy re x q))))) := by
  have n1 := hT.2.2.1
  have n8 := hT.2.2.2.1
  have s8 := hT.2.2.2.2.1
  have m16 : 4 ^ n ≤ 65536 := (Nat.pow_le_pow_right (n := 4) (by decide) n8 : 4 ^ n ≤ 4 ^ 8)
  obtain ⟨gx, gz, hg, hp⟩ := hP
  obtain ⟨h109, h110, h111, _⟩ := hR
  refine ⟨rfl, rfl, rfl, fun X hX => am_run hX 6 _ _ _ _ ?_⟩
  conv => whnf
  rw [show (mm_i M 108 (upd (M.1 108) 0 0)).1 108 109 = 1 from h109]
  refine ⟨fun c => absurd c (by decide), fun _ => ?_⟩
  show X 12 _ _ (th0 M)
  have no : (p < 0 ∨ ∃ k, p = nI k ∧ k < 2 ^ 31 ∧ 4 ^ n ≤ k) → X 28 [some (aR 108), some (aI p), some (aI q)] [] (th0 M) := fun h => by
    refine am_run hX 2 _ _ _ _ ?_
    conv => whnf
    exact ⟨trivial, rfl, Or.inl ⟨h, rfl⟩⟩
  refine am_run hX 2 _ _ _ _ ?_
  conv => whnf
  refine ⟨fun c => no (Or.inl c), fun c => ?_⟩
  obtain ⟨x, x31, rfl⟩ := nI_of c
  refine am_run hX 8 _ _ _ _ ?_
  conv => whnf
  rw [show (th0 M).1 108 110 = nI n from h110, show (2 : Int32) = nI 2 from rfl, nI_mul, sh4 n8]
  by_cases hx : x < 4 ^ n
  · refine ⟨fun _ => ?_, fun z => absurd (nI_lt hx (by omega)) z⟩
    have x16 := p4 n8 hx
    obtain ⟨e1, e2⟩ := hp x hx
    have fin : ∀ v, v = paV sy re x q → X 70 [some (aR 108), some (aI (nI x)), some (aI q)] [aI v] (th0 M) := fun v hv => by
      refine am_run hX 1 _ _ _ _ ?_
      conv => whnf
      exact ⟨trivial, rfl, Or.inr ⟨x, hx, rfl, by rw [hv]⟩⟩
    refine am_run hX 2 _ _ _ _ ?_
    conv => whnf
    refine ⟨fun c0 => ?_, fun c0 => ?_⟩
    · refine am_run hX 3 _ _ _ _ ?_
      conv => whnf
      refine ⟨fun c1 => ?_, fun c1 => ?_⟩
      · refine am_run hX 3 _ _ _ _ ?_
        conv => whnf
        refine ⟨fun c2 => ?_, fun c2 => ?_⟩
        · refine am_run hX 1 _ _ _ _ ?_
          conv => whnf
          refine fin _ ?_
          unfold paV
          rw [if_neg c0, if_neg c1, if_neg c2]
        · refine am_run hX 3 _ _ _ _ ?_
          conv => whnf
          refine am_c1 (ct_wRf (d := d + 2) (M := th0 M) h110 n8 hx) ?_
          conv => whnf
          refine am_run hX 1 _ _ _ _ ?_
          conv => whnf
          refine fin _ ?_
          unfold paV
          rw [if_neg c0, if_neg c1, if_pos (Decidable.byContradiction c2)]
      · refine am_run hX 4 _ _ _ _ ?_
        conv => whnf
        refine ⟨vp_in_nI (by show x < 65536; omega) (by decide), ?_⟩
        conv => whnf
        rw [nI_clamp (n := x) (by omega), show (th0 M).1 181 x = _ from e2]
        refine am_run hX 1 _ _ _ _ ?_
        conv => whnf
        refine fin _ ?_
        unfold paV
        rw [if_neg c0, if_pos (Decidable.byContradiction c1)]
    · refine am_run hX 3 _ _ _ _ ?_
      conv => whnf
      refine am_c1 (ct_sOf (d := d) (M := th0 M) h110 h111 n1 n8 s8 x16 hg) ?_
      rw [← e1]
      conv => whnf
      refine am_run hX 1 _ _ _ _ ?_
      conv => whnf
      refine fin _ ?_
      unfold paV
      rw [if_pos (Decidable.byContradiction c0)]
  · refine ⟨fun z => absurd z (nI_nlt (by omega) (by omega)), fun _ => no (Or.inr ⟨x, rfl, x31, by omega⟩)⟩
theorem cdI_th (h : cdI M) : cdI (th0 M) := h
theorem caG_I {N : mm_M} (hg : caG M N) (h17 : N.1 46 17 = 1) (hA : cdA N n sy re) (h : cdI0 M n s sy re) (hP : cdP M n s sy re) : cdI0 N n s sy re ∧ cdP N n s sy re := by
  have e108 := hg.1 108 (by decide) (by decide)
  obtain ⟨hT, _, hR⟩ := h
  refine ⟨⟨?_, Or.inr ⟨h17, hA⟩, ?_⟩, ?_⟩
  · unfold cdT
    rw [hg.2.1 10 (by decide), hg.2.1 11 (by decide), hg.1 51 (by decide) (by decide), hg.1 52 (by decide) (by decide)]
    exact hT
  · unfold cdR
    rw [e108, hg.1 182 (by decide) (by decide), hg.1 183 (by decide) (by decide), hg.1 184 (by decide) (by decide), hg.1 185 (by decide) (by decide)]
    exact hR
  · unfold cdP
    rw [hg.1 176 (by decide) (by decide), hg.1 177 (by decide) (by decide), hg.1 181 (by decide) (by decide)]
    exact hP
end CDP
section CDQ
variable {ac : Nat → ClassId} {lo : Nat} {ad as : Nat → Nat} {b L : Nat} {xs : Nat → Int32} {hp : mm_M → Nat → xm_H} {I J : mm_M → Prop}
theorem pr_codes (H : mm_L ac lo hp) (h1 : ∀ M, I M → cdI M) (hJ : ∀ M N, I M → (N = M ∨ caG M N) → cdI (th0 N) → J (th0 N)) (p : Int32) : la_I ac lo ad as b L xs hp I J nm_X11_codes nm_X12_codes [.int p] := by
  refine am_la_I (us := [aI p]) H fun M hI => ?_
  have hc := h1 M hI
  rcases hc with ⟨h10, h109⟩ | ⟨n, s, sy, re, h, hP⟩
  · refine am_wk (cdsX_0 (d := 999) (Or.inl h10)) fun r M1 e => ⟨_, e.1, ?_⟩
    rw [e.2]
    exact am_wk (cdsR_0 (d := 999) h109) fun r M2 e => ⟨e.1, by rw [e.2]; exact hJ M M hI (Or.inl rfl) (h1 M hI)⟩
  · by_cases c : p < 0
    · refine am_wk (cdsX_0 (d := 999) (Or.inr c)) fun r M1 e => ⟨_, e.1, ?_⟩
      rw [e.2]
      exact am_wk (cdsR_n (d := 999) h.2.2.1 c) fun r M2 e => ⟨e.1, by rw [e.2]; exact hJ M M hI (Or.inl rfl) (h1 M hI)⟩
    · obtain ⟨k, k31, rfl⟩ := nI_of c
      refine am_wk (ct_cdsX (d := 996) h k31) ?_
      rintro r M1 ⟨rfl, rfl | ⟨g1, g2, g3⟩⟩
      · exact ⟨_, rfl, am_wk (ct_cdsR (d := 999) h.2.2 h.1.2.2.2.2.1 k31) fun r M2 e => ⟨e.1, by rw [e.2]; exact hJ M1 M1 hI (Or.inl rfl) (cdI_th (h1 M1 hI))⟩⟩
      · obtain ⟨q1, q2⟩ := caG_I g1 g2 g3 h hP
        exact ⟨_, rfl, am_wk (ct_cdsR (d := 999) q1.2.2 h.1.2.2.2.2.1 k31) fun r M2 e => ⟨e.1, by rw [e.2]; exact hJ M M1 hI (Or.inr g1) (Or.inr ⟨n, s, sy, re, q1, q2⟩)⟩⟩
theorem pr_pauli (H : mm_L ac lo hp) (h1 : ∀ M, I M → cdI M) (hJ : ∀ M, I M → J (th0 M)) (p q : Int32) : la_I ac lo ad as b L xs hp I J nm_X11_pauli nm_X12_pauli [.int p, .int q] := by
  refine am_la_I (us := [aI p, aI q]) H fun M hI => ?_
  rcases h1 M hI with ⟨h10, h109⟩ | ⟨n, s, sy, re, h, hP⟩
  · refine am_wk (paX_0 (d := 999) h10) fun r M1 e => ⟨_, e.1, ?_⟩
    rw [e.2]
    exact am_wk (paR_0 (d := 999) h109) fun r M2 e => ⟨e.1, by rw [e.2]; exact hJ M hI⟩
  · have n8 := h.1.2.2.2.1
    have m16 : 4 ^ n ≤ 65536 := (Nat.pow_le_pow_right (n := 4) (by decide) n8 : 4 ^ n ≤ 4 ^ 8)
    have off : ∀ x, x < 4 ^ n → (nI x < 0 ∨ ∃ k, nI x = nI k ∧ k < 2 ^ 31 ∧ 4 ^ n ≤ k) → False := fun x hx z => by
      rcases z with z | ⟨k, e, k31, hk⟩
      · exact nI_pos (by omega) z
      · have := (nI_eq (by omega) k31).mp e
        omega
    refine am_wk (paX_1 (d := 997) h.1) ?_
    rintro r M1 ⟨rfl, ⟨no, rfl⟩ | ⟨x, hx, rfl, rfl⟩⟩
    · refine ⟨_, rfl, am_wk (paR_1 (d := 996) h.1 h.2.2 hP) ?_⟩
      rintro r M2 ⟨rfl, ⟨_, rfl⟩ | ⟨x, hx, rfl, rfl⟩⟩
      · exact ⟨rfl, hJ _ hI⟩
      · exact absurd no (off x hx)
    · refine ⟨_, rfl, am_wk (paR_1 (d := 996) h.1 h.2.2 hP) ?_⟩
      rintro r M2 ⟨rfl, ⟨no, rfl⟩ | ⟨y, hy, e, rfl⟩⟩
      · exact absurd no (off x hx)
      · have := (nI_eq (by omega) (by omega)).mp e
        subst this
        exact ⟨rfl, hJ _ hI⟩
end CDQ
