/-! DIAGRAMS: drawing a circuit, the reference -/
section DRU
variable {d n c inp S : Nat} {N K : mm_M} {op : Nat → bk_X}
/-- no more than one CONTROL, at x or z -/
def ctB (x : bk_X) : Prop := pc x.2.2.2.1 = 1 ∧ (x.1 = 0 ∨ x.1 = 2)
theorem dOK_b {x : bk_X} : dOK x ↔ pureB x = true ∧ (x.2.2.2.1 ≠ 0 → ctB x) := by
  unfold dOK pureB ctB
  rw [decide_eq_true_iff]
  constructor
  · rintro ⟨a, b, e, f⟩
    exact ⟨⟨a, b, e⟩, f⟩
  · rintro ⟨⟨a, b, e⟩, f⟩
    exact ⟨a, b, e, f⟩
theorem ctB_c {x : bk_X} (hc : x.2.2.2.1 < 256) (h : ctB x) : x.2.2.2.1 ≠ 0 := fun z => by
  have := (pc_1c hc).mpr z
  have := h.1
  omega
set_option maxRecDepth 100000 in
theorem cb_106 {x : bk_X} {s a b : Nat} {Pp : am_Q} {X : am_X} (hX : am_K d false nm_X12_canBeDrawn Pp X) (ha : a < 6000) (h12 : N.1 112 a = nI x.1) (k10 : x.1 ≤ 10) (hb : b < 2) (hb1 : b = 1 ↔ x.2.2.2.1 ≠ 0) (hk : x.2.2.2.1 ≠ 0 → ctB x) (hK : X 35 [some (aR 108), some (aI (nI c)), some (aI (nI (s + dcn x))), some (aI (nI (a + 1))), some (aI (nI b))] [] N) : X 106 [some (aR 108), some (aI (nI c)), some (aI (nI s)), some (aI (nI a)), some (aI (nI b))] [] N := by
  have hA : vp_in (nI a) 6300 := vp_in_nI (by omega) (by decide)
  have fin : ∀ t, t = dcn x → X 152 [some (aR 108), some (aI (nI c)), some (aI (nI s)), some (aI (nI a)), some (aI (nI b))] [aI (nI t), aI (nI s)] N := fun t ht => by
    refine am_run hX 4 _ _ _ _ ?_
    conv => whnf
    rw [nI_1, nI_add, ht]
    exact hK
  have zero : x.1 = 3 ∨ x.1 = 8 → X 128 [some (aR 108), some (aI (nI c)), some (aI (nI s)), some (aI (nI a)), some (aI (nI b))] [aI (nI s)] N := fun q => by
    refine am_run hX 2 _ _ _ _ ?_
    conv => whnf
    exact fin 0 (if_pos q).symm
  refine am_run hX 7 _ _ _ _ ?_
  conv => whnf
  refine ⟨hA, ?_⟩
  conv => whnf
  rw [nI_clamp (n := a) (by omega), h12]
  by_cases k3 : x.1 = 3
  · exact ⟨fun _ => zero (Or.inl k3), fun q => absurd (by rw [k3]; rfl) q⟩
  refine ⟨fun q => absurd ((nI_eq (b := 3) (by omega) (by decide)).mp q) k3, fun _ => ?_⟩
  refine am_run hX 6 _ _ _ _ ?_
  conv => whnf
  refine ⟨hA, ?_⟩
  conv => whnf
  rw [nI_clamp (n := a) (by omega), h12]
  by_cases k8 : x.1 = 8
  · exact ⟨fun q => absurd (by rw [k8]; rfl) q, fun _ => zero (Or.inr k8)⟩
  refine ⟨fun _ => ?_, fun q => absurd (fun z => k8 ((nI_eq (b := 8) (by omega) (by decide)).mp z)) q⟩
  have two : x.2.2.2.1 ≠ 0 ∨ x.1 = 1 → X 147 [some (aR 108), some (aI (nI c)), some (aI (nI s)), some (aI (nI a)), some (aI (nI b))] [aI (nI s)] N := fun q => by
    refine am_run hX 2 _ _ _ _ ?_
    conv => whnf
    refine fin 2 ?_
    unfold dcn
    rw [if_neg (by omega), if_pos q]
  refine am_run hX 2 _ _ _ _ ?_
  conv => whnf
  by_cases c0 : x.2.2.2.1 = 0
  · have b0 : b = 0 := by
      have : ¬ b = 1 := fun z => hb1.mp z c0
      omega
    subst b0
    refine ⟨fun q => absurd rfl q, fun _ => ?_⟩
    refine am_run hX 6 _ _ _ _ ?_
    conv => whnf
    refine ⟨hA, ?_⟩
    conv => whnf
    rw [nI_clamp (n := a) (by omega), h12]
    by_cases k1 : x.1 = 1
    · exact ⟨fun q => absurd (by rw [k1]; rfl) q, fun _ => two (Or.inr k1)⟩
    refine ⟨fun _ => ?_, fun q => absurd (fun z => k1 ((nI_eq (b := 1) (by omega) (by decide)).mp z)) q⟩
    refine am_run hX 1 _ _ _ _ ?_
    conv => whnf
    refine fin 1 ?_
    unfold dcn
    rw [if_neg (by omega), if_neg (by omega)]
  · have b1 := hb1.mpr c0
    subst b1
    exact ⟨fun _ => two (Or.inl c0), fun q => absurd (by decide) q⟩
set_option maxRecDepth 100000 in
theorem cb_L {Pp : am_Q} {X : am_X} (hX : am_K (d + 1) false nm_X12_canBeDrawn Pp X) (h : cir N n c inp S op) (hp : ∀ j, j < S → pureB (op j) = true) (hno : ¬ ((∀ j, j < S → dOK (op j)) ∧ 2 * inp + dsm op S ≤ 60) → Pp (.inl (some (aI 0))) N) (hP : ((∀ j, j < S → dOK (op j)) ∧ 2 * inp + dsm op S ≤ 60) → Pp (.inl (some (aI 1))) N) : ∀ m i l4, i + m = S → (∀ j, j < i → dOK (op j)) → X 35 [some (aR 108), some (aI (nI c)), some (aI (nI (2 * inp + dsm op i))), some (aI (nI (300 * c + i))), l4] [] N := by
  have h0 := h
  obtain ⟨hbk, hcc, hbc, hops, _⟩ := h
  have hS300 := hbc.2.2.1
  have hn20 := hbk.1
  have w8 := hbc.2.1
  intro m
  induction m with
  | zero =>
    intro i l4 hi ha
    have hi : i = S := by omega
    subst hi
    have ds := dsm_b (op := op) i
    refine am_run hX 10 _ _ _ _ ?_
    conv => whnf
    refine ⟨vp_in_nI (by show c < 21; omega) (by decide), ?_⟩
    conv => whnf
    rw [nI_clamp (n := c) (by omega), hbc.2.2.2.2.2.2.1, show (300 : Int32) = nI 300 from rfl, nI_mul, nI_add]
    refine ⟨fun _ => ?_, fun c => absurd (nI_le (by omega) (by omega)) c⟩
    refine am_run hX 3 _ _ _ _ ?_
    conv => whnf
    by_cases k : 2 * inp + dsm op i ≤ 60
    · refine ⟨fun q => absurd q (nI_nlt (a := 60) k (by decide)), fun _ => ?_⟩
      refine am_run hX 3 _ _ _ _ ?_
      conv => whnf
      exact ⟨rfl, hP ⟨ha, k⟩⟩
    · refine ⟨fun _ => ?_, fun q => absurd (nI_lt (a := 60) (b := 2 * inp + dsm op i) (by omega) (by omega)) q⟩
      refine am_run hX 2 _ _ _ _ ?_
      conv => whnf
      exact ⟨rfl, hno fun z => k z.2⟩
  | succ m ih =>
    intro i l4 hi ha
    obtain ⟨og, bo⟩ := hops i (by omega)
    have ow := og.1
    have h8 := w256 w8
    have c256 : (op i).2.2.2.1 < 256 := Nat.lt_of_lt_of_le ow.2.2.2.1 h8
    have p8 := (pc_f (op i).2.2.2.1 c256).1
    have k10 := ow.1
    have hA : vp_in (nI (300 * c + i)) 6300 := vp_in_nI (by omega) (by decide)
    have b12 := bo.2.1
    have b15 := bo.2.2.2.2.1
    refine am_run hX 10 _ _ _ _ ?_
    conv => whnf
    refine ⟨vp_in_nI (by show c < 21; omega) (by decide), ?_⟩
    conv => whnf
    rw [nI_clamp (n := c) (by omega), hbc.2.2.2.2.2.2.1, show (300 : Int32) = nI 300 from rfl, nI_mul, nI_add]
    refine ⟨fun c => absurd c (nI_ge (by omega) (by omega)), fun _ => ?_⟩
    refine am_run hX 4 _ _ _ _ ?_
    conv => whnf
    refine ⟨hA, ?_⟩
    conv => whnf
    rw [nI_clamp (n := 300 * c + i) (by omega), b15]
    refine am_run hX 1 _ _ _ _ ?_
    conv => whnf
    refine am_c1 (ct_count d _ (by omega) _) ?_
    conv => whnf
    have k88 : ∀ b : Nat, b < 2 → (b = 1 ↔ ctB (op i)) → X 88 [some (aR 108), some (aI (nI c)), some (aI (nI (2 * inp + dsm op i))), some (aI (nI (300 * c + i))), l4] [aI (nI b)] N := fun b b2 hb => by
      have go : ((op i).2.2.2.1 ≠ 0 → ctB (op i)) → X 106 [some (aR 108), some (aI (nI c)), some (aI (nI (2 * inp + dsm op i))), some (aI (nI (300 * c + i))), some (aI (nI b))] [] N := fun hk => by
        refine cb_106 hX (by omega) b12 k10 b2 ⟨fun z => ctB_c c256 (hb.mp z), fun z => hb.mpr (hk z)⟩ hk ?_
        rw [show 2 * inp + dsm op i + dcn (op i) = 2 * inp + dsm op (i + 1) from Nat.add_assoc _ _ _, show 300 * c + i + 1 = 300 * c + (i + 1) from rfl]
        refine ih (i + 1) _ (by omega) fun j hj => ?_
        rcases (by omega : j < i ∨ j = i) with q | q
        · exact ha j q
        · rw [q]
          exact dOK_b.mpr ⟨hp i (by omega), hk⟩
      refine am_run hX 6 _ _ _ _ ?_
      conv => whnf
      refine ⟨hA, ?_⟩
      conv => whnf
      rw [nI_clamp (n := 300 * c + i) (by omega), b15]
      by_cases c0 : (op i).2.2.2.1 = 0
      · exact ⟨fun _ => go fun z => absurd c0 z, fun q => absurd (by rw [c0]; rfl) q⟩
      refine ⟨fun q => absurd ((nI_eq (b := 0) (by omega) (by decide)).mp q) c0, fun _ => ?_⟩
      refine am_run hX 2 _ _ _ _ ?_
      conv => whnf
      rcases (by omega : b = 0 ∨ b = 1) with e | e
      · subst e
        refine ⟨fun q => absurd rfl q, fun _ => ?_⟩
        refine am_run hX 2 _ _ _ _ ?_
        conv => whnf
        refine ⟨rfl, hno fun z => ?_⟩
        have := hb.mpr ((dOK_b.mp (z.1 i (by omega))).2 c0)
        exact absurd this (by decide)
      · subst e
        exact ⟨fun _ => go fun _ => hb.mp rfl, fun q => absurd (by decide) q⟩
    have bad : ¬ ctB (op i) → X 87 [some (aR 108), some (aI (nI c)), some (aI (nI (2 * inp + dsm op i))), some (aI (nI (300 * c + i))), l4] [] N := fun q => by
      refine am_run hX 1 _ _ _ _ ?_
      conv => whnf
      exact k88 0 (by decide) ⟨fun z => absurd z (by decide), fun z => absurd z q⟩
    refine am_run hX 2 _ _ _ _ ?_
    conv => whnf
    by_cases p1 : pc (op i).2.2.2.1 = 1
    · refine ⟨fun q => absurd (by rw [p1]; rfl) q, fun _ => ?_⟩
      have good : ((op i).1 = 0 ∨ (op i).1 = 2) → X 83 [some (aR 108), some (aI (nI c)), some (aI (nI (2 * inp + dsm op i))), some (aI (nI (300 * c + i))), l4] [] N := fun q => by
        refine am_run hX 2 _ _ _ _ ?_
        conv => whnf
        exact k88 1 (by decide) ⟨fun _ => ⟨p1, q⟩, fun _ => rfl⟩
      refine am_run hX 5 _ _ _ _ ?_
      conv => whnf
      refine ⟨hA, ?_⟩
      conv => whnf
      rw [nI_clamp (n := 300 * c + i) (by omega), b12]
      by_cases k0 : (op i).1 = 0
      · exact ⟨fun _ => good (Or.inl k0), fun q => absurd (by rw [k0]; rfl) q⟩
      refine ⟨fun q => absurd ((nI_eq (b := 0) (by omega) (by decide)).mp q) k0, fun _ => ?_⟩
      refine am_run hX 6 _ _ _ _ ?_
      conv => whnf
      refine ⟨hA, ?_⟩
      conv => whnf
      rw [nI_clamp (n := 300 * c + i) (by omega), b12]
      by_cases k2 : (op i).1 = 2
      · exact ⟨fun q => absurd (by rw [k2]; rfl) q, fun _ => good (Or.inr k2)⟩
      exact ⟨fun _ => bad fun z => by have := z.2; omega, fun q => absurd (fun z => k2 ((nI_eq (b := 2) (by omega) (by decide)).mp z)) q⟩
    · exact ⟨fun _ => bad fun z => p1 z.1, fun q => absurd (fun z => p1 ((nI_eq (b := 1) (by omega) (by decide)).mp z)) q⟩
/-- it can be drawn -/
def drOK (inp S : Nat) (op : Nat → bk_X) : Prop := inp ≤ 4 ∧ (∀ j, j < S → dOK (op j)) ∧ 2 * inp + dsm op S ≤ 60
set_option maxRecDepth 100000 in
theorem ct_cbd (h : cir N n c inp S op) : am_M (d + 2) false nm_X12_canBeDrawn [aR 108, aI (nI c)] N (fun r N' => N' = N ∧ (drOK inp S op ∧ r = .inl (some (aI 1)) ∨ ¬ drOK inp S op ∧ r = .inl (some (aI 0)))) := by
  have hn20 := h.1.1
  have hcc := h.2.1
  have w8 := h.2.2.1.2.1
  refine ⟨rfl, rfl, rfl, fun X hX => am_run hX 3 _ _ _ _ ?_⟩
  conv => whnf
  refine am_c1 (ct_isPure (d := d) h) ?_
  conv => whnf
  refine am_run hX 1 _ _ _ _ ?_
  conv => whnf
  have no : ¬ drOK inp S op → X 18 [some (aR 108), some (aI (nI c)), none, none, none] [] N := fun q => by
    refine am_run hX 2 _ _ _ _ ?_
    conv => whnf
    exact ⟨rfl, rfl, Or.inr ⟨q, rfl⟩⟩
  by_cases hp : allN (fun j => pureB (op j)) S = true
  · rw [if_pos hp]
    refine ⟨fun q => absurd q (by decide), fun _ => ?_⟩
    have hp := (all_iff S).mp hp
    refine am_run hX 6 _ _ _ _ ?_
    conv => whnf
    refine ⟨vp_in_nI (by show c < 21; omega) (by decide), ?_⟩
    conv => whnf
    rw [nI_clamp (n := c) (by omega), h.2.2.1.2.2.2.2.1]
    by_cases i4 : inp ≤ 4
    · refine ⟨fun _ => ?_, fun q => absurd (nI_le (b := 4) i4 (by decide)) q⟩
      refine am_run hX 11 _ _ _ _ ?_
      conv => whnf
      refine ⟨vp_in_nI (by show c < 21; omega) (by decide), ?_⟩
      conv => whnf
      rw [nI_clamp (n := c) (by omega), h.2.2.1.2.2.2.2.1, show (2 : Int32) = nI 2 from rfl, nI_mul, show (300 : Int32) = nI 300 from rfl, nI_mul]
      exact cb_L hX h hp (fun q => ⟨rfl, Or.inr ⟨fun z => q z.2, rfl⟩⟩) (fun q => ⟨rfl, Or.inl ⟨⟨i4, q⟩, rfl⟩⟩) S 0 _ (by omega) (fun j hj => absurd hj (Nat.not_lt_zero _))
    · exact ⟨fun q => absurd q (nI_ge (a := 4) (b := inp) (by omega) (by omega)), fun _ => no fun z => i4 z.1⟩
  · rw [if_neg hp]
    refine ⟨fun _ => no fun z => hp ((all_iff S).mpr fun j hj => (dOK_b.mp (z.2.1 j hj)).1), fun q => absurd rfl q⟩
end DRU
