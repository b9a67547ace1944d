/-! DIAGRAMS: drawing a circuit -/
/-- how many SPIDERS the OPS bring -/
def dsm (op : Nat → bk_X) : Nat → Nat
  | 0 => 0
  | i + 1 => dsm op i + dcn (op i)
theorem dcn_2 {x : bk_X} : dcn x ≤ 2 := by
  unfold dcn
  by_cases a : x.1 = 3 ∨ x.1 = 8
  · rw [if_pos a]; decide
  · rw [if_neg a]
    by_cases b : x.2.2.2.1 ≠ 0 ∨ x.1 = 1
    · rw [if_pos b]; decide
    · rw [if_neg b]; decide
theorem dsm_b {op : Nat → bk_X} : ∀ i, dsm op i ≤ 2 * i
  | 0 => Nat.le_refl _
  | i + 1 => by
    have := dsm_b (op := op) i
    have := dcn_2 (x := op i)
    show dsm op i + dcn (op i) ≤ 2 * (i + 1)
    omega
theorem dsm_m {op : Nat → bk_X} (i : Nat) : ∀ k, dsm op i ≤ dsm op (i + k)
  | 0 => Nat.le_refl _
  | k + 1 => by
    have := dsm_m (op := op) i k
    show dsm op i ≤ dsm op (i + k) + dcn (op (i + k))
    omega
def drN (σ : DR) (op : Nat → bk_X) : Nat → DR
  | 0 => σ
  | i + 1 => drO (op i) (drN σ op i)
/-- the bare WIRES -/
def dr0 (inp : Nat) : DR := (2 * inp, (fun x => decide (x < 2 * inp), fun _ => 0, fun _ _ => 0), fun w => w, 0)
theorem dr0_I {inp : Nat} (h1 : 1 ≤ inp) (h4 : inp ≤ 4) : drI inp (dr0 inp) := by
  refine ⟨⟨by show 2 * inp ≤ 60; omega, Nat.le_refl _, h4, h1, fun i hi => of_decide_eq_true hi, fun i hi => decide_eq_true hi, fun _ _ => rfl, fun _ => rfl, fun _ _ => Nat.zero_le _, fun _ _ h => absurd rfl h, fun _ _ => by show 0 < 8; decide⟩, fun i hi => ⟨rfl, fun x y hx _ => absurd rfl hx⟩, fun w hw => ⟨decide_eq_true (by show w < 2 * inp; omega), Or.inl hw, fun _ _ => rfl⟩, fun w v _ _ e => e, fun _ _ _ _ => rfl, by show 0 < 16; decide⟩
theorem drN_I {inp S : Nat} {op : Nat → bk_X} (h1 : 1 ≤ inp) (h4 : inp ≤ 4) (ho : ∀ j, j < S → ogd inp (op j)) (ok : ∀ j, j < S → dOK (op j)) (hm : 2 * inp + dsm op S ≤ 60) : ∀ i, i ≤ S → drI inp (drN (dr0 inp) op i) ∧ (drN (dr0 inp) op i).1 = 2 * inp + dsm op i
  | 0, _ => ⟨dr0_I h1 h4, rfl⟩
  | i + 1, hi => by
    obtain ⟨a, b⟩ := drN_I h1 h4 ho ok hm i (by omega)
    have := dsm_m (op := op) (i + 1) (S - (i + 1))
    rw [show i + 1 + (S - (i + 1)) = S by omega] at this
    have e : dsm op (i + 1) = dsm op i + dcn (op i) := rfl
    obtain ⟨c, e2⟩ := dr_O a (ho i (by omega)) (ok i (by omega)) (by omega)
    exact ⟨c, by show (drO (op i) (drN (dr0 inp) op i)).1 = _; rw [e2]; omega⟩
/-- the OUTPUTS are joined -/
def fnS (inp : Nat) (σ : DR) : Nat → DR
  | 0 => σ
  | i + 1 => ((fnS inp σ i).1, ((fnS inp σ i).2.1.1, (fnS inp σ i).2.1.2.1, stE (fnS inp σ i).2.1.2.2 (inp + i) (σ.2.2.1 i) (kb σ.2.2.2 i + 1)), (fnS inp σ i).2.2.1, (fnS inp σ i).2.2.2)
theorem fn_e {inp : Nat} {σ : DR} : ∀ i, (fnS inp σ i).1 = σ.1 ∧ (fnS inp σ i).2.2.1 = σ.2.2.1 ∧ (fnS inp σ i).2.2.2 = σ.2.2.2 ∧ (fnS inp σ i).2.1.1 = σ.2.1.1 ∧ (fnS inp σ i).2.1.2.1 = σ.2.1.2.1
  | 0 => ⟨rfl, rfl, rfl, rfl, rfl⟩
  | i + 1 => fn_e i
def fnI (inp : Nat) (σ : DR) (i : Nat) (V : WB) : Prop := gdW σ.1 inp V ∧ oD inp V ∧ V.1 = σ.2.1.1 ∧ (∀ w, w < inp → i ≤ w → σ.2.2.1 w < inp → ∀ x, V.2.2 (σ.2.2.1 w) x = 0) ∧ ∀ j, i ≤ j → j < inp → ∀ x, V.2.2 (inp + j) x = 0
theorem fn_I {inp : Nat} {σ : DR} (h : drI inp σ) : ∀ i, i ≤ inp → fnI inp σ i (fnS inp σ i).2.1
  | 0, _ => ⟨h.1, h.2.1, rfl, fun w hw _ hl => (h.2.2.1 w hw).2.2 hl, fun j _ hj x => h.2.2.2.2.1 (inp + j) (by omega) (by omega) x⟩
  | i + 1, hi => by
    obtain ⟨g, ho, t, h3, h5⟩ := fn_I h i (by omega)
    obtain ⟨t1, t2, t3⟩ := h.2.2.1 i (by omega)
    have inj := h.2.2.2.1
    have i1 := g.2.2.2.1
    have ne : inp + i ≠ σ.2.2.1 i := by omega
    have ta : (fnS inp σ i).2.1.1 (inp + i) = true := g.2.2.2.2.2.1 _ (by omega)
    have tb : (fnS inp σ i).2.1.1 (σ.2.2.1 i) = true := by rw [t]; exact t1
    have v12 : kb σ.2.2.2 i + 1 = 1 ∨ kb σ.2.2.2 i + 1 = 2 := by
      have := kb_2 (k := σ.2.2.2) (w := i)
      omega
    have z0 := h5 i (Nat.le_refl _) (by omega)
    refine ⟨gd_st g ta tb ne v12 (z0 _), fun x hx => ⟨(ho x hx).1, fun y z hy hz => ?_⟩, t, fun w hw hiw hl x => ?_, fun j hj hj2 x => ?_⟩
    · have hy : stE (fnS inp σ i).2.1.2.2 (inp + i) (σ.2.2.1 i) (kb σ.2.2.2 i + 1) x y ≠ 0 := hy
      have hz : stE (fnS inp σ i).2.1.2.2 (inp + i) (σ.2.2.1 i) (kb σ.2.2.2 i + 1) x z ≠ 0 := hz
      unfold stE at hy hz
      by_cases c1 : x = inp + i
      · have k : ∀ y, (if (x = inp + i ∧ y = σ.2.2.1 i) ∨ (x = σ.2.2.1 i ∧ y = inp + i) then kb σ.2.2.2 i + 1 else (fnS inp σ i).2.1.2.2 x y) ≠ 0 → y = σ.2.2.1 i := fun y hy => by
          apply Decidable.byContradiction
          intro hc
          rw [if_neg (by omega), c1, z0 y] at hy
          exact hy rfl
        rw [k y hy, k z hz]
      · by_cases c2 : x = σ.2.2.1 i
        · have li : σ.2.2.1 i < inp := by omega
          have z1 := h3 i (by omega) (Nat.le_refl _) li
          have k : ∀ y, (if (x = inp + i ∧ y = σ.2.2.1 i) ∨ (x = σ.2.2.1 i ∧ y = inp + i) then kb σ.2.2.2 i + 1 else (fnS inp σ i).2.1.2.2 x y) ≠ 0 → y = inp + i := fun y hy => by
            apply Decidable.byContradiction
            intro hc
            rw [if_neg (by omega), c2, z1 y] at hy
            exact hy rfl
          rw [k y hy, k z hz]
        · rw [if_neg (by omega)] at hy hz
          exact (ho x hx).2 y z hy hz
    · show stE (fnS inp σ i).2.1.2.2 (inp + i) (σ.2.2.1 i) (kb σ.2.2.2 i + 1) (σ.2.2.1 w) x = 0
      have nw : σ.2.2.1 w ≠ σ.2.2.1 i := fun e => by
        have := inj w i hw (by omega) e
        omega
      unfold stE
      rw [if_neg (by omega)]
      exact h3 w hw (by omega) hl x
    · show stE (fnS inp σ i).2.1.2.2 (inp + i) (σ.2.2.1 i) (kb σ.2.2.2 i + 1) (inp + j) x = 0
      unfold stE
      rw [if_neg (by omega)]
      exact h5 j (by omega) hj2 x
/-- the circuits stay -/
theorem cir_e {N N' : mm_M} {n c W S : Nat} {op : Nat → bk_X} (h : cir N n c W S op) (e9 : N'.1 9 = N.1 9) (e10 : N'.1 10 = N.1 10) (e11 : N'.1 11 = N.1 11) (e12 : N'.1 12 = N.1 12) (e6 : N'.1 108 6 = N.1 108 6) (e : ∀ k, 110 ≤ k → k ≤ 117 → N'.1 k = N.1 k) : cir N' n c W S op := by
  have ho : ∀ a x, bk_o N a x → bk_o N' a x := fun a x q => by
    unfold bk_o
    rw [e10, e 112 (by decide) (by decide), e 113 (by decide) (by decide), e 114 (by decide) (by decide), e 115 (by decide) (by decide), e 116 (by decide) (by decide), e 117 (by decide) (by decide)]
    exact q
  have hc : ∀ i W S, bk_c N i W S → bk_c N' i W S := fun i W S q => by
    unfold bk_c
    rw [e12, e11, e 110 (by decide) (by decide), e 111 (by decide) (by decide)]
    obtain ⟨a1, a2, a3, a4, a5, a6, a7, a8⟩ := q
    exact ⟨a1, a2, a3, a4, a5, a6, a7, fun j hj => by
      obtain ⟨x, x1, x2⟩ := a8 j hj
      exact ⟨x, x1, ho _ _ x2⟩⟩
  obtain ⟨⟨b1, b2, b3, b4⟩, h2, h3, h4, h5⟩ := h
  refine ⟨⟨b1, by rw [e9]; exact b2, by rw [e6]; exact b3, fun i hi => ?_⟩, h2, hc _ _ _ h3, fun j hj => ⟨(h4 j hj).1, ho _ _ (h4 j hj).2⟩, h5⟩
  obtain ⟨W, S, q⟩ := b4 i hi
  exact ⟨W, S, hc _ _ _ q⟩
theorem cir_dc {N N' : mm_M} {n c W S : Nat} {op : Nat → bk_X} (hf : dcF N N') (h : cir N n c W S op) : cir N' n c W S op := by
  have e : ∀ k, k ≠ 39 → k ≠ 42 → k ≠ 43 → N'.1 k = N.1 k := hf.1
  exact cir_e h (e 9 (by decide) (by decide) (by decide)) (e 10 (by decide) (by decide) (by decide)) (e 11 (by decide) (by decide) (by decide)) (e 12 (by decide) (by decide) (by decide)) (by rw [e 108 (by decide) (by decide) (by decide)]) fun k a b => e k (by omega) (by omega) (by omega)
section DRQ
variable {d n c inp S : Nat} {N : mm_M} {op : Nat → bk_X}
theorem pc_1c {k : Nat} (hk : k < 256) : (pc k = 0 ↔ k = 0) := by
  have := (pc_f k hk)
  constructor
  · intro h
    apply Decidable.byContradiction
    intro hc
    have := this.2 hc
    omega
  · intro h
    rw [h]
    rfl
set_option maxRecDepth 100000 in
theorem cs_109 {x : bk_X} {s i : Nat} {v5 v8 : Int32} {l9 : Option am_V} {Pp : am_Q} {X : am_X} (hX : am_K d false nm_X10_countSpiders Pp X) (ok : dOK x) (hc : x.2.2.2.1 < 256) (hK : ∀ l9, X 12 [some (aR 39), some (aR 9), some (aI (nI c)), some (aI (nI (s + dcn x))), some (aI (nI (i + 1))), some (aI v5), some (aI (nI x.1)), some (aI (nI (pc x.2.2.2.1))), some (aI v8), l9] [] N) : X 109 [some (aR 39), some (aR 9), some (aI (nI c)), some (aI (nI s)), some (aI (nI i)), some (aI v5), some (aI (nI x.1)), some (aI (nI (pc x.2.2.2.1))), some (aI v8), l9] [] N := by
  have k9 := ok.1
  have p8 := (pc_f x.2.2.2.1 hc).1
  have pz := pc_1c hc
  have ok4 := ok.2.2.2
  have k128 : ∀ b : Nat, (b = 1 ↔ (x.2.2.2.1 ≠ 0 ∨ x.1 = 1)) → b < 2 → X 126 [some (aR 39), some (aR 9), some (aI (nI c)), some (aI (nI s)), some (aI (nI i)), some (aI v5), some (aI (nI x.1)), some (aI (nI (pc x.2.2.2.1))), some (aI v8), l9] [aI (nI b)] N := fun b hb b2 => by
    have fin : ∀ t, t = dcn x → X 156 [some (aR 39), some (aR 9), some (aI (nI c)), some (aI (nI s)), some (aI (nI i)), some (aI v5), some (aI (nI x.1)), some (aI (nI (pc x.2.2.2.1))), some (aI v8), some (aI (nI b))] [aI (nI t), aI (nI s)] N := fun t ht => by
      refine am_run hX 4 _ _ _ _ ?_
      conv => whnf
      rw [nI_1, nI_add, ht]
      exact hK _
    refine am_run hX 4 _ _ _ _ ?_
    conv => whnf
    by_cases h1 : x.2.2.2.1 ≠ 0 ∨ x.1 = 1
    · have e := hb.mpr h1
      subst e
      refine ⟨fun q => absurd q (by decide), fun _ => ?_⟩
      refine am_run hX 2 _ _ _ _ ?_
      conv => whnf
      refine fin 2 ?_
      unfold dcn
      have : ¬ (x.1 = 3 ∨ x.1 = 8) := by
        rcases h1 with h1 | h1
        · have := (ok4 h1).2
          omega
        · omega
      rw [if_neg this, if_pos h1]
    · have e : b = 0 := by
        have : ¬ b = 1 := fun z => h1 (hb.mp z)
        omega
      subst e
      refine ⟨fun _ => ?_, fun q => absurd rfl q⟩
      have zero : x.1 = 3 ∨ x.1 = 8 → X 151 [some (aR 39), some (aR 9), some (aI (nI c)), some (aI (nI s)), some (aI (nI i)), some (aI v5), some (aI (nI x.1)), some (aI (nI (pc x.2.2.2.1))), some (aI v8), some (aI (nI 0))] [aI (nI s)] N := fun q => by
        refine am_run hX 2 _ _ _ _ ?_
        conv => whnf
        exact fin 0 (if_pos q).symm
      refine am_run hX 3 _ _ _ _ ?_
      conv => whnf
      by_cases k3 : x.1 = 3
      · exact ⟨fun _ => zero (Or.inl k3), fun q => absurd (by rw [k3]; rfl) q⟩
      refine ⟨fun q => absurd ((nI_eq (b := 3) (by omega) (by decide)).mp q) k3, fun _ => ?_⟩
      refine am_run hX 3 _ _ _ _ ?_
      conv => whnf
      by_cases k8 : x.1 = 8
      · exact ⟨fun q => absurd (by rw [k8]; rfl) q, fun _ => zero (Or.inr k8)⟩
      refine ⟨fun _ => ?_, fun q => absurd (fun z => k8 ((nI_eq (b := 8) (by omega) (by decide)).mp z)) q⟩
      refine am_run hX 1 _ _ _ _ ?_
      conv => whnf
      refine fin 1 ?_
      unfold dcn
      rw [if_neg (by omega), if_neg h1]
  have k121 : (x.2.2.2.1 ≠ 0 ∨ x.1 = 1) → X 121 [some (aR 39), some (aR 9), some (aI (nI c)), some (aI (nI s)), some (aI (nI i)), some (aI v5), some (aI (nI x.1)), some (aI (nI (pc x.2.2.2.1))), some (aI v8), l9] [] N := fun q => by
    refine am_run hX 2 _ _ _ _ ?_
    conv => whnf
    exact k128 1 ⟨fun _ => q, fun _ => rfl⟩ (by decide)
  refine am_run hX 3 _ _ _ _ ?_
  conv => whnf
  by_cases p1 : pc x.2.2.2.1 = 1
  · refine ⟨fun _ => k121 (Or.inl fun z => ?_), fun q => absurd (by rw [p1]; rfl) q⟩
    rw [pz.mpr z] at p1
    exact absurd p1 (by decide)
  refine ⟨fun q => absurd ((nI_eq (b := 1) (by omega) (by decide)).mp q) p1, fun _ => ?_⟩
  refine am_run hX 3 _ _ _ _ ?_
  conv => whnf
  by_cases k1 : x.1 = 1
  · exact ⟨fun q => absurd (by rw [k1]; rfl) q, fun _ => k121 (Or.inr k1)⟩
  refine ⟨fun _ => ?_, fun q => absurd (fun z => k1 ((nI_eq (b := 1) (by omega) (by decide)).mp z)) q⟩
  refine am_run hX 1 _ _ _ _ ?_
  conv => whnf
  refine k128 0 ⟨fun q => absurd q (by decide), fun q => ?_⟩ (by decide)
  rcases q with q | q
  · exact absurd (ok4 q).1 p1
  · exact absurd q k1
set_option maxRecDepth 100000 in
theorem cs_L {Pp : am_Q} {X : am_X} (hX : am_K (d + 3) false nm_X10_countSpiders Pp X) (h : cir N n c inp S op) (hno : (¬ ∀ j, j < S → dOK (op j)) → Pp (.inl (some (aI (nI 61)))) N) (hP : (∀ j, j < S → dOK (op j)) → Pp (.inl (some (aI (nI (2 * inp + dsm op S))))) N) : ∀ m i l5 l6 l7 l8 l9, i + m = S → (∀ j, j < i → dOK (op j)) → X 12 [some (aR 39), some (aR 9), some (aI (nI c)), some (aI (nI (2 * inp + dsm op i))), some (aI (nI i)), l5, l6, l7, l8, l9] [] N := by
  have h0 := h
  obtain ⟨hbk, hcc, hbc, hops, _⟩ := h
  have hS300 := hbc.2.2.1
  have hn20 := hbk.1
  have w8 := hbc.2.1
  intro m
  induction m with
  | zero =>
    intro i l5 l6 l7 l8 l9 hi ha
    have hi : i = S := by omega
    subst hi
    refine am_run hX 6 _ _ _ _ ?_
    conv => whnf
    refine ⟨vp_in_nI (by show c < 20; omega) (by decide), ?_⟩
    conv => whnf
    rw [nI_clamp (n := c) (by omega), hbc.2.2.2.2.2.1]
    refine ⟨fun _ => ?_, fun c => absurd (nI_le (by omega) (by omega)) c⟩
    refine am_run hX 2 _ _ _ _ ?_
    conv => whnf
    exact ⟨trivial, hP ha⟩
  | succ m ih =>
    intro i l5 l6 l7 l8 l9 hi ha
    obtain ⟨og, bo⟩ := hops i (by omega)
    have ow := og.1
    have h8 := w256 w8
    have c256 : (op i).2.2.2.1 < 256 := Nat.lt_of_lt_of_le ow.2.2.2.1 h8
    have p8 := (pc_f (op i).2.2.2.1 c256).1
    have pz := pc_1c c256
    have k10 := ow.1
    refine am_run hX 6 _ _ _ _ ?_
    conv => whnf
    refine ⟨vp_in_nI (by show c < 20; omega) (by decide), ?_⟩
    conv => whnf
    rw [nI_clamp (n := c) (by omega), hbc.2.2.2.2.2.1]
    refine ⟨fun c => absurd c (nI_ge (by omega) (by omega)), fun _ => ?_⟩
    refine am_run hX 4 _ _ _ _ ?_
    conv => whnf
    refine am_c1 (bk_at (d := d) hbk hcc hbc (by omega)) ?_
    rw [bo.1]
    conv => whnf
    refine am_run hX 3 _ _ _ _ ?_
    conv => whnf
    refine am_c1 (ct_kind (d := d + 2)) ?_
    rw [bk_k w8 ow]
    conv => whnf
    refine am_run hX 3 _ _ _ _ ?_
    conv => whnf
    refine am_c1 (ct_controlsOf (d := d + 2)) ?_
    rw [bk_cc w8 ow]
    conv => whnf
    refine am_run hX 1 _ _ _ _ ?_
    conv => whnf
    refine am_c1 (ct_bit16 (d + 2) _ (by omega) _) ?_
    conv => whnf
    have k91 : ∀ b : Nat, b < 2 → (b = 1 → (op i).1 < 9 ∧ ((op i).2.2.2.1 ≠ 0 → pc (op i).2.2.2.1 = 1 ∧ ((op i).1 = 0 ∨ (op i).1 = 2))) → (b = 0 → ¬ dOK (op i)) → X 91 [some (aR 39), some (aR 9), some (aI (nI c)), some (aI (nI (2 * inp + dsm op i))), some (aI (nI i)), some (aI (nI (bk_p (op i)))), some (aI (nI (op i).1)), some (aI (nI (pc (op i).2.2.2.1))), l8, l9] [aI (nI b)] N := fun b b2 hb1 hb0 => by
      have no : ¬ dOK (op i) → ∀ v8 l9, X 106 [some (aR 39), some (aR 9), some (aI (nI c)), some (aI (nI (2 * inp + dsm op i))), some (aI (nI i)), some (aI (nI (bk_p (op i)))), some (aI (nI (op i).1)), some (aI (nI (pc (op i).2.2.2.1))), some (aI v8), l9] [] N := fun q v8 l9 => by
        refine am_run hX 2 _ _ _ _ ?_
        conv => whnf
        exact ⟨trivial, hno fun z => q (z i (by omega))⟩
      refine am_run hX 3 _ _ _ _ ?_
      conv => whnf
      rcases (by omega : b = 0 ∨ b = 1) with e | e
      · subst e
        exact ⟨fun _ => no (hb0 rfl) _ _, fun q => absurd rfl q⟩
      · subst e
        refine ⟨fun q => absurd q (by decide), fun _ => ?_⟩
        refine am_run hX 2 _ _ _ _ ?_
        conv => whnf
        refine am_c1 (ct_asks (d := d + 2)) ?_
        have hl := bk_lt w8 ow
        have hA : nI (bk_p (op i)) >>> (18 &&& 31) = 0 ↔ ((op i).2.2.2.2.1 = 0 ∧ (op i).2.2.2.2.2 = 0) := by
          rw [show (18 : Int32) = nI 18 from rfl, nI_sh (by omega) 18 (by decide), show (0 : Int32) = nI 0 from rfl, nI_eq (by have : bk_p (op i) / 2 ^ 18 ≤ bk_p (op i) := Nat.div_le_self _ _; omega) (by decide), pk_18 w8 ow]
        conv => whnf
        refine am_run hX 1 _ _ _ _ ?_
        conv => whnf
        by_cases hq : (op i).2.2.2.2.1 = 0 ∧ (op i).2.2.2.2.2 = 0
        · rw [if_pos (hA.mpr hq)]
          refine ⟨fun _ => ?_, fun q => absurd rfl q⟩
          have ok : dOK (op i) := ⟨(hb1 rfl).1, hq.1, hq.2, (hb1 rfl).2⟩
          refine cs_109 hX ok c256 fun l9 => ?_
          have := ih (i + 1) (some (aI (nI (bk_p (op i))))) (some (aI (nI (op i).1))) (some (aI (nI (pc (op i).2.2.2.1)))) (some (aI (nI 1))) l9 (by omega) fun j hj => by
            by_cases e : j = i
            · rw [e]
              exact ok
            · exact ha j (by omega)
          rw [show 2 * inp + dsm op (i + 1) = 2 * inp + dsm op i + dcn (op i) from (Nat.add_assoc _ _ _).symm] at this
          exact this
        · rw [if_neg fun z => hq (hA.mp z)]
          exact ⟨fun q => absurd q (by decide), fun _ => no (fun z => hq ⟨z.2.1, z.2.2.1⟩) _ _⟩
    refine am_run hX 3 _ _ _ _ ?_
    conv => whnf
    by_cases c0 : (op i).2.2.2.1 = 0
    · rw [pz.mpr c0] at k91 ⊢
      refine ⟨fun q => absurd rfl q, fun _ => ?_⟩
      refine am_run hX 3 _ _ _ _ ?_
      conv => whnf
      by_cases k8 : (op i).1 ≤ 8
      · refine ⟨fun q => absurd q (nI_nlt (a := 8) k8 (by decide)), fun _ => ?_⟩
        refine am_run hX 2 _ _ _ _ ?_
        conv => whnf
        exact k91 1 (by decide) (fun _ => ⟨by omega, fun z => absurd c0 z⟩) (fun z => absurd z (by decide))
      · refine ⟨fun _ => ?_, fun q => absurd (nI_lt (a := 8) (b := (op i).1) (by omega) (by omega)) q⟩
        refine am_run hX 2 _ _ _ _ ?_
        conv => whnf
        exact k91 0 (by decide) (fun z => absurd z (by decide)) fun _ z => by have := z.1; omega
    · have p0 : ¬ pc (op i).2.2.2.1 = 0 := fun z => c0 (pz.mp z)
      refine ⟨fun _ => ?_, fun q => absurd (fun z => p0 ((nI_eq (b := 0) (by omega) (by decide)).mp z)) q⟩
      have bad : ¬ (pc (op i).2.2.2.1 = 1 ∧ ((op i).1 = 0 ∨ (op i).1 = 2)) → X 90 [some (aR 39), some (aR 9), some (aI (nI c)), some (aI (nI (2 * inp + dsm op i))), some (aI (nI i)), some (aI (nI (bk_p (op i)))), some (aI (nI (op i).1)), some (aI (nI (pc (op i).2.2.2.1))), l8, l9] [] N := fun q => by
        refine am_run hX 1 _ _ _ _ ?_
        conv => whnf
        exact k91 0 (by decide) (fun z => absurd z (by decide)) fun _ z => q (z.2.2.2 c0)
      refine am_run hX 3 _ _ _ _ ?_
      conv => whnf
      by_cases p1 : pc (op i).2.2.2.1 = 1
      · refine ⟨fun q => absurd (by rw [p1]; rfl) q, fun _ => ?_⟩
        have good : ((op i).1 = 0 ∨ (op i).1 = 2) → X 86 [some (aR 39), some (aR 9), some (aI (nI c)), some (aI (nI (2 * inp + dsm op i))), some (aI (nI i)), some (aI (nI (bk_p (op i)))), some (aI (nI (op i).1)), some (aI (nI (pc (op i).2.2.2.1))), l8, l9] [] N := fun q => by
          refine am_run hX 2 _ _ _ _ ?_
          conv => whnf
          exact k91 1 (by decide) (fun _ => ⟨by omega, fun _ => ⟨p1, q⟩⟩) fun z => absurd z (by decide)
        refine am_run hX 2 _ _ _ _ ?_
        conv => whnf
        by_cases k0 : (op i).1 = 0
        · exact ⟨fun _ => good (Or.inl k0), fun q => absurd (by rw [k0]; rfl) q⟩
        refine ⟨fun q => absurd ((nI_eq (b := 0) (by omega) (by decide)).mp q) k0, fun _ => ?_⟩
        refine am_run hX 3 _ _ _ _ ?_
        conv => whnf
        by_cases k2 : (op i).1 = 2
        · exact ⟨fun q => absurd (by rw [k2]; rfl) q, fun _ => good (Or.inr k2)⟩
        exact ⟨fun _ => bad (by omega), fun q => absurd (fun z => k2 ((nI_eq (b := 2) (by omega) (by decide)).mp z)) q⟩
      · exact ⟨fun _ => bad (by omega), fun q => absurd (fun z => p1 ((nI_eq (b := 1) (by omega) (by decide)).mp z)) q⟩
set_option maxRecDepth 100000 in
theorem ct_csC (h : cir N n c inp S op) : am_M (d + 4) false nm_X10_countSpiders [aR 39, aR 9, aI (nI c)] N (fun r N' => N' = N ∧ ((∀ j, j < S → dOK (op j)) ∧ r = .inl (some (aI (nI (2 * inp + dsm op S)))) ∨ (¬ ∀ j, j < S → dOK (op j)) ∧ r = .inl (some (aI (nI 61))))) := by
  have hn20 := h.1.1
  have hcc := h.2.1
  refine ⟨rfl, rfl, rfl, fun X hX => am_run hX 9 _ _ _ _ ?_⟩
  conv => whnf
  refine ⟨vp_in_nI (by show c < 20; omega) (by decide), ?_⟩
  conv => whnf
  rw [nI_clamp (n := c) (by omega), h.2.2.1.2.2.2.1, show (2 : Int32) = nI 2 from rfl, nI_mul]
  exact cs_L hX h (fun q => ⟨rfl, Or.inr ⟨q, rfl⟩⟩) (fun q => ⟨rfl, Or.inl ⟨q, rfl⟩⟩) S 0 _ _ _ _ _ (by omega) (fun j hj => absurd hj (Nat.not_lt_zero _))
end DRQ
