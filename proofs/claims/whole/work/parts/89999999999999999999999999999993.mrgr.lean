/-! derive, MERGED: the reference's parities -/
/-- the reference has these parities -/
def pqM (N : mm_M) (σ : (Nat → Nat) × (Nat → Bool)) : Prop := ∀ i, i < 8 → N.1 133 i = nI (σ.1 i) ∧ σ.1 i < 256 ∧ N.1 134 i = b01 (σ.2 i)
def prF (M N : mm_M) : Prop := (∀ k, k ≠ 133 → k ≠ 134 → N.1 k = M.1 k) ∧ N.2 = M.2
theorem prF_r (M : mm_M) : prF M M := ⟨fun _ _ _ => rfl, rfl⟩
theorem prF_t {M N K : mm_M} (h : prF M N) (g : prF N K) : prF M K := ⟨fun k a b => (g.1 k a b).trans (h.1 k a b), g.2.trans h.2⟩
theorem prF_i {M : mm_M} {k : Nat} {f : Nat → Int32} (h : k = 133 ∨ k = 134) : prF M (mm_i M k f) := ⟨fun j a b => mm_ne _ _ _ _ (by omega), rfl⟩
theorem rfO_p {M N : mm_M} {a : Nat} {x : bk_X} (h : prF M N) (hx : rfO M a x) : rfO N a x := by
  unfold rfO at hx ⊢
  rw [h.1 112 (by decide) (by decide), h.1 113 (by decide) (by decide), h.1 114 (by decide) (by decide), h.1 115 (by decide) (by decide)]
  exact hx
section MRR
variable {d : Nat} {M : mm_M} {W : Nat}
set_option maxRecDepth 100000 in
theorem spr_l {P : am_Q} {X : am_X} (hX : am_K d false nm_X12_startParities P X) (hP : ∀ N, prF M N → pqM N (fun i => 2 ^ i, fun _ => false) → P (.inl none) N) : ∀ (m i : Nat) (N : mm_M), i + m = 8 → prF M N → (∀ j, j < i → N.1 133 j = nI (2 ^ j) ∧ N.1 134 j = 0) → X 2 [some (aR 108), some (aI (nI i))] [] N := by
  intro m
  induction m with
  | zero =>
    intro i N hi hF hc
    obtain rfl : i = 8 := by omega
    refine am_run hX 4 _ _ _ _ ?_
    conv => whnf
    refine ⟨fun _ => ?_, fun q => absurd (by decide) q⟩
    conv => whnf
    exact ⟨trivial, hP N hF (fun j hj => ⟨(hc j hj).1, p2_8 hj, (hc j hj).2⟩)⟩
  | succ m ih =>
    intro i N hi hF hc
    refine am_run hX 3 _ _ _ _ ?_
    conv => whnf
    refine ⟨fun q => absurd q (nI_ge (a := i) (b := 8) (by omega) (by decide)), fun _ => ?_⟩
    refine am_run hX 14 _ _ _ _ ?_
    conv => whnf
    refine ⟨vp_in_nI (by show i < 8; omega) (by decide), ?_⟩
    conv => whnf
    refine ⟨vp_in_nI (by show i < 8; omega) (by decide), ?_⟩
    conv => whnf
    rw [nI_clamp (n := i) (by omega), sh2 i (by omega), nI_1]
    refine ih (i + 1) _ (by omega) (prF_t hF (prF_t (prF_i (Or.inl rfl)) (prF_i (Or.inr rfl)))) (fun j hj => ?_)
    rw [mm_ne _ 134 133 _ (by decide), mm_i1, mm_i1]
    by_cases q : j = i
    · subst q
      exact ⟨if_pos rfl, if_pos rfl⟩
    · refine ⟨(if_neg q).trans (hc j (by omega)).1, (if_neg q).trans ?_⟩
      rw [mm_ne _ 133 134 _ (by decide)]
      exact (hc j (by omega)).2
set_option maxRecDepth 100000 in
theorem ct_stPR : am_M (d + 1) false nm_X12_startParities [aR 108] M (fun r N => r = .inl none ∧ prF M N ∧ pqM N (fun i => 2 ^ i, fun _ => false)) := by
  refine ⟨rfl, rfl, rfl, fun X hX => am_run hX 2 _ _ _ _ ?_⟩
  conv => whnf
  exact spr_l (d := d) (M := M) hX (fun N a b => ⟨rfl, a, b⟩) 8 0 M (by omega) (prF_r M) (fun j hj => absurd hj (Nat.not_lt_zero _))
set_option maxRecDepth 100000 in
theorem ct_turnE {σ : (Nat → Nat) × (Nat → Bool)} {w e : Nat} (h : pqM M σ) (hw : w < 8) (he : e ≤ 7) : am_M (d + 1) false nm_X12_turnedEighths [aR 108, aI (nI e), aI (nI w)] M (am_q1 (aI (nI (if σ.2 w = true then (8 - e) % 8 else e))) M) := by
  obtain ⟨_, _, h4⟩ := h w hw
  refine ⟨rfl, rfl, rfl, fun X hX => am_run hX 12 _ _ _ _ ?_⟩
  conv => whnf
  refine ⟨vp_in_nI (by show w < 8; exact hw) (by decide), ?_⟩
  conv => whnf
  rw [nI_clamp (n := w) (by omega), h4]
  cases hb : σ.2 w with
  | true =>
    refine ⟨fun q => absurd q (by decide), fun _ => ?_⟩
    conv => whnf
    rw [show (8 : Int32) = nI 8 from rfl, nI_sub (by omega), nI_m7]
    exact ⟨trivial, rfl, rfl⟩
  | false =>
    refine ⟨fun _ => ?_, fun q => absurd rfl q⟩
    conv => whnf
    exact ⟨trivial, rfl, rfl⟩
theorem b01_n (b : Bool) : vp_nar (if 2 = 2 then .boolean else .byte) (b01 b) = b01 b := by cases b <;> decide
theorem b01_x (a b : Bool) : vp_nar (if 2 = 2 then .boolean else .byte) (b01 a ^^^ b01 b) = b01 (a != b) := by cases a <;> cases b <;> decide
set_option maxRecDepth 100000 in
theorem ca_8 {σ : (Nat → Nat) × (Nat → Bool)} {a : Nat} {x : bk_X} {P : am_Q} {X : am_X} {l3 l4 l5 : Option am_V} (hX : am_K (d + 1) false nm_X12_carry P X) (ha : a < 6300) (hW : W ≤ 8) (hx : ogd W x) (hr : rfO M a x) (h : pqM M σ) (c8 : x.1 = 8) (hP : ∀ N, prF M N → pqM N (pst σ x) → P (.inl none) N) : X 103 [some (aR 108), some (aI (nI a)), some (aI (nI x.2.1)), l3, l4, l5] [] M := by
  obtain ⟨r2, r3, r4, r5⟩ := hr
  have hw : x.2.1 < 8 := by have := hx.1.2.1; omega
  have hs := hx.1.2.2.1
  have hne := (hx.2.2 c8).2.1
  have hIa : vp_in (nI a) 6300 := vp_in_nI ha (by decide)
  have hIw : vp_in (nI x.2.1) 8 := vp_in_nI hw (by decide)
  have hIs : vp_in (nI x.2.2.1) 8 := vp_in_nI hs (by decide)
  have hpl := pst_l (fun i hi => (h i hi).2.1) hW hx
  obtain ⟨w1, w2, w3⟩ := h x.2.1 hw
  obtain ⟨s1, s2, s3⟩ := h x.2.2.1 hs
  refine am_run hX 6 _ _ _ _ ?_
  conv => whnf
  refine ⟨hIa, ?_⟩
  conv => whnf
  rw [nI_clamp (n := a) (by omega), r2, c8]
  refine ⟨fun q => absurd rfl q, fun _ => ?_⟩
  refine am_run hX 44 _ _ _ _ ?_
  conv => whnf
  refine ⟨hIa, ?_⟩
  conv => whnf
  rw [nI_clamp (n := a) (by omega), r4]
  refine ⟨hIw, ?_⟩
  conv => whnf
  refine ⟨hIs, ?_⟩
  conv => whnf
  refine ⟨hIw, ?_⟩
  conv => whnf
  refine ⟨hIs, ?_⟩
  conv => whnf
  refine ⟨hIw, ?_⟩
  conv => whnf
  refine ⟨hIs, ?_⟩
  conv => whnf
  refine ⟨hIw, ?_⟩
  conv => whnf
  refine ⟨hIs, ?_⟩
  conv => whnf
  rw [nI_clamp (n := x.2.1) (by omega), nI_clamp (n := x.2.2.1) (by omega), w1, s1, mm_i1, mm_ne _ 133 134 _ (by decide), mm_ne _ 133 134 _ (by decide), w3, s3, b01_n, b01_n, mm_i1, mm_ii, mm_ii]
  refine ⟨trivial, hP _ (prF_t (prF_i (Or.inl rfl)) (prF_i (Or.inr rfl))) (fun i hi => ?_)⟩
  have e1 : (pst σ x).1 i = if i = x.2.1 then σ.1 x.2.2.1 else if i = x.2.2.1 then σ.1 x.2.1 else σ.1 i := by
    unfold pst
    rw [if_pos c8]
  have e2 : (pst σ x).2 i = if i = x.2.1 then σ.2 x.2.2.1 else if i = x.2.2.1 then σ.2 x.2.1 else σ.2 i := by
    unfold pst
    rw [if_pos c8]
  refine ⟨?_, hpl i hi, ?_⟩
  · rw [mm_ne _ 134 133 _ (by decide), mm_i1, e1]
    unfold upd
    by_cases q1 : i = x.2.2.1
    · rw [if_pos q1, if_neg (fun z => hne (z.symm.trans q1)), if_pos q1]
    · rw [if_neg q1]
      by_cases q2 : i = x.2.1
      · rw [if_pos q2, if_pos q2]
      · rw [if_neg q2, if_neg q2, if_neg q1]
        exact (h i hi).1
  · rw [mm_i1, e2]
    unfold upd
    by_cases q1 : i = x.2.2.1
    · rw [if_pos q1, if_neg (fun z => hne (z.symm.trans q1)), if_pos q1]
    · rw [if_neg q1]
      by_cases q2 : i = x.2.1
      · rw [if_pos q2, if_pos q2]
      · rw [if_neg q2, if_neg q2, if_neg q1]
        exact (h i hi).2.2
set_option maxRecDepth 100000 in
theorem ca_n {a : Nat} {x : bk_X} {P : am_Q} {X : am_X} {v2 : Int32} {l3 l4 l5 : Option am_V} (hX : am_K (d + 1) false nm_X12_carry P X) (ha : a < 6300) (hk : x.1 ≤ 10) (e2 : M.1 112 a = nI x.1) (c8 : x.1 ≠ 8) (hP : P (.inl none) M) : X 103 [some (aR 108), some (aI (nI a)), some (aI v2), l3, l4, l5] [] M := by
  refine am_run hX 7 _ _ _ _ ?_
  conv => whnf
  refine ⟨vp_in_nI (by show a < 6300; exact ha) (by decide), ?_⟩
  conv => whnf
  rw [nI_clamp (n := a) (by omega), e2, show (8 : Int32) = nI 8 from rfl, nI_eq (by omega) (by decide)]
  refine ⟨fun _ => ?_, fun q => absurd c8 q⟩
  conv => whnf
  exact ⟨trivial, hP⟩
set_option maxRecDepth 100000 in
theorem ct_caryR {σ : (Nat → Nat) × (Nat → Bool)} {a : Nat} {x : bk_X} (ha : a < 6300) (hW : W ≤ 8) (hx : ogd W x) (hr : rfO M a x) (h : pqM M σ) : am_M (d + 2) false nm_X12_carry [aR 108, aI (nI a)] M (fun r N => r = .inl none ∧ prF M N ∧ pqM N (pst σ x)) := by
  have hr0 := hr
  obtain ⟨r2, r3, r4, r5⟩ := hr
  have h8 := w256 hW
  have kk := hx.1.1
  have hw : x.2.1 < 8 := by have := hx.1.2.1; omega
  have hcl := hx.1.2.2.2.1
  have hIa : vp_in (nI a) 6300 := vp_in_nI ha (by decide)
  have hIw : vp_in (nI x.2.1) 8 := vp_in_nI hw (by decide)
  have hpl := pst_l (fun i hi => (h i hi).2.1) hW hx
  obtain ⟨w1, w2, w3⟩ := h x.2.1 hw
  refine ⟨rfl, rfl, rfl, fun X hX => am_run hX 10 _ _ _ _ ?_⟩
  conv => whnf
  refine ⟨hIa, ?_⟩
  conv => whnf
  refine ⟨hIa, ?_⟩
  conv => whnf
  rw [nI_clamp (n := a) (by omega), r2, r3, show (0 : Int32) = nI 0 from rfl, nI_eq (by omega) (by decide)]
  by_cases c0 : x.1 = 0
  · refine ⟨fun q => absurd c0 q, fun _ => ?_⟩
    have c8 : x.1 ≠ 8 := by omega
    refine am_run hX 5 _ _ _ _ ?_
    conv => whnf
    refine ⟨hIa, ?_⟩
    conv => whnf
    rw [nI_clamp (n := a) (by omega), r5, show (0 : Int32) = nI 0 from rfl, nI_eq (by omega) (by decide)]
    by_cases cc : x.2.2.2.1 = 0
    · refine ⟨fun q => absurd cc q, fun _ => ?_⟩
      have e : pst σ x = (σ.1, fun i => if i = x.2.1 then !(σ.2 i) else σ.2 i) := by
        unfold pst
        rw [if_neg c8, if_pos c0, if_pos cc]
      have hK : ∀ v : Int32, v = b01 (!(σ.2 x.2.1)) → X 44 [some (aR 108), some (aI (nI a)), some (aI (nI x.2.1)), none, none, none] [aI v, aI (nI x.2.1), aR 134] M := by
        intro v hv
        subst hv
        refine am_run hX 1 _ _ _ _ ?_
        conv => whnf
        refine ⟨hIw, ?_⟩
        conv => whnf
        rw [nI_clamp (n := x.2.1) (by omega), b01_n]
        refine am_run hX 5 _ _ _ _ ?_
        conv => whnf
        refine ⟨hIa, ?_⟩
        conv => whnf
        rw [nI_clamp (n := a) (by omega), mm_ne _ 134 112 _ (by decide), r2, c0]
        refine ⟨fun q => absurd rfl q, fun _ => ?_⟩
        refine am_run hX 5 _ _ _ _ ?_
        conv => whnf
        refine ⟨hIa, ?_⟩
        conv => whnf
        rw [nI_clamp (n := a) (by omega), mm_ne _ 134 115 _ (by decide), r5, cc]
        refine ⟨fun _ => ?_, fun q => absurd rfl q⟩
        refine ca_n (d := d) hX ha kk ((by rw [mm_ne _ 134 112 _ (by decide)]; exact r2) : (mm_i M 134 _).1 112 a = nI x.1) c8 ⟨rfl, prF_i (Or.inr rfl), fun i hi => ?_⟩
        rw [e]
        refine ⟨(h i hi).1, (h i hi).2.1, ?_⟩
        rw [mm_i1]
        show upd (M.1 134) x.2.1 (b01 (!(σ.2 x.2.1))) i = b01 (if i = x.2.1 then !(σ.2 i) else σ.2 i)
        by_cases q : i = x.2.1
        · rw [if_pos q, q]
          exact if_pos rfl
        · rw [if_neg q]
          exact (if_neg q).trans (h i hi).2.2
      refine am_run hX 8 _ _ _ _ ?_
      conv => whnf
      refine ⟨hIw, ?_⟩
      conv => whnf
      rw [nI_clamp (n := x.2.1) (by omega), w3]
      cases hb : σ.2 x.2.1 with
      | true =>
        rw [hb] at hK
        refine ⟨fun _ => ?_, fun q => absurd (by decide) q⟩
        refine am_run hX 1 _ _ _ _ ?_
        conv => whnf
        exact hK 0 rfl
      | false =>
        rw [hb] at hK
        refine ⟨fun q => absurd rfl q, fun _ => ?_⟩
        refine am_run hX 2 _ _ _ _ ?_
        conv => whnf
        exact hK 1 rfl
    · refine ⟨fun _ => ?_, fun q => absurd cc q⟩
      obtain ⟨_, _, _, l4, _⟩ := lw_f x.2.2.2.1 (by omega) (by omega)
      have hl8 : lw x.2.2.2.1 < 8 := by
        apply Classical.byContradiction
        intro q
        rw [Nat.testBit_lt_two_pow (Nat.lt_of_lt_of_le (show x.2.2.2.1 < 2 ^ 8 by omega) (Nat.pow_le_pow_right (by decide) (by omega)))] at l4
        cases l4
      have e1 : ∀ i, (pst σ x).1 i = if i = x.2.1 then σ.1 i ^^^ σ.1 (lw x.2.2.2.1) else σ.1 i := by
        intro i
        unfold pst
        rw [if_neg c8, if_pos c0, if_neg cc]
      have e2 : ∀ i, (pst σ x).2 i = if i = x.2.1 then (σ.2 i != σ.2 (lw x.2.2.2.1)) else σ.2 i := by
        intro i
        unfold pst
        rw [if_neg c8, if_pos c0, if_neg cc]
      obtain ⟨b1, b2, b3⟩ := h (lw x.2.2.2.1) hl8
      have hIb : vp_in (nI (lw x.2.2.2.1)) 8 := vp_in_nI hl8 (by decide)
      refine am_run hX 5 _ _ _ _ ?_
      conv => whnf
      refine ⟨hIa, ?_⟩
      conv => whnf
      rw [nI_clamp (n := a) (by omega), r2, c0]
      refine ⟨fun q => absurd rfl q, fun _ => ?_⟩
      refine am_run hX 5 _ _ _ _ ?_
      conv => whnf
      refine ⟨hIa, ?_⟩
      conv => whnf
      rw [nI_clamp (n := a) (by omega), r5, show (0 : Int32) = nI 0 from rfl, nI_eq (by omega) (by decide)]
      refine ⟨fun q => absurd q cc, fun _ => ?_⟩
      refine am_run hX 28 _ _ _ _ ?_
      conv => whnf
      refine ⟨hIa, ?_⟩
      conv => whnf
      rw [nI_clamp (n := a) (by omega), r5]
      refine am_c1 (ct_rlow (d := d) (by omega) (by omega)) ?_
      conv => whnf
      refine ⟨hIw, ?_⟩
      conv => whnf
      refine ⟨hIb, ?_⟩
      conv => whnf
      refine ⟨hIw, ?_⟩
      conv => whnf
      refine ⟨hIw, ?_⟩
      conv => whnf
      refine ⟨hIb, ?_⟩
      conv => whnf
      refine ⟨hIw, ?_⟩
      conv => whnf
      rw [nI_clamp (n := x.2.1) (by omega), nI_clamp (n := lw x.2.2.2.1) (by omega), w1, b1, nI_xor, mm_ne _ 133 134 _ (by decide), w3, b3, b01_x]
      refine ca_n (d := d) hX ha kk (M := mm_i (mm_i M 133 _) 134 _) (by rw [mm_ne _ 134 112 _ (by decide), mm_ne _ 133 112 _ (by decide)]; exact r2) c8 ⟨rfl, prF_t (prF_i (Or.inl rfl)) (prF_i (Or.inr rfl)), fun i hi => ⟨?_, hpl i hi, ?_⟩⟩
      · rw [mm_ne _ 134 133 _ (by decide), mm_i1, e1 i]
        by_cases q : i = x.2.1
        · rw [if_pos q, q]
          exact if_pos rfl
        · rw [if_neg q]
          exact (if_neg q).trans (h i hi).1
      · rw [mm_i1, e2 i]
        by_cases q : i = x.2.1
        · rw [if_pos q, q]
          exact if_pos rfl
        · rw [if_neg q]
          refine (if_neg q).trans ?_
          exact (h i hi).2.2
  · refine ⟨fun _ => ?_, fun q => absurd c0 q⟩
    refine am_run hX 5 _ _ _ _ ?_
    conv => whnf
    refine ⟨hIa, ?_⟩
    conv => whnf
    rw [nI_clamp (n := a) (by omega), r2, show (0 : Int32) = nI 0 from rfl, nI_eq (by omega) (by decide)]
    refine ⟨fun _ => ?_, fun q => absurd c0 q⟩
    by_cases c8 : x.1 = 8
    · exact ca_8 (d := d) hX ha hW hx hr0 h c8 (fun N a b => ⟨rfl, a, b⟩)
    · have e : pst σ x = σ := by
        unfold pst
        rw [if_neg c8, if_neg c0]
      exact ca_n (d := d) hX ha kk r2 c8 ⟨rfl, prF_r M, by rw [e]; exact h⟩
end MRR
