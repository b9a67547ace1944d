/-! THE PAIR equal, PUT TOGETHER -/
def goq (am : Nat) : Nat → Option Nat
  | 0 => none
  | m + 1 => if am / 2 ^ (7 - m) % 2 = 1 then some (7 - m) else goq am m
def gqw (am : Nat) (x : Int32) : Nat → Int32
  | 0 => x
  | m + 1 => if am / 2 ^ (7 - m) % 2 = 1 then nI (7 - m) else gqw am x m
theorem gq_o (am : Nat) (x : Int32) : ∀ m, gqw am x m = (match goq am m with | none => x | some j => nI j)
  | 0 => rfl
  | m + 1 => by
    simp only [gqw, goq]
    by_cases h : am / 2 ^ (7 - m) % 2 = 1
    · rw [if_pos h, if_pos h]
    · rw [if_neg h, if_neg h]
      exact gq_o am x m
theorem go_8 : ∀ am, am < 256 → goq am 8 = if am = 0 then none else some (lw am) := by decide +kernel
theorem gq_8 {am : Nat} (h : am < 256) (x : Int32) : gqw am x 8 = if am = 0 then x else nI (lw am) := by
  rw [gq_o, go_8 am h]
  by_cases c : am = 0
  · rw [if_pos c, if_pos c]
  · rw [if_neg c, if_neg c]
theorem pure_k {op : Nat → bk_X} {S : Nat} (h : allN (fun j => pureB (op j)) S = true) : ∀ j, j < S → (op j).1 < 9 := fun j hj => (of_decide_eq_true ((all_iff S).mp h j hj)).1
/-- where equal stops -/
def eqS (W : Nat) (op : Nat → bk_X) (S : Nat) (op' : Nat → bk_X) (S' : Nat) (s : Nat) : Prop := s ≤ 2 ^ W ∧ (∀ i, i < s → ¬ amq W op S op' S' i = 0) ∧ (amq W op S op' S' s = 0 ∨ s = 2 ^ W)
theorem eqS_u {W S S' s t : Nat} {op op' : Nat → bk_X} (h : eqS W op S op' S' s) (h' : eqS W op S op' S' t) : s = t := by
  rcases Nat.lt_trichotomy s t with q | q | q
  · have := h'.2.1 s q
    rcases h.2.2 with z | z
    · exact absurd z this
    · have := h'.1
      omega
  · exact q
  · have := h.2.1 t q
    rcases h'.2.2 with z | z
    · exact absurd z this
    · have := h.1
      omega
/-- the memory behind the reference's equal, up to its work rows -/
def eqf (M M2 : mm_M) (v : Int32) : Prop := (∀ k, k ≠ 108 → M2.1 k = M.1 k) ∧ (∀ j, j ≠ 0 → j ≠ 74 → j ≠ 85 → M2.1 108 j = M.1 108 j) ∧ (M2.1 108 0 = 0 ∧ M2.1 108 74 = 0 ∧ M2.1 108 85 = v) ∧ (∀ k, k ≠ 118 → k ≠ 119 → k ≠ 150 → k ≠ 152 → k ≠ 160 → k ≠ 161 → M2.2 k = M.2 k) ∧ ∀ j, j < 1280 → M2.2 150 j = M.2 150 j
section EQX
variable {d : Nat} {M : mm_M}
set_option maxRecDepth 100000 in
theorem eq_x1 {n c e W S S' : Nat} {op op' : Nat → bk_X} (hC : cir M n c W S op) (hE : cir M n e W S' op') (w5 : W ≤ 5) (hp : allN (fun j => pureB (op j)) S = true) (hp' : allN (fun j => pureB (op' j)) S' = true) : am_M (d + 7) false nm_X11_equal [aR 0, aI (nI c), aI (nI e)] M (fun r M1 => ∃ M' s, eqk M M' ∧ eqS W op S op' S' s ∧ r = .inl (some (aI (if (amq W op S op' S' s) = 0 then 0 else 1))) ∧ M1 = mm_i M' 0 (upd (M'.1 0) 17 (eqV W op S op' S' s))) := by
  have hn := hC.1.1
  have h97 := hC.1.2.1
  have cn := hC.2.1
  have en := hE.2.1
  refine ⟨rfl, rfl, rfl, fun X hX => am_run hX 5 _ _ _ _ ?_⟩
  conv => whnf
  refine am_c1 (bk_has (d := d + 5) (nI c)) ?_
  rw [h97, if_neg (bk_yes hn cn)]
  conv => whnf
  refine ⟨fun c => absurd c (by decide), fun _ => ?_⟩
  refine am_run hX 5 _ _ _ _ ?_
  conv => whnf
  refine am_c1 (bk_has (d := d + 5) (nI e)) ?_
  rw [h97, if_neg (bk_yes hn en)]
  conv => whnf
  refine ⟨fun c => absurd c (by decide), fun _ => ?_⟩
  refine am_run hX 11 _ _ _ _ ?_
  conv => whnf
  refine ⟨vp_in_nI (by show c < 20; omega) (by decide), ?_⟩
  conv => whnf
  refine ⟨vp_in_nI (by show e < 20; omega) (by decide), ?_⟩
  conv => whnf
  rw [nI_clamp (n := c) (by omega), nI_clamp (n := e) (by omega), hC.2.2.1.2.2.2.1, hE.2.2.1.2.2.2.1]
  refine ⟨fun c => absurd rfl c, fun _ => ?_⟩
  refine am_run hX 7 _ _ _ _ ?_
  conv => whnf
  refine ⟨vp_in_nI (by show c < 20; omega) (by decide), ?_⟩
  conv => whnf
  rw [nI_clamp (n := c) (by omega), hC.2.2.1.2.2.2.1]
  refine ⟨fun _ => ?_, fun c => absurd (nI_le (b := 5) w5 (by decide)) c⟩
  refine am_run hX 5 _ _ _ _ ?_
  conv => whnf
  refine am_c1 (ct_isGates (d := d + 2) hC) ?_
  rw [if_pos hp]
  conv => whnf
  refine ⟨fun c => absurd c (by decide), fun _ => ?_⟩
  refine am_run hX 5 _ _ _ _ ?_
  conv => whnf
  refine am_c1 (ct_isGates (d := d + 2) hE) ?_
  rw [if_pos hp']
  conv => whnf
  refine ⟨fun _ => ?_, fun c => absurd (by decide) c⟩
  refine am_run hX 4 _ _ _ _ ?_
  conv => whnf
  refine eq_xl (d := d) hX hC hE w5 (pure_k hp) (pure_k hp') (fun M' s hk h1 h2 h3 => ⟨M', s, hk, ⟨h1, h2, h3⟩, rfl, rfl⟩) (2 ^ W) 0 (by omega) (fun i hi => ?_) M (eqk_r M)
  have : i = 0 := by omega
  subst this
  show ¬ 255 = 0
  decide
set_option maxRecDepth 100000 in
theorem eq_m0 {n : Nat} {p q : Int32} (h : bk_iv M n) (hno : eq_no M n p q) : am_M (d + 2) false nm_X12_equal [aR 108, aI p, aI q] M (am_q1 (aI (-1)) (th0 M)) := by
  have hn := h.1
  have h6 : (th0 M).1 108 6 = nI n := h.2.2.1
  refine ⟨rfl, rfl, rfl, fun X hX => am_run hX 60 _ _ _ _ ?_⟩
  conv => whnf
  refine am_c1 (bk_isc (d := d) (M := th0 M) p) ?_
  rw [h6]
  rcases bk_no (p := p) hn with c1 | ⟨c, cn, rfl⟩
  · rw [if_pos c1]
    conv => whnf
    refine ⟨fun _ => ?_, fun c => absurd rfl c⟩
    conv => whnf
    exact ⟨trivial, rfl, rfl⟩
  rw [if_neg (bk_yes hn cn)]
  conv => whnf
  refine ⟨fun c => absurd c (by decide), fun _ => ?_⟩
  conv => whnf
  refine am_c1 (bk_isc (d := d) (M := th0 M) q) ?_
  rw [h6]
  rcases bk_no (p := q) hn with c2 | ⟨e, en, rfl⟩
  · rw [if_pos c2]
    conv => whnf
    refine ⟨fun _ => ?_, fun c => absurd rfl c⟩
    conv => whnf
    exact ⟨trivial, rfl, rfl⟩
  rw [if_neg (bk_yes hn en)]
  conv => whnf
  refine ⟨fun c => absurd c (by decide), fun _ => ?_⟩
  rcases hno with z | z | ⟨c', e', W, S, op, W', S', op', e1, e2, hC, hE, hx⟩
  · exact absurd z (bk_yes hn cn)
  · exact absurd z (bk_yes hn en)
  have hc20 := hC.2.1
  have he20 := hE.2.1
  have hcc : c' = c := ((nI_eq (by omega) (by omega)).mp e1).symm
  have hee : e' = e := ((nI_eq (by omega) (by omega)).mp e2).symm
  subst hcc
  subst hee
  have w8 := hC.2.2.1.2.1
  have w8' := hE.2.2.1.2.1
  have hC0 : cir (th0 M) n c' W S op := hC
  have hE0 : cir (th0 M) n e' W' S' op' := hE
  conv => whnf
  refine ⟨vp_in_nI (by show c' < 21; omega) (by decide), ?_⟩
  conv => whnf
  refine ⟨vp_in_nI (by show e' < 21; omega) (by decide), ?_⟩
  conv => whnf
  rw [nI_clamp (n := c') (by omega), nI_clamp (n := e') (by omega), show (th0 M).1 110 c' = nI W from hC.2.2.1.2.2.2.2.1, show (th0 M).1 110 e' = nI W' from hE.2.2.1.2.2.2.2.1, nI_eq (by omega) (by omega)]
  refine ⟨fun _ => ?_, fun c3 => ?_⟩
  · conv => whnf
    exact ⟨trivial, rfl, rfl⟩
  have c3 : W = W' := Decidable.byContradiction c3
  conv => whnf
  refine ⟨vp_in_nI (by show c' < 21; omega) (by decide), ?_⟩
  conv => whnf
  rw [nI_clamp (n := c') (by omega), show (th0 M).1 110 c' = nI W from hC.2.2.1.2.2.2.2.1]
  by_cases c4 : W ≤ 5
  · refine ⟨fun c => absurd c (nI_nlt (a := 5) (b := W) c4 (by decide)), fun _ => ?_⟩
    conv => whnf
    refine am_c1 (ct_isPure (d := d) hC0) ?_
    by_cases c5 : allN (fun j => pureB (op j)) S = true
    · rw [if_pos c5]
      conv => whnf
      refine ⟨fun c => absurd c (by decide), fun _ => ?_⟩
      conv => whnf
      refine am_c1 (ct_isPure (d := d) hE0) ?_
      rcases hx with hx | hx | hx | hx
      · exact absurd c3 hx
      · exact absurd c4 (by omega)
      · rw [c5] at hx
        exact absurd hx (by decide)
      · rw [if_neg (by rw [hx]; decide)]
        conv => whnf
        refine ⟨fun c => absurd rfl c, fun _ => ?_⟩
        conv => whnf
        exact ⟨trivial, rfl, rfl⟩
    · rw [if_neg c5]
      conv => whnf
      refine ⟨fun _ => ?_, fun c => absurd rfl c⟩
      conv => whnf
      exact ⟨trivial, rfl, rfl⟩
  · refine ⟨fun _ => ?_, fun c => absurd (nI_lt (a := 5) (b := W) (by omega) (by omega)) c⟩
    conv => whnf
    exact ⟨trivial, rfl, rfl⟩
set_option maxRecDepth 100000 in
theorem eq_ml {P : am_Q} {X : am_X} {n c e W S S' : Nat} {op op' : Nat → bk_X} {ow : Int32} (hX : am_K (d + 7) false nm_X12_equal P X) (hC : cir M n c W S op) (hE : cir M n e W S' op') (w5 : W ≤ 5) (hp : allN (fun j => pureB (op j)) S = true) (hp' : allN (fun j => pureB (op' j)) S' = true) (hK : ∀ M' s, eqj M M' → eqS W op S op' S' s → X 119 [some (aR 108), some (aI (nI c)), some (aI (nI e)), some (aI ow), some (aI (nI (amq W op S op' S' s))), some (aI (nI s)), none] [] M') : ∀ (m s : Nat), s + m = 2 ^ W → (∀ i, i < s → ¬ (amq W op S op' S' i) = 0) → ∀ M', eqj M M' → X 82 [some (aR 108), some (aI (nI c)), some (aI (nI e)), some (aI ow), some (aI (nI (amq W op S op' S' s))), some (aI (nI s)), none] [] M' := by
  have hN : 2 ^ W ≤ 32 := by
    have : 2 ^ W ≤ 2 ^ 5 := Nat.pow_le_pow_right (by decide) w5
    omega
  have hn20 := hC.1.1
  have hc20 := hC.2.1
  intro m
  induction m with
  | zero =>
    intro s hs h0 M' hj
    have hC' := cir_j hj hC
    refine am_run hX 8 _ _ _ _ ?_
    conv => whnf
    refine ⟨vp_in_nI (by show c < 21; omega) (by decide), ?_⟩
    conv => whnf
    rw [nI_clamp (n := c) (by omega), hC'.2.2.1.2.2.2.2.1, sh2 W (by omega)]
    exact ⟨fun _ => hK M' s hj ⟨by omega, h0, Or.inr (by omega)⟩, fun c => absurd (nI_le (by omega) (by omega)) c⟩
  | succ m ih =>
    intro s hs h0 M' hj
    have hC' := cir_j hj hC
    have hE' := cir_j hj hE
    have hl := amq_lt W op S op' S' s
    refine am_run hX 8 _ _ _ _ ?_
    conv => whnf
    refine ⟨vp_in_nI (by show c < 21; omega) (by decide), ?_⟩
    conv => whnf
    rw [nI_clamp (n := c) (by omega), hC'.2.2.1.2.2.2.2.1, sh2 W (by omega)]
    refine ⟨fun c => absurd c (nI_ge (by omega) (by omega)), fun _ => ?_⟩
    refine am_run hX 2 _ _ _ _ ?_
    conv => whnf
    rw [show (0 : Int32) = nI 0 from rfl, nI_eq (by omega) (by decide)]
    refine ⟨fun hz => hK M' s hj ⟨by omega, h0, Or.inl hz⟩, fun hz => ?_⟩
    refine am_run hX 10 _ _ _ _ ?_
    conv => whnf
    refine am_cq (ct_powOf (d := d) hC' hE' w5 (show s < 2 ^ W by omega) (pure_k hp) (pure_k hp')) ?_
    rintro r M2 ⟨rfl, hj2⟩
    refine ⟨_, rfl, ?_⟩
    conv => whnf
    rw [nI_and, pvw_a hl, nI_1]
    refine ih (s + 1) (by omega) (fun i hi => ?_) M2 (eqj_t hj hj2)
    by_cases q : i = s
    · rw [q]
      exact hz
    · exact h0 i (by omega)
set_option maxRecDepth 100000 in
theorem eq_ql {P : am_Q} {X : am_X} {c e am s : Nat} {ow x : Int32} (hX : am_K d false nm_X12_equal P X) (ham : am < 256) (hK : X 165 [some (aR 108), some (aI (nI c)), some (aI (nI e)), some (aI ow), some (aI (nI am)), some (aI (nI s)), some (aI (-1))] [] (mm_i M 108 (upd (M.1 108) 85 (gqw am x 8)))) : ∀ (m i : Nat), i + m = 8 → X 130 [some (aR 108), some (aI (nI c)), some (aI (nI e)), some (aI ow), some (aI (nI am)), some (aI (nI s)), some (aI (nI m + -1))] [] (mm_i M 108 (upd (M.1 108) 85 (gqw am x i))) := by
  intro m
  induction m with
  | zero =>
    intro i hi
    have hi : i = 8 := by omega
    subst hi
    refine am_run hX 2 _ _ _ _ ?_
    conv => whnf
    exact ⟨fun _ => hK, fun c => absurd (by decide) c⟩
  | succ m ih =>
    intro i hi
    have ih := ih (i + 1) (by omega)
    simp only [gqw] at ih
    rw [show 7 - i = m by omega] at ih
    rw [nI_m1']
    refine am_run hX 2 _ _ _ _ ?_
    conv => whnf
    refine ⟨fun c => absurd c (nI_pos (by omega)), fun _ => ?_⟩
    refine am_run hX 8 _ _ _ _ ?_
    conv => whnf
    rw [nI_sh (by omega) m (by omega), nI_m1, show (1 : Int32) = nI 1 from rfl, nI_eq (by omega) (by decide)]
    refine ⟨fun q => ?_, fun q => ?_⟩
    · rw [if_neg q] at ih
      refine am_run hX 5 _ _ _ _ ?_
      conv => whnf
      rw [mm_i1, show upd (M.1 108) 85 (gqw am x i) 85 = gqw am x i from if_pos rfl, upd_two, mm_ii]
      exact ih
    · rw [if_pos (Decidable.byContradiction q)] at ih
      refine am_run hX 5 _ _ _ _ ?_
      conv => whnf
      rw [mm_i1, upd_two, mm_ii]
      exact ih
set_option maxRecDepth 100000 in
theorem eq_m1 {n c e W S S' : Nat} {op op' : Nat → bk_X} (hC : cir M n c W S op) (hE : cir M n e W S' op') (w5 : W ≤ 5) (hp : allN (fun j => pureB (op j)) S = true) (hp' : allN (fun j => pureB (op' j)) S' = true) : am_M (d + 8) false nm_X12_equal [aR 108, aI (nI c), aI (nI e)] M (fun r M2 => ∃ s, eqS W op S op' S' s ∧ r = .inl (some (aI (if (amq W op S op' S' s) = 0 then 0 else 1))) ∧ eqf M M2 (eqV W op S op' S' s)) := by
  have hn := hC.1.1
  have cn := hC.2.1
  have en := hE.2.1
  have h6 : (th0 M).1 108 6 = nI n := hC.1.2.2.1
  have hC0 : cir (th0 M) n c W S op := hC
  have hE0 : cir (th0 M) n e W S' op' := hE
  refine ⟨rfl, rfl, rfl, fun X hX => am_run hX 7 _ _ _ _ ?_⟩
  conv => whnf
  refine am_c1 (bk_isc (d := d + 6) (M := th0 M) (nI c)) ?_
  rw [h6, if_neg (bk_yes hn cn)]
  conv => whnf
  refine ⟨fun c => absurd c (by decide), fun _ => ?_⟩
  refine am_run hX 4 _ _ _ _ ?_
  conv => whnf
  refine am_c1 (bk_isc (d := d + 6) (M := th0 M) (nI e)) ?_
  rw [h6, if_neg (bk_yes hn en)]
  conv => whnf
  refine ⟨fun c => absurd c (by decide), fun _ => ?_⟩
  refine am_run hX 9 _ _ _ _ ?_
  conv => whnf
  refine ⟨vp_in_nI (by show c < 21; omega) (by decide), ?_⟩
  conv => whnf
  refine ⟨vp_in_nI (by show e < 21; omega) (by decide), ?_⟩
  conv => whnf
  rw [nI_clamp (n := c) (by omega), nI_clamp (n := e) (by omega), show (th0 M).1 110 c = nI W from hC.2.2.1.2.2.2.2.1, show (th0 M).1 110 e = nI W from hE.2.2.1.2.2.2.2.1]
  refine ⟨fun c => absurd rfl c, fun _ => ?_⟩
  refine am_run hX 6 _ _ _ _ ?_
  conv => whnf
  refine ⟨vp_in_nI (by show c < 21; omega) (by decide), ?_⟩
  conv => whnf
  rw [nI_clamp (n := c) (by omega), show (th0 M).1 110 c = nI W from hC.2.2.1.2.2.2.2.1]
  refine ⟨fun c => absurd c (nI_nlt (a := 5) (b := W) w5 (by decide)), fun _ => ?_⟩
  refine am_run hX 4 _ _ _ _ ?_
  conv => whnf
  refine am_c1 (ct_isPure (d := d + 6) hC0) ?_
  rw [if_pos hp]
  conv => whnf
  refine ⟨fun c => absurd c (by decide), fun _ => ?_⟩
  refine am_run hX 4 _ _ _ _ ?_
  conv => whnf
  refine am_c1 (ct_isPure (d := d + 6) hE0) ?_
  rw [if_pos hp']
  conv => whnf
  refine ⟨fun _ => ?_, fun c => absurd (by decide) c⟩
  refine am_run hX 10 _ _ _ _ ?_
  conv => whnf
  refine am_c0 (ct_aside0 (d := d + 6) (M := th0 M)) ?_
  conv => whnf
  have hC1 : cir (mm_l (th0 M) 161 (fun j => if j < 1280 then (th0 M).2 150 j else (th0 M).2 161 j)) n c W S op := hC
  have hE1 : cir (mm_l (th0 M) 161 (fun j => if j < 1280 then (th0 M).2 150 j else (th0 M).2 161 j)) n e W S' op' := hE
  refine eq_ml (d := d) (ow := (th0 M).1 108 71) hX hC1 hE1 w5 hp hp' (fun M' s hj hs => ?_) (2 ^ W) 0 (by omega) (fun i hi => by omega) _ (eqj_r _)
  have hl := amq_lt W op S op' S' s
  refine am_run hX 6 _ _ _ _ ?_
  conv => whnf
  refine eq_ql (d := d + 7) (M := M') (x := - nI s) hX hl ?_ 8 0 (by omega)
  rw [gq_8 hl]
  refine am_run hX 30 _ _ _ _ ?_
  conv => whnf
  refine am_c0 (ct_aside1 (d := d + 6)) ?_
  conv => whnf
  refine ⟨⟨rfl, rfl⟩, ?_⟩
  conv => whnf
  rw [show (0 : Int32) = nI 0 from rfl, nI_eq (by omega) (by decide)]
  have fin : ∀ v, v = eqV W op S op' S' s → eqf M (mm_i (mm_i (mm_l (mm_i M' 108 (upd (M'.1 108) 85 v)) 150 (fun j => if j < 1280 then (mm_i M' 108 (upd (M'.1 108) 85 v)).2 161 j else (mm_i M' 108 (upd (M'.1 108) 85 v)).2 150 j)) 108 (upd ((mm_l (mm_i M' 108 (upd (M'.1 108) 85 v)) 150 (fun j => if j < 1280 then (mm_i M' 108 (upd (M'.1 108) 85 v)).2 161 j else (mm_i M' 108 (upd (M'.1 108) 85 v)).2 150 j)).1 108) 71 ((th0 M).1 108 71))) 108 (upd ((mm_i (mm_l (mm_i M' 108 (upd (M'.1 108) 85 v)) 150 (fun j => if j < 1280 then (mm_i M' 108 (upd (M'.1 108) 85 v)).2 161 j else (mm_i M' 108 (upd (M'.1 108) 85 v)).2 150 j)) 108 (upd ((mm_l (mm_i M' 108 (upd (M'.1 108) 85 v)) 150 (fun j => if j < 1280 then (mm_i M' 108 (upd (M'.1 108) 85 v)).2 161 j else (mm_i M' 108 (upd (M'.1 108) 85 v)).2 150 j)).1 108) 71 ((th0 M).1 108 71))).1 108) 74 (nI 0))) (eqV W op S op' S' s) := by
    intro v ev
    obtain ⟨j1, j2, j3⟩ := hj
    have e108 : ∀ (N : mm_M) (A B C : Nat → Int32), (mm_i (mm_i (mm_i N 108 A) 108 B) 108 C).1 108 = C := fun N A B C => mm_i1 _ _ _
    refine ⟨fun k hk => ?_, fun j a b c => ?_, ⟨?_, ?_, ?_⟩, fun k a b c e f g => ?_, fun j hj => ?_⟩
    · show (if k = 108 then _ else if k = 108 then _ else if k = 108 then _ else M'.1 k) = M.1 k
      rw [if_neg hk, if_neg hk, if_neg hk, j1 k hk]
      show (th0 M).1 k = _
      unfold th0 mm_i
      dsimp only
      rw [if_neg hk]
    · show upd (upd (upd (M'.1 108) 85 v) 71 ((th0 M).1 108 71)) 74 (nI 0) j = M.1 108 j
      unfold upd
      by_cases h71 : j = 71
      · rw [if_neg b, if_pos h71, h71]
        rfl
      · rw [if_neg b, if_neg h71, if_neg c, j2 j h71 b]
        show (th0 M).1 108 j = _
        unfold th0
        rw [mm_i1]
        unfold upd
        rw [if_neg a]
    · show upd (upd (upd (M'.1 108) 85 v) 71 ((th0 M).1 108 71)) 74 (nI 0) 0 = 0
      show M'.1 108 0 = 0
      rw [j2 0 (by decide) (by decide)]
      show (th0 M).1 108 0 = 0
      unfold th0
      rw [mm_i1]
      rfl
    · rfl
    · show upd (upd (upd (M'.1 108) 85 v) 71 ((th0 M).1 108 71)) 74 (nI 0) 85 = _
      exact ev
    · show (if k = 150 then _ else M'.2 k) = M.2 k
      rw [if_neg c, j3 k a b c e f]
      show (if k = 161 then _ else M.2 k) = M.2 k
      rw [if_neg g]
    · show (if j < 1280 then M'.2 161 j else M'.2 150 j) = M.2 150 j
      rw [if_pos hj, j3 161 (by decide) (by decide) (by decide) (by decide) (by decide), mm_l2]
      show (if j < 1280 then M.2 150 j else _) = _
      rw [if_pos hj]
  refine ⟨fun hz => ?_, fun hz => ?_⟩
  · conv => whnf
    refine ⟨trivial, s, hs, ?_, fin _ ?_⟩
    · rw [if_pos hz]
      rfl
    · unfold eqV
      rfl
  · conv => whnf
    refine ⟨trivial, s, hs, ?_, fin _ ?_⟩
    · rw [if_neg hz]
    · unfold eqV
      rfl
end EQX
section EQY
variable {ac : Nat → ClassId} {lo : Nat} {ad as : Nat → Nat} {b L : Nat} {xs : Nat → Int32} {hp : mm_M → Nat → xm_H} {I J : mm_M → Prop}
theorem pr_equal (H : mm_L ac lo hp) (h1 : ∀ M, I M → ∃ n, bk_iv M n ∧ ∀ c, c < n → ∃ W S op, cir M n c W S op) (hJ0 : ∀ M, I M → J (th0 M)) (hJ : ∀ M M' M2 v, I M → eqk M M' → eqf (mm_i M' 0 (upd (M'.1 0) 17 v)) M2 v → J M2) (p q : Int32) : la_I ac lo ad as b L xs hp I J nm_X11_equal nm_X12_equal [.int p, .int q] := by
  refine am_la_I (us := [aI p, aI q]) H fun M hI => ?_
  obtain ⟨n, hb, hc⟩ := h1 M hI
  have hn := hb.1
  by_cases hno : eq_no M n p q
  · refine am_wk (eq_x0 (d := 995) hb hno hc) fun r M1 e => ⟨-1, e.1, ?_⟩
    rw [e.2]
    exact am_wk (eq_m0 (d := 998) hb hno) fun r M2 e => ⟨e.1, by rw [e.2]; exact hJ0 M hI⟩
  · rcases bk_no (p := p) hn with z | ⟨c, cn, rfl⟩
    · exact absurd (Or.inl z) hno
    · rcases bk_no (p := q) hn with z | ⟨e, en, rfl⟩
      · exact absurd (Or.inr (Or.inl z)) hno
      · obtain ⟨W, S, op, hC⟩ := hc c cn
        obtain ⟨W', S', op', hE⟩ := hc e en
        have a1 : W = W' := Decidable.byContradiction fun z => hno (Or.inr (Or.inr ⟨c, e, W, S, op, W', S', op', rfl, rfl, hC, hE, Or.inl z⟩))
        have a2 : W ≤ 5 := by
          apply Decidable.byContradiction
          intro z
          exact hno (Or.inr (Or.inr ⟨c, e, W, S, op, W', S', op', rfl, rfl, hC, hE, Or.inr (Or.inl (by omega))⟩))
        have a3 : allN (fun j => pureB (op j)) S = true := by
          cases z : allN (fun j => pureB (op j)) S with
          | true => rfl
          | false => exact absurd (Or.inr (Or.inr ⟨c, e, W, S, op, W', S', op', rfl, rfl, hC, hE, Or.inr (Or.inr (Or.inl z))⟩)) hno
        have a4 : allN (fun j => pureB (op' j)) S' = true := by
          cases z : allN (fun j => pureB (op' j)) S' with
          | true => rfl
          | false => exact absurd (Or.inr (Or.inr ⟨c, e, W, S, op, W', S', op', rfl, rfl, hC, hE, Or.inr (Or.inr (Or.inr z))⟩)) hno
        subst a1
        refine am_wk (eq_x1 (d := 993) hC hE a2 a3 a4) ?_
        rintro r M1 ⟨M', s, hk, hs, rfl, rfl⟩
        refine ⟨_, rfl, ?_⟩
        have hC' := cir_k hk hC
        have hE' := cir_k hk hE
        have hC1 : cir (mm_i M' 0 (upd (M'.1 0) 17 (eqV W op S op' S' s))) n c W S op := hC'
        have hE1 : cir (mm_i M' 0 (upd (M'.1 0) 17 (eqV W op S op' S' s))) n e W S' op' := hE'
        refine am_wk (eq_m1 (d := 992) hC1 hE1 a2 a3 a4) ?_
        rintro r M2 ⟨s2, hs2, rfl, hf⟩
        have := eqS_u hs hs2
        subst this
        exact ⟨rfl, hJ M M' M2 _ hI hk hf⟩
end EQY
