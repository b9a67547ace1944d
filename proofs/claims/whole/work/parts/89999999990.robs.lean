/-! THE REFERENCE'S outcomeOf AND doOp -/
def r108 (g : Nat → Int32) (dn tk b : Nat) (gk : Int32) : Nat → Int32 := fun j => if j = 67 then nI dn else if j = 68 then nI tk else if j = 70 then nI b else if j = 74 then gk else g j
theorem r108_67 (g : Nat → Int32) (dn tk b : Nat) (gk : Int32) (v : Nat) : upd (r108 g dn tk b gk) 67 (nI v) = r108 g v tk b gk := by
  funext j
  unfold upd r108
  by_cases h : j = 67
  · subst h
    rfl
  · rw [if_neg h]
    simp only [h, if_false]
theorem r108_68 (g : Nat → Int32) (dn tk b : Nat) (gk : Int32) (v : Nat) : upd (r108 g dn tk b gk) 68 (nI v) = r108 g dn v b gk := by
  funext j
  unfold upd r108
  by_cases h : j = 68
  · subst h
    rfl
  · rw [if_neg h]
    simp only [h, if_false]
theorem r108_70 (g : Nat → Int32) (dn tk b : Nat) (gk : Int32) (v : Nat) : upd (r108 g dn tk b gk) 70 (nI v) = r108 g dn tk v gk := by
  funext j
  unfold upd r108
  by_cases h : j = 70
  · subst h
    rfl
  · rw [if_neg h]
    simp only [h, if_false]
theorem r108_74 (g : Nat → Int32) (dn tk b : Nat) (gk v : Int32) : upd (r108 g dn tk b gk) 74 v = r108 g dn tk b v := by
  funext j
  unfold upd r108
  by_cases h : j = 74
  · subst h
    rfl
  · rw [if_neg h]
    simp only [h, if_false]
def b01 (b : Bool) : Int32 := bif b then 1 else 0
theorem nt_f {b : Bool} (h : ¬ b = true) : b = false := by
  cases b
  · rfl
  · exact absurd rfl h
def rF (M : mm_M) (D : Nat → Int32) (q o f s : Nat → Int64) : mm_M := v4 (mm_i M 108 D) q o f s
theorem rF_D (M : mm_M) (D : Nat → Int32) (q o f s : Nat → Int64) (D' : Nat → Int32) : mm_i (rF M D q o f s) 108 D' = rF M D' q o f s := by
  show v4 (mm_i (mm_i M 108 D) 108 D') q o f s = _
  rw [mm_ii]
  rfl
theorem rF_108 (M : mm_M) (D : Nat → Int32) (q o f s : Nat → Int64) : (rF M D q o f s).1 108 = D := mm_i1 M 108 D
theorem rF_s (M : mm_M) (D : Nat → Int32) (q o f s s' : Nat → Int64) : mm_l (rF M D q o f s) 150 s' = rF M D q o f s' := v4_s _ _ _ _ _ _
theorem tb_dm {j t v : Nat} (hv : v < 2) : j / 2 ^ t % 2 = v ↔ j.testBit t = decide (v = 1) := by
  rw [Nat.testBit_eq_decide_div_mod_eq]
  rcases (by omega : v = 0 ∨ v = 1) with rfl | rfl
  · constructor
    · intro h
      rw [h]
    · intro h
      have h2 : ¬ j / 2 ^ t % 2 = 1 := by simpa using h
      omega
  · constructor
    · intro h
      rw [h]
    · intro h
      simpa using h
theorem pr_z {p : Nat} (hp : p < 5) : pr5 ((0, 0, 0, 0), 0) p = 0 := by
  rcases (by omega : p = 0 ∨ p = 1 ∨ p = 2 ∨ p = 3 ∨ p = 4) with rfl | rfl | rfl | rfl | rfl <;> decide
theorem sz_5 (ys : Nat → R4 × Nat) (i : Nat) (z : R4 × Nat) : st5 (st5 (st5 (st5 (st5 ys i 0 z) i 1 z) i 2 z) i 3 z) i 4 z = sta ys i z := by
  funext k
  unfold sta
  by_cases h : k = i
  · subst h
    simp only [st5, if_pos]
    rfl
  · simp only [st5, if_neg h]
section ROB
variable {d : Nat} {M : mm_M} {g : Nat → Int64}
set_option maxRecDepth 100000 in
theorem ct_isz5 {i l : Nat} {y : R4} (hi : i < 256) (hb : bd y) (h : at5 (M.2 150) (5 * i) y l) : am_M (d + 1) false nm_X12_isZeroAt [aR 108, aI (nI i)] M (am_q1 (aI (if y = (0, 0, 0, 0) then 1 else 0)) M) := by
  have e5 : (5 : Int32) * nI i = nI (5 * i) := by rw [show (5 : Int32) = nI 5 from rfl, nI_mul]
  obtain ⟨x1, x2, x3, x4, _⟩ := h
  have hz := r4_0 hb
  refine ⟨rfl, rfl, rfl, fun X hX => am_run hX 60 _ _ _ _ ?_⟩
  conv => whnf
  rw [e5]
  refine ⟨vp_in_nI (by show _ < 1280; omega) (by decide), ?_⟩
  conv => whnf
  rw [nI_clamp (n := 5 * i) (by omega), x1, lg_0]
  refine ⟨fun hc => ?_, fun hc1 => ?_⟩
  · conv => whnf
    rw [if_neg (fun q => hc (hz.mp q).1)]
    exact ⟨rfl, rfl, rfl⟩
  conv => whnf
  rw [e5, show (1 : Int32) = nI 1 from rfl, nI_add]
  refine ⟨vp_in_nI (by show _ < 1280; omega) (by decide), ?_⟩
  conv => whnf
  rw [nI_clamp (n := 5 * i + 1) (by omega), x2, lg_0]
  refine ⟨fun hc => ?_, fun hc2 => ?_⟩
  · conv => whnf
    rw [if_neg (fun q => hc (hz.mp q).2.1)]
    exact ⟨rfl, rfl, rfl⟩
  conv => whnf
  rw [e5, show (2 : Int32) = nI 2 from rfl, nI_add]
  refine ⟨vp_in_nI (by show _ < 1280; omega) (by decide), ?_⟩
  conv => whnf
  rw [nI_clamp (n := 5 * i + 2) (by omega), x3, lg_0]
  refine ⟨fun hc => ?_, fun hc3 => ?_⟩
  · conv => whnf
    rw [if_neg (fun q => hc (hz.mp q).2.2.1)]
    exact ⟨rfl, rfl, rfl⟩
  conv => whnf
  rw [e5, show (3 : Int32) = nI 3 from rfl, nI_add]
  refine ⟨vp_in_nI (by show _ < 1280; omega) (by decide), ?_⟩
  conv => whnf
  rw [nI_clamp (n := 5 * i + 3) (by omega), x4, lg_0]
  refine ⟨fun hc => ?_, fun hc4 => ?_⟩
  · conv => whnf
    rw [if_neg (fun q => hc (hz.mp q).2.2.2)]
    exact ⟨rfl, rfl, rfl⟩
  conv => whnf
  rw [if_pos (hz.mpr ⟨Decidable.byContradiction hc1, Decidable.byContradiction hc2, Decidable.byContradiction hc3, Decidable.byContradiction hc4⟩)]
  exact ⟨rfl, rfl, rfl⟩
set_option maxRecDepth 100000 in
theorem oc_l {P : am_Q} {X : am_X} {W k t : Nat} {xs : Nat → R4} (hX : am_K (d + 1) false nm_X12_outcomeOf P X) (w8 : W ≤ 8) (ht : t < W) (hw : M.1 108 71 = nI W) (hx : ∀ j, j < 2 ^ W → bd (red k (xs j)).1 ∧ at5 (M.2 150) (5 * j) (red k (xs j)).1 (red k (xs j)).2) (hK : X 75 [some (aR 108), some (aI (nI t)), some (aI (b01 (anyN (dnB xs t) (2 ^ W)))), some (aI (b01 (anyN (upB xs t) (2 ^ W)))), some (aI (nI (2 ^ W))), none, none] [] M) : ∀ (m i : Nat), i + m = 2 ^ W → X 7 [some (aR 108), some (aI (nI t)), some (aI (b01 (anyN (dnB xs t) i))), some (aI (b01 (anyN (upB xs t) i))), some (aI (nI i)), none, none] [] M := by
  have h8 := w256 w8
  intro m
  induction m with
  | zero =>
    intro i hi
    have hi : i = 2 ^ W := by omega
    subst hi
    refine am_run hX 6 _ _ _ _ ?_
    conv => whnf
    rw [hw, sh2 W (by omega)]
    exact ⟨fun _ => hK, fun c => absurd (nI_le (by omega) (by omega)) c⟩
  | succ m ih =>
    intro i hi
    have ih := ih (i + 1) (by omega)
    obtain ⟨hb, h5⟩ := hx i (by omega)
    simp only [anyN] at ih
    refine am_run hX 6 _ _ _ _ ?_
    conv => whnf
    rw [hw, sh2 W (by omega)]
    refine ⟨fun c => absurd c (nI_ge (by omega) (by omega)), fun _ => ?_⟩
    refine am_run hX 4 _ _ _ _ ?_
    conv => whnf
    refine am_c1 (ct_isz5 (d := d) (by omega) hb h5) ?_
    by_cases hz : xs i = (0, 0, 0, 0)
    · rw [if_pos (show (red k (xs i)).1 = (0, 0, 0, 0) by rw [hz, red_0])]
      conv => whnf
      refine ⟨fun c => absurd c (by decide), fun _ => ?_⟩
      refine am_run hX 3 _ _ _ _ ?_
      conv => whnf
      rw [nI_1]
      rw [show dnB xs t i = false from decide_eq_false (fun q => q.2 hz), show upB xs t i = false from decide_eq_false (fun q => q.2 hz), Bool.or_false, Bool.or_false] at ih
      exact ih
    · rw [if_neg (show ¬ (red k (xs i)).1 = (0, 0, 0, 0) from fun e => hz (red_nz e))]
      conv => whnf
      refine ⟨fun _ => ?_, fun c => absurd rfl c⟩
      have bt := tb_dm (j := i) (t := t) (v := 0) (by decide)
      have e0 : decide ((0 : Nat) = 1) = false := rfl
      rw [e0] at bt
      have s1 : X 49 [some (aR 108), some (aI (nI t)), some (aI (b01 (anyN (dnB xs t) i || dnB xs t i))), some (aI (b01 (anyN (upB xs t) i))), some (aI (nI i)), none, none] [] M := by
        cases hb1 : i.testBit t with
        | false =>
          rw [show upB xs t i = false from decide_eq_false (fun q => by rw [hb1] at q; exact absurd q.1 (by decide)), Bool.or_false] at ih
          by_cases hU : anyN (upB xs t) i = true
          · rw [hU] at ih ⊢
            refine am_run hX 2 _ _ _ _ ?_
            conv => whnf
            refine ⟨fun _ => ?_, fun c => absurd (by decide) c⟩
            refine am_run hX 5 _ _ _ _ ?_
            conv => whnf
            rw [nI_1]
            exact ih
          · rw [nt_f hU] at ih ⊢
            refine am_run hX 2 _ _ _ _ ?_
            conv => whnf
            refine ⟨fun c => absurd rfl c, fun _ => ?_⟩
            refine am_run hX 7 _ _ _ _ ?_
            conv => whnf
            rw [nI_sh (by omega) t (by omega), nI_m1, bt.mpr hb1]
            refine ⟨fun _ => ?_, fun c => absurd (by decide) c⟩
            refine am_run hX 4 _ _ _ _ ?_
            conv => whnf
            rw [nI_1]
            exact ih
        | true =>
          rw [show upB xs t i = true from decide_eq_true ⟨hb1, hz⟩, Bool.or_true] at ih
          by_cases hU : anyN (upB xs t) i = true
          · rw [hU]
            refine am_run hX 2 _ _ _ _ ?_
            conv => whnf
            refine ⟨fun _ => ?_, fun c => absurd (by decide) c⟩
            refine am_run hX 5 _ _ _ _ ?_
            conv => whnf
            rw [nI_1]
            exact ih
          · rw [nt_f hU]
            refine am_run hX 2 _ _ _ _ ?_
            conv => whnf
            refine ⟨fun c => absurd rfl c, fun _ => ?_⟩
            refine am_run hX 7 _ _ _ _ ?_
            conv => whnf
            rw [nI_sh (by omega) t (by omega), nI_m1, show i / 2 ^ t % 2 = 1 from (tb_dm (v := 1) (by decide)).mpr hb1]
            refine ⟨fun c => absurd rfl c, fun _ => ?_⟩
            refine am_run hX 5 _ _ _ _ ?_
            conv => whnf
            rw [nI_1]
            exact ih
      by_cases hD : anyN (dnB xs t) i = true
      · rw [hD, Bool.true_or] at s1
        rw [hD]
        refine am_run hX 2 _ _ _ _ ?_
        conv => whnf
        refine ⟨fun _ => ?_, fun c => absurd (by decide) c⟩
        refine am_run hX 3 _ _ _ _ ?_
        conv => whnf
        exact s1
      · have hD' : anyN (dnB xs t) i = false := by
          cases q : anyN (dnB xs t) i with
          | false => rfl
          | true => exact absurd q hD
        rw [hD', Bool.false_or] at s1
        rw [hD']
        refine am_run hX 2 _ _ _ _ ?_
        conv => whnf
        refine ⟨fun c => absurd rfl c, fun _ => ?_⟩
        refine am_run hX 6 _ _ _ _ ?_
        conv => whnf
        cases hb1 : i.testBit t with
        | false =>
          rw [nI_sh (by omega) t (by omega), nI_m1, bt.mpr hb1]
          rw [show dnB xs t i = true from decide_eq_true ⟨hb1, hz⟩] at s1
          refine ⟨fun c => absurd rfl c, fun _ => ?_⟩
          refine am_run hX 3 _ _ _ _ ?_
          conv => whnf
          exact s1
        | true =>
          rw [nI_sh (by omega) t (by omega), nI_m1, show i / 2 ^ t % 2 = 1 from (tb_dm (v := 1) (by decide)).mpr hb1]
          rw [show dnB xs t i = false from decide_eq_false (fun q => by rw [hb1] at q; exact absurd q.1 (by decide))] at s1
          refine ⟨fun _ => ?_, fun c => absurd (by decide) c⟩
          refine am_run hX 2 _ _ _ _ ?_
          conv => whnf
          exact s1
set_option maxRecDepth 100000 in
theorem ow_b {P : am_Q} {X : am_X} {N j p t v : Nat} {z2 z3 : Int32} {ys : Nat → R4 × Nat} (hX : am_K (d + 1) false nm_X12_outcomeOf P X) (hN : N ≤ 256) (hj : j < N) (hp : p < 5) (ht : t < 8) (hv : v < 2) (hb : ¬ j.testBit t = decide (v = 1)) (hK : X 148 [some (aR 108), some (aI (nI t)), some (aI z2), some (aI z3), some (aI (nI v)), some (aI (nI j)), some (aI (nI (p + 1)))] [] (mm_l M 150 (c5 g N (st5 ys j p ((0, 0, 0, 0), 0))))) : X 148 [some (aR 108), some (aI (nI t)), some (aI z2), some (aI z3), some (aI (nI v)), some (aI (nI j)), some (aI (nI p))] [] (mm_l M 150 (c5 g N ys)) := by
  refine am_run hX 3 _ _ _ _ ?_
  conv => whnf
  refine ⟨fun c => absurd c (nI_ge (a := p) (b := 5) hp (by decide)), fun _ => ?_⟩
  refine am_run hX 7 _ _ _ _ ?_
  conv => whnf
  rw [nI_sh (by omega) t (by omega), nI_m1, nI_eq (by omega) (by omega), tb_dm hv]
  refine ⟨fun c => absurd c hb, fun _ => ?_⟩
  refine am_run hX 11 _ _ _ _ ?_
  conv => whnf
  rw [show (5 : Int32) * nI j + nI p = nI (5 * j + p) from by rw [show (5 : Int32) = nI 5 from rfl, nI_mul, nI_add]]
  refine ⟨vp_in_nI (by show _ < 1280; omega) (by decide), ?_⟩
  conv => whnf
  rw [nI_clamp (n := 5 * j + p) (by omega), nI_1, mm_l2, mm_ll, ← pr_z hp, c5_u _ hj hp]
  exact hK
set_option maxRecDepth 100000 in
theorem ow_l {P : am_Q} {X : am_X} {W t v : Nat} {z2 z3 : Int32} {ys : Nat → R4 × Nat} (hX : am_K (d + 1) false nm_X12_outcomeOf P X) (w8 : W ≤ 8) (ht : t < W) (hv : v < 2) (hw : M.1 108 71 = nI W) (hK : ∀ l6, X 190 [some (aR 108), some (aI (nI t)), some (aI z2), some (aI z3), some (aI (nI v)), some (aI (nI (2 ^ W))), l6] [] (mm_l M 150 (c5 g (2 ^ W) (rotA (fun j => ¬ j.testBit t = decide (v = 1)) (fun _ : R4 × Nat => ((0, 0, 0, 0), 0)) ys (2 ^ W))))) : ∀ (m j : Nat), j + m = 2 ^ W → ∀ l6, X 134 [some (aR 108), some (aI (nI t)), some (aI z2), some (aI z3), some (aI (nI v)), some (aI (nI j)), l6] [] (mm_l M 150 (c5 g (2 ^ W) (rotA (fun j => ¬ j.testBit t = decide (v = 1)) (fun _ : R4 × Nat => ((0, 0, 0, 0), 0)) ys j))) := by
  have h8 := w256 w8
  intro m
  induction m with
  | zero =>
    intro j hj l6
    have hj : j = 2 ^ W := by omega
    subst hj
    refine am_run hX 6 _ _ _ _ ?_
    conv => whnf
    rw [show (mm_l M 150 (c5 g (2 ^ W) (rotA (fun j => ¬ j.testBit t = decide (v = 1)) (fun _ : R4 × Nat => ((0, 0, 0, 0), 0)) ys (2 ^ W)))).1 108 71 = nI W from hw, sh2 W (by omega)]
    exact ⟨fun _ => hK _, fun c => absurd (nI_le (by omega) (by omega)) c⟩
  | succ m ih =>
    intro j hj l6
    have ih := ih (j + 1) (by omega)
    refine am_run hX 6 _ _ _ _ ?_
    conv => whnf
    rw [show (mm_l M 150 (c5 g (2 ^ W) (rotA (fun j => ¬ j.testBit t = decide (v = 1)) (fun _ : R4 × Nat => ((0, 0, 0, 0), 0)) ys j))).1 108 71 = nI W from hw, sh2 W (by omega)]
    refine ⟨fun c => absurd c (nI_ge (by omega) (by omega)), fun _ => ?_⟩
    refine am_run hX 2 _ _ _ _ ?_
    conv => whnf
    by_cases hb : j.testBit t = decide (v = 1)
    · refine am_run hX 3 _ _ _ _ ?_
      conv => whnf
      refine ⟨fun c => absurd c (by decide), fun _ => ?_⟩
      refine am_run hX 7 _ _ _ _ ?_
      conv => whnf
      rw [nI_sh (by omega) t (by omega), nI_m1, nI_eq (by omega) (by omega), tb_dm hv]
      refine ⟨fun _ => ?_, fun c => absurd hb c⟩
      refine am_run hX 2 _ _ _ _ ?_
      conv => whnf
      rw [nI_1, rotA_n (S := fun j => ¬ j.testBit t = decide (v = 1)) (fun q => q hb)]
      exact ih _
    · refine ow_b (p := 0) hX h8 (by omega) (by decide) (by omega) hv hb (ow_b (p := 1) hX h8 (by omega) (by decide) (by omega) hv hb (ow_b (p := 2) hX h8 (by omega) (by decide) (by omega) hv hb (ow_b (p := 3) hX h8 (by omega) (by decide) (by omega) hv hb (ow_b (p := 4) hX h8 (by omega) (by decide) (by omega) hv hb ?_))))
      rw [sz_5, rotA_s (S := fun j => ¬ j.testBit t = decide (v = 1)) (F := fun _ : R4 × Nat => ((0, 0, 0, 0), 0)) hb]
      refine am_run hX 3 _ _ _ _ ?_
      conv => whnf
      refine ⟨fun _ => ?_, fun c => absurd (by decide) c⟩
      refine am_run hX 2 _ _ _ _ ?_
      conv => whnf
      rw [nI_1]
      exact ih _
theorem oz_e {t v k : Nat} {xs : Nat → R4} {N j : Nat} (hj : j < N) : rotA (fun j => ¬ j.testBit t = decide (v = 1)) (fun _ : R4 × Nat => ((0, 0, 0, 0), 0)) (fun j => red k (xs j)) N j = red k (obX v xs t j) := by
  unfold rotA obX
  by_cases h : j.testBit t = decide (v = 1)
  · rw [if_neg (fun q => q.1 h), if_pos h]
  · rw [if_pos ⟨h, hj⟩, if_neg h, red_0]
set_option maxRecDepth 100000 in
theorem ct_outc {W k t dn tk b : Nat} {xs : Nat → R4} {gk : Int32} {tape : Int64} {q o f : Nat → Int64} (w8 : W ≤ 8) (ht : t < W) (htk : tk < 2 ^ 30) (hw : M.1 108 71 = nI W) (hT : M.2 108 69 = tape) (hb : ∀ j, j < 2 ^ W → bd (xs j)) : am_M (d + 2) false nm_X12_outcomeOf [aR 108, aI (nI t)] (rF M (r108 (M.1 108) dn tk b gk) q o f (c5 g (2 ^ W) (fun j => red k (xs j)))) (am_q1 (aI (nI (obV tape tk xs t (2 ^ W)))) (rF M (r108 (M.1 108) dn (obT tk xs t (2 ^ W)) b 0) q o f (c5 g (2 ^ W) (fun j => red k (obX (obV tape tk xs t (2 ^ W)) xs t j))))) := by
  have h8 := w256 w8
  have v2 := obV_2 tape tk xs t (2 ^ W)
  refine ⟨rfl, rfl, rfl, fun X hX => am_run hX 6 _ _ _ _ ?_⟩
  conv => whnf
  refine oc_l (M := (rF M (r108 (M.1 108) dn tk b gk) q o f (c5 g (2 ^ W) (fun j => red k (xs j))))) (k := k) (xs := xs) hX w8 ht (by rw [rF_108]; exact hw) (fun j hj => ⟨vr_bd (vr_red k (xs j)) (hb j hj), c5_5 (ys := fun j => red k (xs j)) hj⟩) ?_ (2 ^ W) 0 (by omega)
  have fin : ∀ v, v < 2 → ∀ tk', obV tape tk xs t (2 ^ W) = v → obT tk xs t (2 ^ W) = tk' → ∀ z2 z3, X 131 [some (aR 108), some (aI (nI t)), some (aI z2), some (aI z3), some (aI (nI v)), none, none] [] (rF M (r108 (M.1 108) dn tk' b gk) q o f (c5 g (2 ^ W) (fun j => red k (xs j)))) := by
    intro v hv tk' e1 e2 z2 z3
    refine am_run hX 2 _ _ _ _ ?_
    conv => whnf
    have key := ow_l (d := d) (M := (rF M (r108 (M.1 108) dn tk' b gk) q o f (c5 g (2 ^ W) (fun j => red k (xs j))))) (g := g) (z2 := z2) (z3 := z3) (ys := fun j => red k (xs j)) hX w8 ht hv (by rw [rF_108]; exact hw) ?_ (2 ^ W) 0 (by omega) none
    · rw [show rotA (fun j => ¬ j.testBit t = decide (v = 1)) (fun _ : R4 × Nat => ((0, 0, 0, 0), 0)) (fun j => red k (xs j)) 0 = fun j => red k (xs j) from by funext j; unfold rotA; rw [if_neg (by omega)], rF_s] at key
      exact key
    · intro l6
      rw [rF_s, c5_e (ys := fun j => red k (obX v xs t j)) fun j hj => oz_e hj]
      refine am_run hX 10 _ _ _ _ ?_
      conv => whnf
      refine ⟨⟨rfl, rfl⟩, ?_⟩
      conv => whnf
      refine ⟨trivial, by rw [e1], ?_⟩
      rw [rF_D, rF_108, r108_74, e1, e2]
  have rt : (rF M (r108 (M.1 108) dn tk b gk) q o f (c5 g (2 ^ W) (fun j => red k (xs j)))).1 108 68 = nI tk := by
    rw [rF_108]
    rfl
  by_cases hU : anyN (upB xs t) (2 ^ W) = true
  · rw [hU]
    refine am_run hX 2 _ _ _ _ ?_
    conv => whnf
    refine ⟨fun c => absurd c (by decide), fun _ => ?_⟩
    by_cases hD : anyN (dnB xs t) (2 ^ W) = true
    · have hB : obB xs t (2 ^ W) = true := by
        unfold obB
        rw [hU, hD]
        rfl
      have eT : obT tk xs t (2 ^ W) = tk + 1 := if_pos hB
      rw [hD]
      refine am_run hX 5 _ _ _ _ ?_
      conv => whnf
      refine ⟨fun c => absurd c (by decide), fun _ => ?_⟩
      refine am_run hX 2 _ _ _ _ ?_
      conv => whnf
      refine ⟨fun c => absurd c (by decide), fun _ => ?_⟩
      refine am_run hX 4 _ _ _ _ ?_
      conv => whnf
      rw [rt]
      by_cases h64 : tk < 64
      · have eV : obV tape tk xs t (2 ^ W) = tbit tape tk := by
          unfold obV
          rw [if_pos hB, if_pos h64]
        refine ⟨fun c => absurd c (nI_ge (a := tk) (b := 64) h64 (by decide)), fun _ => ?_⟩
        refine am_run hX 16 _ _ _ _ ?_
        conv => whnf
        rw [rt, show (rF M (r108 (M.1 108) dn tk b gk) q o f (c5 g (2 ^ W) (fun j => red k (xs j)))).2 108 69 = tape from hT, tp_r h64, nI_1, rF_D, rF_108, r108_68]
        exact fin _ (Nat.mod_lt _ (by decide)) _ eV eT _ _
      · have eV : obV tape tk xs t (2 ^ W) = 0 := by
          unfold obV
          rw [if_pos hB, if_neg h64]
        refine ⟨fun _ => ?_, fun c => absurd (nI_le (a := 64) (by omega) (by omega)) c⟩
        refine am_run hX 8 _ _ _ _ ?_
        conv => whnf
        rw [rt, nI_1, rF_D, rF_108, r108_68]
        exact fin 0 (by decide) _ eV eT _ _
    · have hB : ¬ obB xs t (2 ^ W) = true := fun q => by
        unfold obB at q
        rw [hU, Bool.true_and] at q
        exact hD q
      rw [nt_f hD]
      refine am_run hX 5 _ _ _ _ ?_
      conv => whnf
      refine ⟨fun _ => ?_, fun c => absurd rfl c⟩
      exact fin 1 (by decide) _ (by unfold obV; rw [if_neg hB, if_pos hU]) (if_neg hB) _ _
  · have hB : ¬ obB xs t (2 ^ W) = true := fun q => by
      unfold obB at q
      rw [Bool.and_eq_true] at q
      exact hU q.1
    rw [nt_f hU]
    refine am_run hX 2 _ _ _ _ ?_
    conv => whnf
    refine ⟨fun _ => ?_, fun c => absurd rfl c⟩
    by_cases hD : anyN (dnB xs t) (2 ^ W) = true
    · rw [hD]
      refine am_run hX 4 _ _ _ _ ?_
      conv => whnf
      refine ⟨fun c => absurd c (by decide), fun _ => ?_⟩
      refine am_run hX 2 _ _ _ _ ?_
      conv => whnf
      refine ⟨fun _ => ?_, fun c => absurd rfl c⟩
      exact fin 0 (by decide) _ (by unfold obV; rw [if_neg hB, if_neg hU]) (if_neg hB) _ _
    · rw [nt_f hD]
      refine am_run hX 4 _ _ _ _ ?_
      conv => whnf
      refine ⟨fun _ => ?_, fun c => absurd rfl c⟩
      exact fin 0 (by decide) _ (by unfold obV; rw [if_neg hB, if_neg hU]) (if_neg hB) _ _
end ROB
