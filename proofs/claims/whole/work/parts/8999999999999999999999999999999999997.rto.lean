/-! ROUTE: the class's spreadNeed -/
def NKn : Nat := 1073741824
def nrw (N : mm_M) (W : Nat) (g : Nat → Nat) : Prop := ∀ r, r < cnW W → N.1 76 r = nI (g r) ∧ g r ≤ NKn
def snF (M N : mm_M) : Prop := (∀ k, k ≠ 76 → N.1 k = M.1 k) ∧ N.2 = M.2
theorem snF_r (M : mm_M) : snF M M := ⟨fun _ _ => rfl, rfl⟩
theorem snF_t {M N K : mm_M} (h : snF M N) (g : snF N K) : snF M K := ⟨fun k a => (g.1 k a).trans (h.1 k a), g.2.trans h.2⟩
def isN (g : Nat → Nat) (r : Nat) : Bool := decide (g r = NKn)
/-- the row while it spreads -/
def spr (W : Nat) (Lk : Nat → Nat → Bool) (q : Nat) (g0 g : Nat → Nat) (R T F : Nat) : Prop := (∀ r, r < cnW W → g r = g0 r ∨ (g0 r = NKn ∧ g r = q + 1 ∧ ∃ r1 t, r1 < cnW W ∧ t < 15 ∧ g0 r1 = q ∧ nbR W Lk r1 t = r)) ∧ (∀ r1 t, r1 < cnW W → t < 15 → g0 r1 = q → (r1 < R ∨ (r1 = R ∧ t < T)) → g (nbR W Lk r1 t) ≠ NKn) ∧ ctQ (isN g0) (cnW W) = ctQ (isN g) (cnW W) + F
section RTO
variable {d : Nat} {M : mm_M} {W : Nat} {Lk : Nat → Nat → Bool} {q : Nat} {g0 : Nat → Nat}
theorem spr_q {g : Nat → Nat} {R T F r : Nat} (hq : q < 1000) (h : spr W Lk q g0 g R T F) (hr : r < cnW W) : g r = q ↔ g0 r = q := by
  rcases h.1 r hr with e | ⟨e1, e2, _⟩
  · rw [e]
  · rw [e1, e2]
    unfold NKn
    omega
set_option maxRecDepth 100000 in
theorem sn_j {P : am_Q} {X : am_X} {R w : Nat} (hX : am_K d false nm_X7_spreadNeed P X) (hW : W ≤ 6) (hq : q < 1000) (hR : R < cnW W) (hw : w < 3) (hgR : g0 R = q) (hK : ∀ N g F v6 v8 v9, snF M N → nrw N W g → spr W Lk q g0 g R (5 * w + 5) F → X 104 [some (aR 70), some (aI (nI q)), some (aI (nI (cnW W))), some (aI (nI F)), some (aI (nI R)), some (aI (nI w)), v6, none, v8, v9] [] N) : ∀ (m j : Nat) (N : mm_M) (g : Nat → Nat) (F : Nat) (v9 : Option am_V), j + m = 5 → snF M N → nrw N W g → spr W Lk q g0 g R (5 * w + j) F → X 51 [some (aR 70), some (aI (nI q)), some (aI (nI (cnW W))), some (aI (nI F)), some (aI (nI R)), some (aI (nI w)), some (aJ (nJ (pkN (nbS W Lk R w) 5 / 2 ^ (12 * j)))), none, some (aI (nI j)), v9] [] N := by
  have c7 := (cnW_7 W (by omega)).1
  have hl := pkN_l (nbS_l (Lk := Lk) hW hR hw) 5
  intro m
  induction m with
  | zero =>
    intro j N g F v9 hj hF hN hS
    obtain rfl : j = 5 := by omega
    refine am_run hX 3 _ _ _ _ ?_
    conv => whnf
    exact ⟨fun _ => hK N g F _ _ _ hF hN hS, fun z => absurd (by decide) z⟩
  | succ m ih =>
    intro j N g F v9 hj hF hN hS
    have j5 : j < 5 := by omega
    have t15 : 5 * w + j < 15 := by omega
    have ee := pkN_e (nbS_l (Lk := Lk) hW hR hw) (i := j) 5 j5
    have es : nbS W Lk R w j = nbR W Lk R (5 * w + j) := by unfold nbS; rw [if_pos j5]
    have xl := nbR_l (Lk := Lk) hW hR t15
    have hA : pkN (nbS W Lk R w) 5 / 2 ^ (12 * j) < 2 ^ 63 := Nat.lt_of_le_of_lt (Nat.div_le_self _ _) (by omega)
    have eA : pkN (nbS W Lk R w) 5 / 2 ^ (12 * j) / 2 ^ 12 = pkN (nbS W Lk R w) 5 / 2 ^ (12 * (j + 1)) := by
      rw [Nat.div_div_eq_div_mul, ← Nat.pow_add]
      rfl
    generalize hx : nbR W Lk R (5 * w + j) = x at *
    have e1 : (nJ (pkN (nbS W Lk R w) 5 / 2 ^ (12 * j))).toInt32 &&& 4095 = nI x := by
      rw [nJ_32, show (4095 : Int32) = nI 4095 from rfl, nI_and, show (4095 : Nat) = 2 ^ 12 - 1 from rfl, Nat.and_two_pow_sub_one_eq_mod, show (2 : Nat) ^ 12 = 4096 from rfl, ee, es]
    obtain ⟨n1, n2⟩ := hN x xl
    have n2' : g x ≤ 1073741824 := n2
    have back : ∀ (N' : mm_M) (g' : Nat → Nat) (F' : Nat), snF M N' → nrw N' W g' → spr W Lk q g0 g' R (5 * w + (j + 1)) F' → X 98 [some (aR 70), some (aI (nI q)), some (aI (nI (cnW W))), some (aI (nI F')), some (aI (nI R)), some (aI (nI w)), some (aJ (nJ (pkN (nbS W Lk R w) 5 / 2 ^ (12 * (j + 1))))), none, some (aI (nI j)), some (aI (nI x))] [] N' := by
      intro N' g' F' a b c
      refine am_run hX 2 _ _ _ _ ?_
      conv => whnf
      rw [nI_1]
      exact ih (j + 1) N' g' F' _ (by omega) a b c
    refine am_run hX 3 _ _ _ _ ?_
    conv => whnf
    refine ⟨fun z => absurd z (nI_ge (a := j) (b := 5) j5 (by decide)), fun _ => ?_⟩
    refine am_run hX 9 _ _ _ _ ?_
    conv => whnf
    rw [e1, show ((12 : Int32).toInt64 &&& 63) = ((nI 12).toInt64 &&& 63) from rfl, nJ_sr hA (by decide), eA]
    refine am_run hX 6 _ _ _ _ ?_
    conv => whnf
    refine ⟨vp_in_nI (by show x < 720; omega) (by decide), ?_⟩
    conv => whnf
    rw [nI_clamp (n := x) (by omega), n1, show (1073741824 : Int32) = nI 1073741824 from rfl, nI_eq (by omega) (by decide)]
    refine ⟨fun z => ?_, fun z => ?_⟩
    · refine back N g F hF hN ⟨hS.1, fun r1 t a b c e => ?_, hS.2.2⟩
      by_cases k : r1 = R ∧ t = 5 * w + j
      · rw [k.1, k.2, hx]
        exact z
      · exact hS.2.1 r1 t a b c (by omega)
    · have z : g x = NKn := Decidable.byContradiction z
      refine am_run hX 7 _ _ _ _ ?_
      conv => whnf
      refine ⟨vp_in_nI (by show x < 720; omega) (by decide), ?_⟩
      rw [nI_clamp (n := x) (by omega), nI_1]
      generalize hN1 : mm_i N 76 _ = N1
      refine am_run hX 1 _ _ _ _ ?_
      conv => whnf
      rw [nI_1]
      have U : ∀ r, (if r = x then q + 1 else g r) = upN g x (q + 1) r := fun r => rfl
      refine back N1 (upN g x (q + 1)) (F + 1) (snF_t hF ⟨fun k hk => by rw [← hN1, mm_ne _ _ _ _ hk], by rw [← hN1]; rfl⟩) (fun r hr => ?_) ⟨fun r hr => ?_, fun r1 t a b c e => ?_, ?_⟩
      · rw [← hN1, mm_i1]
        unfold upN
        by_cases k : r = x
        · rw [k, up_at, if_pos rfl]
          exact ⟨rfl, by unfold NKn; omega⟩
        · rw [up_ne k, if_neg k]
          exact hN r hr
      · unfold upN
        by_cases k : r = x
        · rw [if_pos k]
          refine Or.inr ⟨?_, rfl, R, 5 * w + j, hR, t15, hgR, by rw [hx, k]⟩
          rw [k]
          rcases hS.1 x xl with e | ⟨e, _⟩
          · rw [← e]
            exact z
          · exact e
        · rw [if_neg k]
          exact hS.1 r hr
      · unfold upN
        by_cases k : nbR W Lk r1 t = x
        · rw [if_pos k]
          unfold NKn
          omega
        · rw [if_neg k]
          refine hS.2.1 r1 t a b c ?_
          by_cases k2 : r1 = R ∧ t = 5 * w + j
          · rw [k2.1, k2.2, hx] at k
            exact absurd rfl k
          · omega
      · have := ctQ_u (P := isN g) (Q := isN (upN g x (q + 1))) (x := x) (decide_eq_true z) (by
          unfold isN upN
          rw [if_pos rfl]
          exact decide_eq_false (by unfold NKn; omega)) (fun r hr => by
          unfold isN upN
          rw [if_neg hr]) (cnW W) xl
        have h3 := hS.2.2
        omega
set_option maxRecDepth 100000 in
theorem snd_w {P : am_Q} {X : am_X} {R : Nat} (hX : am_K d false nm_X7_spreadNeed P X) (hW : W ≤ 6) (hq : q < 1000) (hR : R < cnW W) (hgR : g0 R = q) (hB : nbM M W Lk (cnW W)) (hK : ∀ N g F v5 v6 v8 v9, snF M N → nrw N W g → spr W Lk q g0 g (R + 1) 0 F → X 110 [some (aR 70), some (aI (nI q)), some (aI (nI (cnW W))), some (aI (nI F)), some (aI (nI R)), v5, v6, none, v8, v9] [] N) : ∀ (m w : Nat) (N : mm_M) (g : Nat → Nat) (F : Nat) (v6 v8 v9 : Option am_V), w + m = 3 → snF M N → nrw N W g → spr W Lk q g0 g R (5 * w) F → X 28 [some (aR 70), some (aI (nI q)), some (aI (nI (cnW W))), some (aI (nI F)), some (aI (nI R)), some (aI (nI w)), v6, none, v8, v9] [] N := by
  have c7 := (cnW_7 W (by omega)).1
  intro m
  induction m with
  | zero =>
    intro w N g F v6 v8 v9 hw hF hN hS
    obtain rfl : w = 3 := by omega
    refine am_run hX 3 _ _ _ _ ?_
    conv => whnf
    exact ⟨fun _ => hK N g F _ _ _ _ hF hN ⟨hS.1, fun r1 t a b c e => hS.2.1 r1 t a b c (by omega), hS.2.2⟩, fun z => absurd (by decide) z⟩
  | succ m ih =>
    intro w N g F v6 v8 v9 hw hF hN hS
    have w3 : w < 3 := by omega
    refine am_run hX 3 _ _ _ _ ?_
    conv => whnf
    refine ⟨fun z => absurd z (nI_ge (a := w) (b := 3) w3 (by decide)), fun _ => ?_⟩
    refine am_run hX 11 _ _ _ _ ?_
    conv => whnf
    rw [show (3 : Int32) * nI R + nI w = nI (3 * R + w) from by rw [show (3 : Int32) = nI 3 from rfl, nI_mul, nI_add]]
    refine ⟨vp_in_nI (by show _ < 2160; omega) (by decide), ?_⟩
    conv => whnf
    rw [nI_clamp (n := 3 * R + w) (by omega), hF.2, hB R w hR w3, nbS_e]
    have key := sn_j (M := M) (R := R) (w := w) hX hW hq hR w3 hgR (fun N' g' F' v6' v8' v9' a b c => by
      refine am_run hX 2 _ _ _ _ ?_
      conv => whnf
      rw [nI_1]
      exact ih (w + 1) N' g' F' _ _ _ (by omega) a b c) 5 0 N g F v9 (by omega) hF hN hS
    rw [show 2 ^ (12 * 0) = 1 from rfl, Nat.div_one] at key
    exact key
set_option maxRecDepth 100000 in
theorem sn_r {P : am_Q} {X : am_X} (hX : am_K d false nm_X7_spreadNeed P X) (hW : W ≤ 6) (hq : q < 1000) (hB : nbM M W Lk (cnW W)) (hP : ∀ N g F, snF M N → nrw N W g → spr W Lk q g0 g (cnW W) 0 F → P (.inl (some (aI (nI F)))) N) : ∀ (m R : Nat) (N : mm_M) (g : Nat → Nat) (F : Nat) (v5 v6 v8 v9 : Option am_V), R + m = cnW W → snF M N → nrw N W g → spr W Lk q g0 g R 0 F → X 5 [some (aR 70), some (aI (nI q)), some (aI (nI (cnW W))), some (aI (nI F)), some (aI (nI R)), v5, v6, none, v8, v9] [] N := by
  have c7 := (cnW_7 W (by omega)).1
  intro m
  induction m with
  | zero =>
    intro R N g F v5 v6 v8 v9 hR hF hN hS
    obtain rfl : R = cnW W := by omega
    refine am_run hX 3 _ _ _ _ ?_
    conv => whnf
    refine ⟨fun _ => ?_, fun z => absurd (nI_le (Nat.le_refl _) (by omega)) z⟩
    refine am_run hX 2 _ _ _ _ ?_
    conv => whnf
    exact ⟨trivial, hP N g F hF hN hS⟩
  | succ m ih =>
    intro R N g F v5 v6 v8 v9 hR hF hN hS
    have rr : R < cnW W := by omega
    obtain ⟨n1, n2⟩ := hN R rr
    have n2 : g R ≤ 1073741824 := n2
    have next : ∀ N' g' F' v5' v6' v8' v9', snF M N' → nrw N' W g' → spr W Lk q g0 g' (R + 1) 0 F' → X 110 [some (aR 70), some (aI (nI q)), some (aI (nI (cnW W))), some (aI (nI F')), some (aI (nI R)), v5', v6', none, v8', v9'] [] N' := by
      intro N' g' F' v5' v6' v8' v9' a b c
      refine am_run hX 2 _ _ _ _ ?_
      conv => whnf
      rw [nI_1]
      exact ih (R + 1) N' g' F' _ _ _ _ (by omega) a b c
    refine am_run hX 3 _ _ _ _ ?_
    conv => whnf
    refine ⟨fun z => absurd z (nI_ge (by omega) (by omega)), fun _ => ?_⟩
    refine am_run hX 6 _ _ _ _ ?_
    conv => whnf
    refine ⟨vp_in_nI (by show R < 720; omega) (by decide), ?_⟩
    conv => whnf
    rw [nI_clamp (n := R) (by omega), n1, nI_eq (by omega) (by omega), spr_q hq hS rr]
    refine ⟨fun z => ?_, fun z => ?_⟩
    · refine am_run hX 2 _ _ _ _ ?_
      conv => whnf
      exact snd_w (M := M) (R := R) hX hW hq rr z hB next 3 0 N g F _ _ _ (by omega) hF hN hS
    · refine am_run hX 1 _ _ _ _ ?_
      conv => whnf
      refine next N g F _ _ _ _ hF hN ⟨hS.1, fun r1 t a b c e => hS.2.1 r1 t a b c ?_, hS.2.2⟩
      rcases e with e | e
      · by_cases k : r1 = R
        · rw [k] at c
          exact absurd c z
        · exact Or.inl (by omega)
      · omega
set_option maxRecDepth 100000 in
theorem ct_spN (hW : W ≤ 6) (hq : q < 1000) (hB : nbM M W Lk (cnW W)) (hN : nrw M W g0) : am_M (d + 1) false nm_X7_spreadNeed [aR 70, aI (nI q), aI (nI (cnW W))] M (fun r N => ∃ g F, r = .inl (some (aI (nI F))) ∧ snF M N ∧ nrw N W g ∧ spr W Lk q g0 g (cnW W) 0 F) := by
  refine ⟨rfl, rfl, rfl, fun X hX => am_run hX 4 _ _ _ _ ?_⟩
  conv => whnf
  exact sn_r (M := M) hX hW hq hB (fun N g F a b c => ⟨g, F, rfl, a, b, c⟩) (cnW W) 0 M g0 0 _ _ _ _ (by omega) (snF_r M) hN ⟨fun r _ => Or.inl rfl, fun r1 t a b c e => by omega, rfl⟩
end RTO
