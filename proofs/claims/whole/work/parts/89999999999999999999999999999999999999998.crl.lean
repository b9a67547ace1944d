/-! circuit: the class reads a USE and lays it out -/
theorem iv_len (b : Bool) (R : List bk_X) : (ivL b R).length = R.length := by
  unfold ivL
  split
  · rw [List.length_map, List.length_reverse]
  · rfl
theorem iv_zt {R : List bk_X} {i : Nat} (hi : i < R.length) : zg (ivL true R) i = ivX (zg R (R.length - 1 - i)) := by
  show zg (R.reverse.map ivX) i = _
  unfold zg
  rw [List.getD_eq_getElem?_getD, List.getElem?_map, List.getElem?_reverse hi, List.getD_eq_getElem?_getD, List.getElem?_eq_getElem (show R.length - 1 - i < R.length by omega)]
  rfl
theorem ikk_8 : ∀ k, k ≤ 8 → ikN k ≤ 8 ∧ (ikN k = 8 ↔ k = 8) := by decide
theorem rg_iv {K : Nat} {x : bk_X} (h : rgX K x) : rgX K (ivX x) := by
  obtain ⟨h1, h2, h3, h4, h5⟩ := h
  obtain ⟨a, b⟩ := ikk_8 _ h1
  refine ⟨a, h2, ?_, h4, h5⟩
  show if ikN x.1 = 8 then x.2.2.1 < K else x.2.2.1 = 0
  by_cases q : x.1 = 8
  · rw [if_pos (b.mpr q)]
    rw [if_pos q] at h3
    exact h3
  · rw [if_neg (fun z => q (b.mp z))]
    rw [if_neg q] at h3
    exact h3
theorem rg_ad {K h : Nat} {g : Nat → Nat} {x : bk_X} {a : Nat × Nat} (hK : K ≤ 4) (hx : rgX K x) (hg : ∀ i, i < K → g i < 8) (hh : h < 256) (ha : a.1 < 16 ∧ a.2 < 16) : nI (bk_p (rnX g h x)) ||| nI (askN a) <<< ((18 : Int32) &&& 31) = nI (bk_p (adA a (rnX g h x))) := by
  obtain ⟨h1, h2, h3, h4, h5⟩ := hx
  have a0 : x.2.2.2.2.1 = 0 := by rw [h5]
  have a1 : x.2.2.2.2.2 = 0 := by rw [h5]
  have tb : ∀ i, x.2.2.2.1.testBit i = true → g i < 8 := by
    intro i hi
    by_cases q : i < K
    · exact hg i q
    · rw [Nat.testBit_lt_two_pow (Nat.lt_of_lt_of_le h4 (Nat.pow_le_pow_right (by decide) (by omega)))] at hi
      exact absurd hi (by decide)
  have ml := mpN_l tb 4
  have g1 := hg _ h2
  have g2 : (if x.1 = 8 then g x.2.2.1 else x.2.2.1) < 8 := by
    split
    · rename_i q
      rw [if_pos q] at h3
      exact hg _ h3
    · rename_i q
      rw [if_neg q] at h3
      omega
  have ol : h ||| mpM g x.2.2.2.1 < 256 := by
    rw [mpM_N g h4 hK]
    exact Nat.or_lt_two_pow (n := 8) hh ml
  have e : bk_p (rnX g h x) = x.1 + 16 * g x.2.1 + 128 * (if x.1 = 8 then g x.2.2.1 else x.2.2.1) + 1024 * (h ||| mpM g x.2.2.2.1) := by
    show x.1 + 16 * g x.2.1 + 128 * (if x.1 = 8 then g x.2.2.1 else x.2.2.1) + 1024 * (h ||| mpM g x.2.2.2.1) + 262144 * x.2.2.2.2.1 + 4194304 * x.2.2.2.2.2 = _
    rw [a0, a1]
    omega
  have e2 : bk_p (adA a (rnX g h x)) = x.1 + 16 * g x.2.1 + 128 * (if x.1 = 8 then g x.2.2.1 else x.2.2.1) + 1024 * (h ||| mpM g x.2.2.2.1) + 262144 * a.1 + 4194304 * a.2 := by
    show x.1 + 16 * g x.2.1 + 128 * (if x.1 = 8 then g x.2.2.1 else x.2.2.1) + 1024 * (h ||| mpM g x.2.2.2.1) + 262144 * (x.2.2.2.2.1 ||| a.1) + 4194304 * (x.2.2.2.2.2 ||| a.2) = _
    rw [a0, a1, Nat.zero_or, Nat.zero_or]
  rw [pk_ask (by omega) (ask_w ha), e, e2]
  unfold askN
  congr 1
  omega
section CRN
variable {d : Nat} {M : mm_M} {T : Nat → Nat} {t W : Nat} {c : CX} {s : GS}
set_option maxRecDepth 100000 in
theorem ct_layU {l h f K : Nat} {bk : Bool} {O R : List bk_X} {a : Nat × Nat} {g : Nat → Nat} (hl : l < 4) (h19 : M.1 2 19 = nI f ∧ f < 2 ^ 20) (h14 : M.1 2 14 = nI (askN a)) (ha : a.1 < 16 ∧ a.2 < 16) (h17 : M.1 2 17 = nI (h + bckN bk)) (hO : opC M O) (hG : f = 0 → h < 256 ∧ rtK M l R ∧ K ≤ 4 ∧ (∀ x ∈ R, rgX K x) ∧ ∀ i, i < K → M.1 8 i = nI (g i) ∧ g i < 8) : am_M (d + 3) false nm_X5_layUse [aR 2, aI (nI l)] M (fun r N => r = .inl (some (aI 1)) ∧ apF M N ∧ opC N (if f = 0 then O ++ ((ivL bk R).map (rnX g h)).map (adA a) else O)) := by
  refine ⟨rfl, rfl, rfl, fun X hX => am_run hX 4 _ _ _ _ ?_⟩
  conv => whnf
  refine ⟨vp_in_nI (by show l < 4; omega) (by decide), ?_⟩
  rw [nI_clamp (n := l) (by omega)]
  refine am_run hX 4 _ _ _ _ ?_
  conv => whnf
  rw [h19.1]
  by_cases f0 : f = 0
  · obtain ⟨h8, hR, hK, hx, hN⟩ := hG f0
    rw [f0, if_pos rfl] at hX
    rw [f0]
    refine ⟨fun _ => ?_, fun z => absurd rfl z⟩
    rw [hR.1]
    have len : (O ++ ((ivL bk R).map (rnX g h)).map (adA a)).length = O.length + R.length := by rw [List.length_append, List.length_map, List.length_map, iv_len]
    refine am_run hX 3 _ _ _ _ ?_
    conv => whnf
    by_cases big : 300 < R.length
    · refine ⟨fun z => absurd z (nI_ge (a := 300) (b := min R.length 301) (by omega) (by omega)), fun _ => ?_⟩
      refine am_run hX 5 _ _ _ _ ?_
      conv => whnf
      refine ⟨rfl, rfl, ⟨fun k q _ => mm_ne _ _ _ _ q, fun y hy => by rw [mm_i1, up_ne hy], rfl⟩, ?_, fun z => absurd z (by rw [len]; omega)⟩
      rw [mm_i1, up_at, len, show min (O.length + R.length) 301 = 301 by omega]
      rfl
    · have en : min R.length 301 = R.length := by omega
      rw [en]
      refine ⟨fun _ => ?_, fun z => absurd (nI_le (a := R.length) (b := 300) (by omega) (by decide)) z⟩
      have loop : ∀ (m i : Nat) (v5 : Option am_V) (N : mm_M), i + m = R.length → apF M N → opC N (O ++ (((ivL bk R).take i).map (rnX g h)).map (adA a)) → X 50 [some (aR 2), some (aI (nI l)), some (aI (nI R.length)), some (aI (b01 bk)), some (aI (nI i)), v5] [] N := by
        intro m
        induction m with
        | zero =>
          intro i v5 N hi F oN
          obtain rfl : i = R.length := by omega
          refine am_run hX 3 _ _ _ _ ?_
          conv => whnf
          refine ⟨fun _ => ?_, fun z => absurd (nI_le (Nat.le_refl _) (by omega)) z⟩
          refine am_run hX 2 _ _ _ _ ?_
          conv => whnf
          rw [List.take_of_length_le (by rw [iv_len]; omega)] at oN
          exact ⟨rfl, rfl, F, oN⟩
        | succ m ih =>
          intro i v5 N hi F oN
          refine am_run hX 3 _ _ _ _ ?_
          conv => whnf
          refine ⟨fun z => absurd z (nI_ge (by omega) (by omega)), fun _ => ?_⟩
          have e300 : nI l * 300 = nI (300 * l) := by rw [show (300 : Int32) = nI 300 from rfl, nI_mul, Nat.mul_comm]
          have xin : ∀ j, j < R.length → rgX K (zg R j) := fun j hj => hx _ (zg_mem hj)
          have key : ∀ (y : bk_X), rgX K y → zg (ivL bk R) i = y → ∀ v5, X 100 [some (aR 2), some (aI (nI l)), some (aI (nI R.length)), some (aI (b01 bk)), some (aI (nI i)), v5] [aI (nI (bk_p y)), aR 2, aR 2] N := by
            intro y hy ey v5
            refine am_run hX 1 _ _ _ _ ?_
            conv => whnf
            refine am_c1 (ct_ren (d := d) (M := N) (K := K) (h := h) (bk := bk) (f := g) hK hy (fun j hj => by rw [F.1 8 (by decide) (by decide)]; exact hN j hj) (by rw [F.2.1 17 (by decide)]; exact h17) h8) ?_
            refine am_run hX 1 _ _ _ _ ?_
            conv => whnf
            refine am_cq (ct_app0 (d := d + 1) (M := N) (x := adA a (rnX g h y)) (by rw [F.2.1 19 (by decide), h19.1, f0]; rfl) (by rw [F.2.1 14 (by decide)]; exact h14) (rg_ad hK hy (fun j hj => (hN j hj).2) h8 ha) oN) ?_
            rintro r1 N1 ⟨rfl, f1, o1⟩
            refine ⟨_, rfl, ?_⟩
            refine am_run hX 2 _ _ _ _ ?_
            conv => whnf
            rw [nI_1]
            refine ih (i + 1) v5 N1 (by omega) (apF_t F f1) ?_
            rw [zg_tk (by rw [iv_len]; omega), ey, List.map_append, List.map_append, ← List.append_assoc]
            exact o1
          refine am_run hX 7 _ _ _ _ ?_
          conv => whnf
          rw [e300]
          cases hb : bk with
          | true =>
            rw [hb] at key
            refine ⟨fun z => absurd z (by decide), fun _ => ?_⟩
            refine am_run hX 8 _ _ _ _ ?_
            conv => whnf
            rw [show (1 : Int32) = nI 1 from rfl, nI_sub (by omega), nI_sub (by omega), nI_add]
            refine ⟨vp_in_nI (by show _ < 1200; omega) (by decide), ?_⟩
            rw [nI_clamp (n := 300 * l + (R.length - 1 - i)) (by omega), F.1 4 (by decide) (by decide), hR.2 (by omega) (R.length - 1 - i) (by omega)]
            refine am_run hX 5 _ _ _ _ ?_
            conv => whnf
            refine ⟨fun z => absurd z (by decide), fun _ => ?_⟩
            refine am_run hX 2 _ _ _ _ ?_
            conv => whnf
            refine am_c1 (ct_iv (d := d) (W := 8) (by decide) (rg_b (xin (R.length - 1 - i) (by omega)) hK)) ?_
            refine am_run hX 1 _ _ _ _ ?_
            conv => whnf
            exact key _ (rg_iv (xin (R.length - 1 - i) (by omega))) (iv_zt (by omega)) _
          | false =>
            rw [hb] at key
            refine ⟨fun _ => ?_, fun z => absurd rfl z⟩
            refine am_run hX 3 _ _ _ _ ?_
            conv => whnf
            rw [nI_add]
            refine ⟨vp_in_nI (by show _ < 1200; omega) (by decide), ?_⟩
            rw [nI_clamp (n := 300 * l + i) (by omega), F.1 4 (by decide) (by decide), hR.2 (by omega) i (by omega)]
            refine am_run hX 5 _ _ _ _ ?_
            conv => whnf
            refine ⟨fun _ => ?_, fun z => absurd rfl z⟩
            refine am_run hX 1 _ _ _ _ ?_
            conv => whnf
            exact key _ (xin i (by omega)) rfl _
      have start := loop R.length 0 none M (by omega) (apF_r M) (by rw [List.take_zero]; show opC M (O ++ []); rw [List.append_nil]; exact hO)
      refine am_run hX 4 _ _ _ _ ?_
      conv => whnf
      rw [h17, show (65536 : Int32) = nI 65536 from rfl]
      cases hb : bk with
      | true =>
        rw [hb] at start
        refine ⟨fun z => absurd z (nI_nlt (by show 65536 ≤ h + 65536; omega) (by show h + 65536 < _; omega)), fun _ => ?_⟩
        refine am_run hX 5 _ _ _ _ ?_
        conv => whnf
        exact start
      | false =>
        rw [hb] at start
        refine ⟨fun _ => ?_, fun z => absurd (nI_lt (by show h + 0 < 65536; omega) (by decide)) z⟩
        refine am_run hX 4 _ _ _ _ ?_
        conv => whnf
        exact start
  · refine ⟨fun z => absurd z (nI_ne0 (n := f) (by omega) (by omega)), fun _ => ?_⟩
    refine am_run hX 2 _ _ _ _ ?_
    conv => whnf
    refine ⟨rfl, rfl, apF_r M, ?_⟩
    rw [if_neg f0]
    exact hO
end CRN
