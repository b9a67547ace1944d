/-! code: the class's tables -/
theorem or_256 {a b c e : Nat} (ha : a < 256) (hc : c < 256) : (a + 256 * b) ||| (c + 256 * e) = (a ||| c) + 256 * (b ||| e) := by
  have m1 : (a + 256 * b) % 2 ^ 8 = a := by omega
  have m2 : (a + 256 * b) / 2 ^ 8 = b := by omega
  have m3 : (c + 256 * e) % 2 ^ 8 = c := by omega
  have m4 : (c + 256 * e) / 2 ^ 8 = e := by omega
  rw [← Nat.mod_add_div ((a + 256 * b) ||| (c + 256 * e)) (2 ^ 8), Nat.or_mod_two_pow, Nat.or_div_two_pow, m1, m2, m3, m4]
/-- the x's (the z's) of so many digits -/
def vcN (h : Nat → Nat) (n g f : Nat) : Nat → Nat
  | 0 => 0
  | i + 1 => vcN h n g f i ||| (if f + i < n then h (g / 4 ^ i % 4) * 2 ^ (n - 1 - f - i) else 0)
theorem vcN_l {h : Nat → Nat} {n g f : Nat} (hh : ∀ k, h k ≤ 1) (hn : n ≤ 8) : ∀ i, vcN h n g f i < 256
  | 0 => by show 0 < 256; decide
  | i + 1 => by
    have h1 := vcN_l (g := g) (f := f) hh hn i
    unfold vcN
    refine Nat.or_lt_two_pow (n := 8) h1 ?_
    split
    · have h2 := Nat.mul_le_mul_right (2 ^ (n - 1 - f - i)) (hh (g / 4 ^ i % 4))
      have h3 : 2 ^ (n - 1 - f - i) ≤ 2 ^ 7 := Nat.pow_le_pow_right (by decide) (by omega)
      omega
    · decide
theorem vw_w : ∀ n, n ≤ 8 → ∀ f, f ≤ 4 → ∀ i, i < 4 → (f + i < n → nI n - 1 - nI f - nI i = nI (n - 1 - f - i)) ∧ (¬ f + i < n → nI n - 1 - nI f - nI i < 0) := by decide +kernel
section TKO
variable {d : Nat} {M : mm_M}
set_option maxRecDepth 100000 in
theorem vo_l {P : am_Q} {X : am_X} {n g f : Nat} (hX : am_K (d + 1) false nm_X3_vectorOf P X) (hn : n ≤ 8) (hf : f ≤ 4) (hg : g < 256) (h10 : M.1 46 10 = nI n) (hP : P (.inl (some (aI (nI (vcN cpX n g f 4 + 256 * vcN cpZ n g f 4))))) M) : ∀ (m i : Nat) (l5 : Option am_V), i + m = 4 → (∀ v, l5 = some v → ∃ z, v = aI z) → X 5 [some (aR 46), some (aI (nI g)), some (aI (nI f)), some (aI (nI (vcN cpX n g f i + 256 * vcN cpZ n g f i))), some (aI (nI i)), l5] [] M := by
  intro m
  induction m with
  | zero =>
    intro i l5 ei _
    obtain rfl : i = 4 := by omega
    refine am_run hX 5 _ _ _ _ ?_
    conv => whnf
    refine ⟨fun _ => ?_, fun c => absurd (by decide) c⟩
    conv => whnf
    exact ⟨trivial, hP⟩
  | succ m ih =>
    intro i l5 ei hl5
    have hx := vcN_l (h := cpX) (n := n) (g := g) (f := f) cpX_1 hn i
    have hz := vcN_l (h := cpZ) (n := n) (g := g) (f := f) cpZ_1 hn i
    obtain ⟨w1, w2⟩ := vw_w n hn f hf i (by omega)
    refine am_run hX 15 _ _ _ _ ?_
    conv => whnf
    refine ⟨fun c => absurd c (nI_ge (a := i) (b := 4) (by omega) (by decide)), fun _ => ?_⟩
    conv => whnf
    rw [h10]
    by_cases hw : f + i < n
    · rw [w1 hw]
      refine ⟨fun c => absurd c (nI_pos (by omega)), fun _ => ?_⟩
      have hd4 : g / 4 ^ i % 4 < 4 := Nat.mod_lt _ (by decide)
      have h1 := cpX_1 (g / 4 ^ i % 4)
      have h2 := cpZ_1 (g / 4 ^ i % 4)
      have h3 : 2 ^ (n - 1 - f - i) ≤ 2 ^ 7 := Nat.pow_le_pow_right (by decide) (by omega)
      have h4 : (cpX (g / 4 ^ i % 4) + 256 * cpZ (g / 4 ^ i % 4)) * 2 ^ (n - 1 - f - i) = cpX (g / 4 ^ i % 4) * 2 ^ (n - 1 - f - i) + 256 * (cpZ (g / 4 ^ i % 4) * 2 ^ (n - 1 - f - i)) := by rw [Nat.add_mul, Nat.mul_assoc]
      have h5 := Nat.mul_le_mul_right (2 ^ (n - 1 - f - i)) h1
      have h6 := Nat.mul_le_mul_right (2 ^ (n - 1 - f - i)) h2
      have ih := ih (i + 1) (some (aI (nI (n - 1 - f - i)))) (by omega) (fun v e => ⟨_, (Option.some.inj e).symm⟩)
      simp only [vcN, if_pos hw] at ih
      refine am_run hX 15 _ _ _ _ ?_
      conv => whnf
      rw [show (2 : Int32) * nI i = nI (2 * i) from by rw [show (2 : Int32) = nI 2 from rfl, nI_mul], nI_sh (by omega) (2 * i) (by omega), nI_m3, show 2 ^ (2 * i) = 4 ^ i from by rw [Nat.pow_mul]]
      refine am_c1 (ct_vd (d := d) hd4) ?_
      conv => whnf
      rw [nI_shl (by omega) (by rw [h4]; omega), h4, nI_or, or_256 hx (by omega), nI_1]
      exact ih
    · refine ⟨fun _ => ?_, fun c => absurd (w2 hw) c⟩
      have ih := ih (i + 1) (some (aI (nI n - 1 - nI f - nI i))) (by omega) (fun v e => ⟨_, (Option.some.inj e).symm⟩)
      simp only [vcN, if_neg hw, Nat.or_zero] at ih
      refine am_run hX 5 _ _ _ _ ?_
      conv => whnf
      rw [show ∀ v : Nat, nI v ||| 0 = nI v from fun v => by rw [show (0 : Int32) = nI 0 from rfl, nI_or, Nat.or_zero], nI_1]
      exact ih
set_option maxRecDepth 100000 in
theorem ct_vecO {n g f : Nat} (hn : n ≤ 8) (hf : f ≤ 4) (hg : g < 256) (h10 : M.1 46 10 = nI n) : am_M (d + 2) false nm_X3_vectorOf [aR 46, aI (nI g), aI (nI f)] M (am_q1 (aI (nI (vcN cpX n g f 4 + 256 * vcN cpZ n g f 4))) M) := by
  refine ⟨rfl, rfl, rfl, fun X hX => am_run hX 4 _ _ _ _ ?_⟩
  conv => whnf
  exact vo_l (d := d) hX hn hf hg h10 ⟨rfl, rfl⟩ 4 0 none (by omega) (fun v e => by cases e)
/-- the reducers, one behind another -/
def rdT (V : Nat → Nat) : Nat → Nat → Nat
  | 0 => fun _ => 0
  | k + 1 => fun j => if j = k then rdV (rdT V k) (V k) k else rdT V k j
theorem rdT_s {V : Nat → Nat} {j : Nat} : ∀ {k : Nat}, j < k → rdT V k j = rdT V (j + 1) j
  | 0, h => absurd h (Nat.not_lt_zero _)
  | k + 1, h => by
    by_cases e : j = k
    · subst e; rfl
    · show (if j = k then _ else rdT V k j) = _
      rw [if_neg e]
      exact rdT_s (by omega)
theorem rdT_r {V : Nat → Nat} {s j : Nat} (h : j < s) : rdT V s j = rdV (rdT V s) (V j) j := by
  rw [rdT_s h]
  show (if j = j then rdV (rdT V j) (V j) j else _) = _
  rw [if_pos rfl]
  exact rdV_c (fun i hi => by rw [rdT_s hi, rdT_s (show i < s by omega)])
theorem rdT_l {V : Nat → Nat} {s : Nat} (hV : ∀ j, j < s → V j < 65536) : ∀ k, k ≤ s → ∀ j, rdT V k j < 65536
  | 0, _, _ => by show 0 < 65536; decide
  | k + 1, h, j => by
    have ih := rdT_l hV k (by omega)
    show (if j = k then rdV (rdT V k) (V k) k else rdT V k j) < 65536
    split
    · exact rdV_l (hV k (by omega)) (fun i _ => ih i)
    · exact ih j
/-- what takeOver may change -/
def toF (M N : mm_M) : Prop := (∀ k, k ≠ 46 → k ≠ 47 → k ≠ 48 → k ≠ 51 → k ≠ 52 → N.1 k = M.1 k) ∧ N.2 = M.2 ∧ ∀ y, y ≠ 10 → y ≠ 11 → y ≠ 17 → N.1 46 y = M.1 46 y
set_option maxRecDepth 100000 in
theorem to_1 {P : am_Q} {X : am_X} {x z : Nat → Nat} {n s : Nat} (hX : am_K (d + 4) false nm_X3_takeOver P X) (hs : s ≤ 8) (hV : cgV M x z s) (hk : ∀ N, toF M N → N.1 46 10 = nI n → N.1 46 11 = nI s → N.1 46 17 = 0 → (∀ j, j < s → N.1 47 j = nI (x j + 256 * z j) ∧ N.1 48 j = nI (rdT (fun j => x j + 256 * z j) s j)) → X 66 [some (aR 46), some (aI (nI s)), none, none] [] N) : ∀ (m i : Nat) (N : mm_M), i + m = s → toF M N → N.1 46 10 = nI n → N.1 46 11 = nI s → N.1 46 17 = 0 → (∀ j, j < i → N.1 47 j = nI (x j + 256 * z j) ∧ N.1 48 j = nI (rdT (fun j => x j + 256 * z j) i j)) → X 23 [some (aR 46), some (aI (nI i)), none, none] [] N := by
  have hV6 : ∀ j, j < s → x j + 256 * z j < 65536 := fun j hj => by
    have := hV j hj
    omega
  intro m
  induction m with
  | zero =>
    intro i N ei hF h10 h11 h17 h
    obtain rfl : i = s := by omega
    refine am_run hX 4 _ _ _ _ ?_
    conv => whnf
    rw [h11]
    exact ⟨fun _ => hk N hF h10 h11 h17 h, fun c => absurd (nI_le (Nat.le_refl _) (by omega)) c⟩
  | succ m ih =>
    intro i N ei hF h10 h11 h17 h
    have e49 : N.1 49 i = nI (x i + 256 * z i) := by
      rw [hF.1 49 (by decide) (by decide) (by decide) (by decide) (by decide)]
      exact (hV i (by omega)).1
    refine am_run hX 25 _ _ _ _ ?_
    conv => whnf
    rw [h11]
    refine ⟨fun c => absurd c (nI_ge (by omega) (by omega)), fun _ => ?_⟩
    conv => whnf
    refine ⟨vp_in_nI (by show i < 8; omega) (by decide), ?_⟩
    conv => whnf
    refine ⟨vp_in_nI (by show i < 8; omega) (by decide), ?_⟩
    conv => whnf
    rw [nI_clamp (n := i) (by omega), e49]
    generalize hN1 : mm_i N 47 (upd (N.1 47) i (nI (x i + 256 * z i))) = N1
    have a49 : N1.1 49 i = nI (x i + 256 * z i) := by rw [← hN1]; exact e49
    have a48 : N1.1 48 = N.1 48 := by rw [← hN1]; exact mm_ne _ _ _ _ (by decide)
    refine ⟨vp_in_nI (by show i < 8; omega) (by decide), ?_⟩
    conv => whnf
    rw [a49]
    refine am_c1 (ct_rdu (d := d + 3) (M := N1) (R := rdT (fun j => x j + 256 * z j) i) (by omega) (hV6 i (by omega)) (fun j hj => ⟨by rw [a48]; exact (h j hj).2, rdT_l hV6 i (by omega) j⟩)) ?_
    conv => whnf
    refine ⟨vp_in_nI (by show i < 8; omega) (by decide), ?_⟩
    conv => whnf
    rw [nI_clamp (n := i) (by omega), nI_1]
    generalize hN2 : mm_i N1 48 (upd (N1.1 48) i (nI (rdV (rdT (fun j => x j + 256 * z j) i) (x i + 256 * z i) i))) = N2
    have b46 : N2.1 46 = N.1 46 := by rw [← hN2, mm_ne _ _ _ _ (by decide), ← hN1, mm_ne _ _ _ _ (by decide)]
    refine ih (i + 1) N2 (by omega) ⟨fun k a b c e f => ?_, ?_, fun y a b c => ?_⟩ (by rw [b46]; exact h10) (by rw [b46]; exact h11) (by rw [b46]; exact h17) (fun j hj => ?_)
    · rw [← hN2, mm_ne _ _ _ _ c, ← hN1, mm_ne _ _ _ _ b]
      exact hF.1 k a b c e f
    · rw [← hN2, ← hN1]
      exact hF.2.1
    · rw [b46]
      exact hF.2.2 y a b c
    · have c47 : N2.1 47 = upd (N.1 47) i (nI (x i + 256 * z i)) := by rw [← hN2, mm_ne _ _ _ _ (by decide), ← hN1, mm_i1]
      have c48 : N2.1 48 = upd (N.1 48) i (nI (rdV (rdT (fun j => x j + 256 * z j) i) (x i + 256 * z i) i)) := by rw [← hN2, mm_i1, a48]
      rw [c47, c48]
      unfold upd
      by_cases hji : j = i
      · subst hji
        refine ⟨if_pos rfl, ?_⟩
        rw [if_pos rfl]
        show _ = nI (if j = j then _ else _)
        rw [if_pos rfl]
      · rw [if_neg hji, if_neg hji]
        refine ⟨(h j (by omega)).1, ?_⟩
        rw [(h j (by omega)).2]
        show _ = nI (if j = i then _ else _)
        rw [if_neg hji]
/-- a table's entry -/
def tbS (x z : Nat → Nat) (n s g f : Nat) : Nat := fsY x z (vcN cpX n g f 4) (vcN cpZ n g f 4) s
def tbR (x z : Nat → Nat) (n s g f : Nat) : Nat := rdV (rdT (fun j => x j + 256 * z j) s) (vcN cpX n g f 4 + 256 * vcN cpZ n g f 4) s
/-- what stands while the tables are made -/
def toI (M N : mm_M) (x z : Nat → Nat) (n s k : Nat) : Prop := toF M N ∧ N.1 46 10 = nI n ∧ N.1 46 11 = nI s ∧ N.1 46 17 = 0 ∧ (∀ j, j < s → N.1 47 j = nI (x j + 256 * z j) ∧ N.1 48 j = nI (rdT (fun j => x j + 256 * z j) s j)) ∧ ∀ j, j < k → N.1 51 j = nI (tbS x z n s (j % 256) (4 * (j / 256))) ∧ N.1 52 j = nI (tbR x z n s (j % 256) (4 * (j / 256)))
set_option maxRecDepth 100000 in
theorem to_2 {P : am_Q} {X : am_X} {x z : Nat → Nat} {n s b : Nat} (hX : am_K (d + 4) false nm_X3_takeOver P X) (hn : n ≤ 8) (hs : s ≤ 8) (hb : b < 2) (hV : cgV M x z s) (hk : ∀ N l3, toI M N x z n s (256 * b + 256) → X 135 [some (aR 46), some (aI (nI b)), some (aI (nI 256)), l3] [] N) : ∀ (m i : Nat) (N : mm_M) (l3 : Option am_V), i + m = 256 → toI M N x z n s (256 * b + i) → X 75 [some (aR 46), some (aI (nI b)), some (aI (nI i)), l3] [] N := by
  have hV6 : ∀ j, j < s → x j + 256 * z j < 65536 := fun j hj => by
    have := hV j hj
    omega
  intro m
  induction m with
  | zero =>
    intro i N l3 ei h
    obtain rfl : i = 256 := by omega
    refine am_run hX 3 _ _ _ _ ?_
    conv => whnf
    exact ⟨fun _ => hk N _ h, fun c => absurd (by decide) c⟩
  | succ m ih =>
    intro i N l3 ei h
    obtain ⟨hF, h10, h11, h17, h47, h51⟩ := h
    have hx := vcN_l (h := cpX) (n := n) (g := i) (f := 4 * b) cpX_1 hn 4
    have hz := vcN_l (h := cpZ) (n := n) (g := i) (f := 4 * b) cpZ_1 hn 4
    have hV47 : ∀ j, j < s → N.1 47 j = nI (x j + 256 * z j) ∧ x j < 256 ∧ z j < 256 := fun j hj => ⟨(h47 j hj).1, (hV j hj).2.1, (hV j hj).2.2⟩
    refine am_run hX 36 _ _ _ _ ?_
    conv => whnf
    refine ⟨fun c => absurd c (nI_ge (a := i) (b := 256) (by omega) (by decide)), fun _ => ?_⟩
    conv => whnf
    rw [show (4 : Int32) * nI b = nI (4 * b) from by rw [show (4 : Int32) = nI 4 from rfl, nI_mul]]
    refine am_c1 (ct_vecO (d := d + 2) hn (by omega) (by omega) h10) ?_
    conv => whnf
    rw [show (256 : Int32) * nI b = nI (256 * b) from by rw [show (256 : Int32) = nI 256 from rfl, nI_mul], nI_add]
    refine am_c1 (ct_fsY (d := d + 1) hs h11 hx hz hV47) ?_
    conv => whnf
    refine ⟨vp_in_nI (by show 256 * b + i < 512; omega) (by decide), ?_⟩
    conv => whnf
    rw [nI_clamp (n := 256 * b + i) (by omega)]
    generalize hN1 : mm_i N 51 (upd (N.1 51) (256 * b + i) (nI (fsY x z (vcN cpX n i (4 * b) 4) (vcN cpZ n i (4 * b) 4) s))) = N1
    have a11 : N1.1 46 11 = nI s := by rw [← hN1]; exact h11
    have a48 : N1.1 48 = N.1 48 := by rw [← hN1]; exact mm_ne _ _ _ _ (by decide)
    rw [a11, show (256 : Int32) * nI b = nI (256 * b) from by rw [show (256 : Int32) = nI 256 from rfl, nI_mul], nI_add]
    refine am_c1 (ct_rdu (d := d + 3) (M := N1) (R := rdT (fun j => x j + 256 * z j) s) hs (by omega) (fun j hj => ⟨by rw [a48]; exact (h47 j hj).2, rdT_l hV6 s (Nat.le_refl _) j⟩)) ?_
    conv => whnf
    refine ⟨vp_in_nI (by show 256 * b + i < 512; omega) (by decide), ?_⟩
    conv => whnf
    rw [nI_clamp (n := 256 * b + i) (by omega), nI_1]
    generalize hN2 : mm_i N1 52 (upd (N1.1 52) (256 * b + i) (nI (rdV (rdT (fun j => x j + 256 * z j) s) (vcN cpX n i (4 * b) 4 + 256 * vcN cpZ n i (4 * b) 4) s))) = N2
    have b46 : N2.1 46 = N.1 46 := by rw [← hN2, mm_ne _ _ _ _ (by decide), ← hN1, mm_ne _ _ _ _ (by decide)]
    have b47 : N2.1 47 = N.1 47 := by rw [← hN2, mm_ne _ _ _ _ (by decide), ← hN1, mm_ne _ _ _ _ (by decide)]
    have b48 : N2.1 48 = N.1 48 := by rw [← hN2, mm_ne _ _ _ _ (by decide), a48]
    have b51 : N2.1 51 = upd (N.1 51) (256 * b + i) (nI (fsY x z (vcN cpX n i (4 * b) 4) (vcN cpZ n i (4 * b) 4) s)) := by rw [← hN2, mm_ne _ _ _ _ (by decide), ← hN1, mm_i1]
    have b52 : N2.1 52 = upd (N.1 52) (256 * b + i) (nI (rdV (rdT (fun j => x j + 256 * z j) s) (vcN cpX n i (4 * b) 4 + 256 * vcN cpZ n i (4 * b) 4) s)) := by
      rw [← hN2, mm_i1]
      congr 1
      rw [← hN1]
      exact mm_ne _ _ _ _ (by decide)
    refine ih (i + 1) N2 _ (by omega) ⟨⟨fun k a b c e f => ?_, ?_, fun y a b c => ?_⟩, by rw [b46]; exact h10, by rw [b46]; exact h11, by rw [b46]; exact h17, fun j hj => by rw [b47, b48]; exact h47 j hj, fun j hj => ?_⟩
    · rw [← hN2, mm_ne _ _ _ _ f, ← hN1, mm_ne _ _ _ _ e]
      exact hF.1 k a b c e f
    · rw [← hN2, ← hN1]
      exact hF.2.1
    · rw [b46]
      exact hF.2.2 y a b c
    · rw [b51, b52]
      unfold upd
      by_cases hji : j = 256 * b + i
      · rw [if_pos hji, if_pos hji, hji]
        have e1 : (256 * b + i) % 256 = i := by omega
        have e2 : (256 * b + i) / 256 = b := by omega
        rw [e1, e2]
        exact ⟨rfl, rfl⟩
      · rw [if_neg hji, if_neg hji]
        exact h51 j (by omega)
set_option maxRecDepth 100000 in
/-- the class takes a CODE over -/
theorem ct_tkO {x z : Nat → Nat} {n s : Nat} (hn : n ≤ 8) (hs : s ≤ 8) (h12 : M.1 46 12 = nI n) (h13 : M.1 46 13 = nI s) (hV : cgV M x z s) : am_M (d + 5) false nm_X3_takeOver [aR 46] M (fun r N => r = .inl none ∧ toI M N x z n s 512) := by
  refine ⟨rfl, rfl, rfl, fun X hX => am_run hX 13 _ _ _ _ ?_⟩
  conv => whnf
  rw [h12]
  generalize hN : mm_i (mm_i (mm_i M 46 (upd (M.1 46) 10 (nI n))) 46 (upd ((mm_i M 46 (upd (M.1 46) 10 (nI n))).1 46) 11 ((mm_i M 46 (upd (M.1 46) 10 (nI n))).1 46 13))) 46 (upd ((mm_i (mm_i M 46 (upd (M.1 46) 10 (nI n))) 46 (upd ((mm_i M 46 (upd (M.1 46) 10 (nI n))).1 46) 11 ((mm_i M 46 (upd (M.1 46) 10 (nI n))).1 46 13))).1 46) 17 0) = N
  have hF : toF M N := by
    rw [← hN]
    refine ⟨fun k a b c e f => by rw [mm_ne _ _ _ _ a, mm_ne _ _ _ _ a, mm_ne _ _ _ _ a], rfl, fun y a b c => ?_⟩
    rw [mm_i1, mm_i1, mm_i1]
    unfold upd
    rw [if_neg c, if_neg b, if_neg a]
  have h10 : N.1 46 10 = nI n := by rw [← hN]; rfl
  have h11 : N.1 46 11 = nI s := by rw [← hN]; exact h13
  have h17 : N.1 46 17 = 0 := by rw [← hN]; rfl
  refine ⟨⟨rfl, rfl⟩, ?_⟩
  conv => whnf
  refine to_1 (d := d) (n := n) hX hs hV (fun N2 hF2 k10 k11 k17 hR => ?_) s 0 N (by omega) hF h10 h11 h17 (fun j hj => absurd hj (Nat.not_lt_zero _))
  refine am_run hX 7 _ _ _ _ ?_
  conv => whnf
  refine ⟨fun c => absurd c (by decide), fun _ => ?_⟩
  conv => whnf
  refine to_2 (d := d) (b := 0) hX hn hs (by decide) hV (fun N3 l3 h3 => ?_) 256 0 N2 none (by omega) ⟨hF2, k10, k11, k17, hR, fun j hj => absurd hj (Nat.not_lt_zero _)⟩
  refine am_run hX 7 _ _ _ _ ?_
  conv => whnf
  refine ⟨fun c => absurd c (by decide), fun _ => ?_⟩
  conv => whnf
  refine to_2 (d := d) (b := 1) hX hn hs (by decide) hV (fun N4 l4 h4 => ?_) 256 0 N3 l3 (by omega) h3
  refine am_run hX 6 _ _ _ _ ?_
  conv => whnf
  refine ⟨fun _ => ?_, fun c => absurd (by decide) c⟩
  conv => whnf
  exact ⟨trivial, rfl, h4⟩
end TKO
