/-! code: the distance of both is the same -/
theorem fsY_0 {x z : Nat → Nat} {a b : Nat} (s : Nat) (h : fsY x z a b s = 0) (j : Nat) (hj : j < s) : qmB a b (x j) (z j) = true := by
  induction s with
  | zero => exact absurd hj (Nat.not_lt_zero _)
  | succ s ih =>
    have hp := Nat.two_pow_pos s
    have h : fsY x z a b s + (if qmB a b (x s) (z s) = true then 0 else 2 ^ s) = 0 := h
    by_cases c : qmB a b (x s) (z s) = true
    · rw [if_pos c] at h
      by_cases e : j = s
      · subst e
        exact c
      · exact ih (by omega) (by omega)
    · rw [if_neg c] at h
      omega
theorem sf_self (w : Nat) : sfB w w = false := by
  unfold sfB qmB
  rw [Nat.and_comm (w / 256), decide_eq_true (by omega)]
  rfl
theorem wN_z : ∀ k x, x < 4 ^ k → wN k x = 0 → x = 0
  | 0, x, h, _ => by
    have h : x < 1 := h
    omega
  | k + 1, x, h, h0 => by
    rw [wN_s] at h0
    rw [Nat.pow_succ] at h
    have h1 := wN_z k (x / 4) (by omega) (by omega)
    by_cases c : x % 4 = 0
    · omega
    · rw [if_neg c] at h0
      omega
section DFF
variable {n s : Nat} {x z : Nat → Nat}
/-- a NUMBER's vector -/
def vcU (n v : Nat) : Nat := vcW cpX n v + 256 * vcW cpZ n v
theorem vcU_h {v : Nat} (hn : n ≤ 8) : hfB n (vcU n v) := by
  have l := vcW_l (n := n) (x := v) cpX_1 hn
  have a := vcW_p (h := cpX) (v := v) cpX_1 hn
  have b := vcW_p (h := cpZ) (v := v) cpZ_1 hn
  unfold hfB vcU
  rw [show (vcW cpX n v + 256 * vcW cpZ n v) % 256 = vcW cpX n v by omega, show (vcW cpX n v + 256 * vcW cpZ n v) / 256 = vcW cpZ n v by omega]
  exact ⟨a, b⟩
theorem vcU_i {v y : Nat} (hn : n ≤ 8) (hv : v < 4 ^ n) (hy : y < 4 ^ n) (h : vcU n v = vcU n y) : v = y := by
  have l := vcW_l (n := n) (x := v) cpX_1 hn
  have l' := vcW_l (n := n) (x := y) cpX_1 hn
  unfold vcU at h
  have e1 : vcW cpX n v = vcW cpX n y := by omega
  have e2 : vcW cpZ n v = vcW cpZ n y := by omega
  rw [← nuF_i hn hv, ← nuF_i hn hy, e1, e2]
theorem prN_v {v y : Nat} (hn : n ≤ 8) : vcW cpX n (prN n v y) = vcW cpX n v ^^^ vcW cpX n y ∧ vcW cpZ n (prN n v y) = vcW cpZ n v ^^^ vcW cpZ n y := by
  have px := Nat.xor_lt_two_pow (vcW_p (h := cpX) (v := v) cpX_1 hn) (vcW_p (h := cpX) (v := y) cpX_1 hn)
  have pz := Nat.xor_lt_two_pow (vcW_p (h := cpZ) (v := v) cpZ_1 hn) (vcW_p (h := cpZ) (v := y) cpZ_1 hn)
  unfold prN
  exact ⟨nuF_v (c := fun _ _ => 0) cpX_1 hn px (fun j => (dg_bit j).1), nuF_v (c := fun _ _ => 0) cpZ_1 hn pz (fun j => (dg_bit j).2)⟩
theorem prN_u {v y : Nat} (hn : n ≤ 8) : vcU n (prN n v y) = vcU n v ^^^ vcU n y := by
  obtain ⟨a, b⟩ := prN_v (v := v) (y := y) hn
  unfold vcU
  rw [a, b, xor_256 (vcW_l cpX_1 hn) (vcW_l cpX_1 hn)]
theorem prN_s {v y : Nat} (hn : n ≤ 8) : cdSy x z n s (prN n v y) = cdSy x z n s v ^^^ cdSy x z n s y := by
  obtain ⟨a, b⟩ := prN_v (v := v) (y := y) hn
  unfold cdSy
  rw [a, b, fsY_x]
/-- fewer rows than WIRES: something commutes with all rows and is no product -/
theorem cod_A (hn : n ≤ 8) (hs : s < n) (hx : ∀ j, j < s → x j < 256 ∧ z j < 256) : ∃ v, v < 4 ^ n ∧ cdSy x z n s v = 0 ∧ ¬ cdRe x z n s v = 0 := by
  apply Classical.byContradiction
  intro hno
  have hall : ∀ v, v < 4 ^ n → cdSy x z n s v = 0 → cdRe x z n s v = 0 := fun v hv h0 => Classical.byContradiction fun q => hno ⟨v, hv, h0, q⟩
  have hV6 : ∀ j, j < s → x j + 256 * z j < 65536 := fun j hj => by have := hx j hj; omega
  have hsp : ∀ v, v < 4 ^ n → cdSy x z n s v = 0 → ∃ e, e < 2 ^ s ∧ vcU n v = pxr (fun j => x j + 256 * z j) e s := by
    intro v hv h0
    exact (rdV_z (V := fun j => x j + 256 * z j) (R := rdT (fun j => x j + 256 * z j) s) (s := s) (fun j hj => rdT_r hj) (fun j hj => rdT_l hV6 s (Nat.le_refl _) j) (vcU n v)).mp (hall v hv h0)
  have hrep : ∀ a, ∃ u, u < 4 ^ n ∧ ((∃ y, y < 4 ^ n ∧ cdSy x z n s y = a) → cdSy x z n s u = a) := by
    intro a
    by_cases c : ∃ y, y < 4 ^ n ∧ cdSy x z n s y = a
    · obtain ⟨y, y1, y2⟩ := c
      exact ⟨y, y1, fun _ => y2⟩
    · exact ⟨0, Nat.pow_pos (by decide), fun q => absurd q c⟩
  have hf : ∀ v, ∃ q, v < 4 ^ n → ∃ u e, e < 2 ^ s ∧ q = cdSy x z n s v + 2 ^ s * e ∧ u = Classical.choose (hrep (cdSy x z n s v)) ∧ vcU n v ^^^ vcU n u = pxr (fun j => x j + 256 * z j) e s := by
    intro v
    by_cases hv : v < 4 ^ n
    · have hr := Classical.choose_spec (hrep (cdSy x z n s v))
      have h2 := hr.2 ⟨v, hv, rfl⟩
      obtain ⟨e, e1, e2⟩ := hsp (prN n v (Classical.choose (hrep (cdSy x z n s v)))) (nuF_l _ _ n) (by rw [prN_s hn, h2, Nat.xor_self])
      rw [prN_u hn] at e2
      exact ⟨_, fun _ => ⟨_, e, e1, rfl, rfl, e2⟩⟩
    · exact ⟨0, fun q => absurd q hv⟩
  have hpw : 2 ^ s * 2 ^ s < 4 ^ n := by
    rw [← Nat.mul_pow]
    exact Nat.pow_lt_pow_right (by decide) hs
  obtain ⟨i, j, hij, hj, he⟩ := phb (2 ^ s * 2 ^ s) (fun v => Classical.choose (hf v)) (fun i hi => by
    obtain ⟨u, e, e1, e2, -⟩ := Classical.choose_spec (hf i) (by omega)
    show Classical.choose (hf i) < _
    rw [e2]
    have hl : cdSy x z n s i < 2 ^ s := fsY_l _ _ _ _ s
    have : 2 ^ s * (e + 1) ≤ 2 ^ s * 2 ^ s := Nat.mul_le_mul_left _ e1
    rw [Nat.mul_add, Nat.mul_one] at this
    omega)
  have he : Classical.choose (hf i) = Classical.choose (hf j) := he
  obtain ⟨u, e, a1, a2, a3, a4⟩ := Classical.choose_spec (hf i) (by omega)
  obtain ⟨u', e', b1, b2, b3, b4⟩ := Classical.choose_spec (hf j) (by omega)
  have l1 : cdSy x z n s i < 2 ^ s := fsY_l _ _ _ _ s
  have l2 : cdSy x z n s j < 2 ^ s := fsY_l _ _ _ _ s
  rw [a2, b2] at he
  have m1 : cdSy x z n s i = cdSy x z n s j := by
    have := congrArg (· % 2 ^ s) he
    simp only [Nat.add_mul_mod_self_left, Nat.mod_eq_of_lt l1, Nat.mod_eq_of_lt l2] at this
    exact this
  have m2 : e = e' := by
    rw [m1] at he
    exact Nat.eq_of_mul_eq_mul_left (Nat.two_pow_pos s) (by omega)
  have m3 : u = u' := by rw [a3, b3, m1]
  subst m2
  subst m3
  have m4 : vcU n i = vcU n j := by
    have : vcU n i ^^^ vcU n u ^^^ vcU n u = vcU n j ^^^ vcU n u ^^^ vcU n u := by rw [a4, b4]
    rw [Nat.xor_assoc, Nat.xor_assoc, Nat.xor_self, Nat.xor_zero, Nat.xor_zero] at this
    exact this
  exact absurd (vcU_i hn (by omega) (by omega) m4) (by omega)
/-- as many rows as WIRES: what commutes with all rows is a product -/
theorem cod_B {u : Nat} (hn : n ≤ 8) (hs : s = n) (hx : ∀ j, j < s → x j < 2 ^ n ∧ z j < 2 ^ n) (hch : (chF x z s).1 = 0) (h : cdSy x z n s u = 0) : cdRe x z n s u = 0 := by
  apply Classical.byContradiction
  intro h0
  have h8 : 2 ^ n ≤ 2 ^ 8 := Nat.pow_le_pow_right (by decide) hn
  have hx8 : ∀ j, j < s → x j < 256 ∧ z j < 256 := fun j hj => by have := hx j hj; omega
  have hV6 : ∀ j, j < s → x j + 256 * z j < 65536 := fun j hj => by have := hx8 j hj; omega
  have hq := chF_q hch
  have hsu := fsY_0 s h
  have hne : ∀ i, i < s → rdT (fun j => x j + 256 * z j) s i ≠ 0 := fun i hi => red_n hx8 hch hi
  generalize hV : (fun j => x j + 256 * z j) = V at hne
  have hVj : ∀ j, V j = x j + 256 * z j := fun j => by rw [← hV]
  have hV6' : ∀ j, j < s → V j < 65536 := fun j hj => by rw [hVj]; exact hV6 j hj
  have hVm : ∀ j, j < s → V j % 256 = x j ∧ V j / 256 = z j := fun j hj => by have := hx8 j hj; rw [hVj]; omega
  have hR := fun j (hj : j < s) => rdT_r (V := V) hj
  have hRl := fun j (_ : j < s) => rdT_l hV6' s (Nat.le_refl _) j
  have hr : cdRe x z n s u = rdV (rdT V s) (vcU n u) s := by rw [← hV]; rfl
  have hVb : ∀ j, j < s → hfB n (V j) := fun j hj => by
    unfold hfB
    rw [(hVm j hj).1, (hVm j hj).2]
    exact hx j hj
  have hub : vcU n u < 65536 := by
    have a := vcW_l (n := n) (x := u) cpX_1 hn
    have b := vcW_l (n := n) (x := u) cpZ_1 hn
    unfold vcU
    omega
  rw [hr] at h0
  -- what is left is the vector times a product of rows
  have hsp : ∀ v i, i ≤ s → ∃ e, rdV (rdT V s) v i = v ^^^ pxr V e i := by
    intro v i hi
    obtain ⟨e, e1, e2⟩ := rdV_s hR v i hi
    refine ⟨e, ?_⟩
    rw [← e2, ← Nat.xor_assoc, Nat.xor_self, Nat.zero_xor]
  have hVV : ∀ i j, i < s → j < s → sfB (V i) (V j) = false := by
    intro i j hi hj
    unfold sfB
    rw [(hVm i hi).1, (hVm i hi).2, (hVm j hj).1, (hVm j hj).2, hq j i hj hi]
    rfl
  have hVu : ∀ j, j < s → sfB (V j) (vcU n u) = false := by
    intro j hj
    have l := vcW_l (n := n) (x := u) cpX_1 hn
    have e1 : vcU n u % 256 = vcW cpX n u := by unfold vcU; omega
    have e2 : vcU n u / 256 = vcW cpZ n u := by unfold vcU; omega
    unfold sfB
    rw [(hVm j hj).1, (hVm j hj).2, e1, e2, hsu j hj]
    rfl
  -- good: commutes with all rows
  have gd : ∀ v i, i ≤ s → (∀ j, j < s → sfB (V j) v = false) → ∀ j, j < s → sfB (V j) (rdV (rdT V s) v i) = false := by
    intro v i hi hg j hj
    obtain ⟨e, e1⟩ := hsp v i hi
    rw [e1, (sf_ad (V j)).2, hg j hj, adf_0 (sf_ad (V j)) (fun k hk _ => hVV j k hj (by omega))]
    rfl
  have gg : ∀ w, (∀ j, j < s → sfB (V j) w = false) → ∀ v i, i ≤ s → sfB w v = false → sfB w (rdV (rdT V s) v i) = false := by
    intro w hw v i hi hv
    obtain ⟨e, e1⟩ := hsp v i hi
    rw [e1, (sf_ad w).2, hv, adf_0 (sf_ad w) (fun k hk _ => by rw [sf_s]; exact hw k (by omega))]
    rfl
  generalize hr0 : rdV (rdT V s) (vcU n u) s = r at h0
  have gr : ∀ j, j < s → sfB (V j) r = false := by rw [← hr0]; exact gd _ s (Nat.le_refl _) hVu
  have gR : ∀ i, i < s → ∀ j, j < s → sfB (V j) (rdT V s i) = false := by
    intro i hi
    rw [hR i hi]
    exact gd _ i (by omega) (fun j hj => hVV j i hj hi)
  have rl : r < 65536 := by rw [← hr0]; exact rdV_l hub hRl
  generalize hQ : (fun j => if j < s then rdT V s j else r) = Q
  have hQ1 : ∀ j, j < s → Q j = rdT V s j := fun j hj => by rw [← hQ]; exact if_pos hj
  have hQ2 : Q s = r := by rw [← hQ]; exact if_neg (Nat.lt_irrefl _)
  have hQl : ∀ j, j < s + 1 → Q j < 65536 ∧ Q j ≠ 0 := by
    intro j hj
    by_cases c : j < s
    · rw [hQ1 j c]
      exact ⟨hRl j c, hne j c⟩
    · obtain rfl : j = s := by omega
      rw [hQ2]
      exact ⟨rl, h0⟩
  refine iso_n (n := n) (k := s + 1) (R := Q) (p := fun j => rdP (Q j)) hn (by omega) (fun j hj => ?_) (fun i j hi hj => ?_) (fun j hj => ?_) (fun i j hij hj => ?_)
  · by_cases c : j < s
    · rw [hQ1 j c, hR j c]
      obtain ⟨e, e1⟩ := hsp (V j) j (by omega)
      rw [e1]
      exact hf_x (hVb j c) (hf_p (fun k hk => hVb k (by omega)))
    · obtain rfl : j = s := by omega
      rw [hQ2, ← hr0]
      obtain ⟨e, e1⟩ := hsp (vcU n u) j (by omega)
      rw [e1]
      exact hf_x (vcU_h hn) (hf_p (fun k hk => hVb k (by omega)))
  · by_cases ci : i < s
    · by_cases cj : j < s
      · rw [hQ1 i ci, hQ1 j cj, hR j cj]
        exact gg _ (gR i ci) _ j (by omega) (by rw [sf_s]; exact gR i ci j cj)
      · obtain rfl : j = s := by omega
        rw [hQ1 i ci, hQ2, sf_s, hR i ci]
        exact gg _ gr _ i (by omega) (by rw [sf_s]; exact gr i ci)
    · obtain rfl : i = s := by omega
      by_cases cj : j < i
      · rw [hQ2, hQ1 j cj, hR j cj]
        exact gg _ gr _ j (by omega) (by rw [sf_s]; exact gr j cj)
      · obtain rfl : j = i := by omega
        exact sf_self _
  · obtain ⟨a, b⟩ := hQl j hj
    obtain ⟨p1, p2, -⟩ := rdP_t a b
    exact ⟨p2, p1⟩
  · show (Q j).testBit (rdP (Q i)) = false
    by_cases cj : j < s
    · rw [hQ1 i (by omega), hQ1 j cj]
      exact rdT_b hV6' hij cj
    · obtain rfl : j = s := by omega
      rw [hQ1 i hij, hQ2, ← hr0]
      exact rdV_b hR hV6' hRl j (Nat.le_refl _) (vcU n u) hub i hij
/-- the distance of both -/
theorem cod_d (n1 : 1 ≤ n) (hn : n ≤ 8) (hs : s ≤ n) (hx : ∀ j, j < s → x j < 2 ^ n ∧ z j < 2 ^ n) (hch : (chF x z s).1 = 0) : dsM n s (cdSy x z n s) (fun v => nI (cdRe x z n s v)) (4 ^ n) = dsL (pD n s (cdSy x z n s) (fun v => nI (cdRe x z n s v))) n 1 := by
  have h8 : 2 ^ n ≤ 2 ^ 8 := Nat.pow_le_pow_right (by decide) hn
  have hx8 : ∀ j, j < s → x j < 256 ∧ z j < 256 := fun j hj => by have := hx j hj; omega
  have hre : ∀ v, (nI (cdRe x z n s v) = 0 ↔ cdRe x z n s v = 0) := fun v => nI_eq (b := 0) (by have := cdRe_l (v := v) hn hx8; omega) (by decide)
  have hw : ∀ v, v < 4 ^ n → wN 8 v ≤ n := by
    intro v hv
    have := wN_0 (8 - n) n v hv
    rw [show n + (8 - n) = 8 by omega] at this
    rw [this]
    exact wN_le n v
  have hv8 : ∀ v, v < 4 ^ n → v < 4 ^ 8 := fun v hv => Nat.lt_of_lt_of_le hv (Nat.pow_le_pow_right (by decide) hn)
  have hcz : ∀ u, cdRe x z n s u = 0 → cdSy x z n s u = 0 := fun u h0 => grp_c hn (fun j hj => (hx8 j hj).1) (fun j hj => (hx8 j hj).2) (chF_q hch) h0
  have hz0 : cdRe x z n s 0 = 0 := by
    have e : ∀ h : Nat → Nat, (∀ k, h k ≤ 1) → h 0 = 0 → vcW h n 0 = 0 := by
      intro h hh h0
      apply Nat.eq_of_testBit_eq
      intro i
      rw [Nat.zero_testBit]
      refine Bool.eq_false_iff.mpr (fun q => ?_)
      have := ((vcW_t hh hn).mp q).2
      rw [Nat.zero_div, Nat.zero_mod, h0] at this
      exact absurd this (by decide)
    unfold cdRe
    rw [e cpX cpX_1 rfl, e cpZ cpZ_1 rfl]
    exact rdV_0 _ _
  rcases Nat.lt_or_ge s n with hs1 | hs1
  · have hc : ∀ v, cntB n s (cdSy x z n s) (fun v => nI (cdRe x z n s v)) v = true ↔ ¬ cdRe x z n s v = 0 ∧ cdSy x z n s v = 0 := by
      intro v
      unfold cntB
      rw [if_pos hs1, decide_eq_true_eq]
      show (¬ nI (cdRe x z n s v) = 0 ∧ _) ↔ _
      rw [hre]
    refine dist_eq (fun w w1 w2 => ?_) ?_ (fun v hv h => ?_) hn
    · unfold pD
      rw [if_neg (by omega), decide_eq_true_eq]
      have hsub := kN_sub (p := pA (fun v => nI (cdRe x z n s v)) w) (q := pB (cdSy x z n s) w) (k := 4 ^ n) (fun v hv h => by
        unfold pA at h
        unfold pB
        rw [decide_eq_true_eq] at h ⊢
        exact ⟨h.1, hcz v ((hre v).mp h.2)⟩)
      rw [hsub.2]
      constructor
      · rintro ⟨v, a, b, c⟩
        unfold pB at b
        unfold pA at c
        rw [decide_eq_true_eq] at b c
        exact ⟨v, a, (hc v).mpr ⟨fun q => c ⟨b.1, (hre v).mpr q⟩, b.2⟩, b.1⟩
      · rintro ⟨v, a, b, c⟩
        obtain ⟨b1, b2⟩ := (hc v).mp b
        refine ⟨v, a, ?_, ?_⟩
        · unfold pB
          rw [decide_eq_true_eq]
          exact ⟨c, b2⟩
        · unfold pA
          rw [decide_eq_true_eq]
          exact fun q => b1 ((hre v).mp q.2)
    · obtain ⟨v, a, b, c⟩ := cod_A (x := x) (z := z) hn hs1 hx8
      exact ⟨v, a, (hc v).mpr ⟨c, b⟩⟩
    · obtain ⟨b1, b2⟩ := (hc v).mp h
      refine ⟨?_, hw v hv⟩
      rcases Nat.eq_zero_or_pos (wN 8 v) with q | q
      · have := wN_z 8 v (hv8 v hv) q
        subst this
        exact absurd hz0 b1
      · exact q
  · have hsn : s = n := by omega
    have hc : ∀ v, cntB n s (cdSy x z n s) (fun v => nI (cdRe x z n s v)) v = true ↔ cdRe x z n s v = 0 ∧ 0 < wN 8 v := by
      intro v
      unfold cntB
      rw [if_neg (by omega), decide_eq_true_eq]
      show (nI (cdRe x z n s v) = 0 ∧ _) ↔ _
      rw [hre]
    refine dist_eq (fun w w1 w2 => ?_) ?_ (fun v hv h => ⟨((hc v).mp h).2, hw v hv⟩) hn
    · unfold pD
      rw [if_pos hsn, decide_eq_true_eq]
      have hsub := kN_sub (p := fun _ => false) (q := pB (cdSy x z n s) w) (k := 4 ^ n) (fun v hv h => by cases h)
      have hk0 : ∀ k, kN (fun _ => false) k = 0 := by
        intro k
        induction k with
        | zero => rfl
        | succ k ih =>
          show kN (fun _ => false) k + (if false = true then 1 else 0) = 0
          rw [ih]
          rfl
      rw [hk0] at hsub
      rw [hsub.2]
      constructor
      · rintro ⟨v, a, b, c⟩
        unfold pB at b
        rw [decide_eq_true_eq] at b
        exact ⟨v, a, (hc v).mpr ⟨cod_B hn hsn hx hch b.2, by omega⟩, b.1⟩
      · rintro ⟨v, a, b, c⟩
        obtain ⟨b1, b2⟩ := (hc v).mp b
        refine ⟨v, a, ?_, fun q => by cases q⟩
        unfold pB
        rw [decide_eq_true_eq]
        exact ⟨c, hcz v b1⟩
    · have hs0 : 0 < s := by omega
      have hx0 := hx 0 hs0
      have hx08 := hx8 0 hs0
      have hV6 : ∀ j, j < s → x j + 256 * z j < 65536 := fun j hj => by have := hx8 j hj; omega
      have e1 : vcW cpX n (nuF (x 0) (z 0) n) = x 0 := nuF_v (c := fun _ _ => 0) cpX_1 hn hx0.1 (fun j => (dg_bit j).1)
      have e2 : vcW cpZ n (nuF (x 0) (z 0) n) = z 0 := nuF_v (c := fun _ _ => 0) cpZ_1 hn hx0.2 (fun j => (dg_bit j).2)
      have hr : cdRe x z n s (nuF (x 0) (z 0) n) = 0 := by
        unfold cdRe
        rw [e1, e2]
        exact rdV_v (V := fun j => x j + 256 * z j) (fun j hj => rdT_r hj) (fun j _ => rdT_l hV6 s (Nat.le_refl _) j) hs0
      refine ⟨nuF (x 0) (z 0) n, nuF_l _ _ n, (hc _).mpr ⟨hr, ?_⟩⟩
      rcases Nat.eq_zero_or_pos (wN 8 (nuF (x 0) (z 0) n)) with q | q
      · have h0 := wN_z 8 _ (hv8 _ (nuF_l _ _ n)) q
        have hn0 := red_n hx8 hch hs0
        rw [rdT_r hs0] at hn0
        exfalso
        apply hn0
        show x 0 + 256 * z 0 = 0
        have f1 := e1
        have f2 := e2
        rw [h0] at f1 f2
        have e : ∀ h : Nat → Nat, (∀ k, h k ≤ 1) → h 0 = 0 → vcW h n 0 = 0 := by
          intro h hh h0
          apply Nat.eq_of_testBit_eq
          intro i
          rw [Nat.zero_testBit]
          refine Bool.eq_false_iff.mpr (fun q => ?_)
          have := ((vcW_t hh hn).mp q).2
          rw [Nat.zero_div, Nat.zero_mod, h0] at this
          exact absurd this (by decide)
        rw [e cpX cpX_1 rfl] at f1
        rw [e cpZ cpZ_1 rfl] at f2
        omega
      · exact q
end DFF
