/-! ROUTE: the class goes on; its arrangements by rank -/
/-- LINKS by number -/
def eT (t : Nat) : Nat := ([1, 2, 3, 4, 5, 8, 9, 10, 11, 15, 16, 17, 22, 23, 29] : List Nat).getD t 0
theorem eT_f : ∀ t, t < 15 → xp_a5.getD t 0 = nI (eT t / 6) ∧ xp_a6.getD t 0 = nI (eT t % 6) ∧ eT t < 36 ∧ eT t / 6 < eT t % 6 := by decide +kernel
theorem eT_s : ∀ e, e < 36 → e / 6 < e % 6 → kkN e < 15 ∧ eT (kkN e) = e := by decide +kernel
theorem eT_m : ∀ s, s < 15 → ∀ t, t < 15 → (s < t ↔ eT s < eT t) := by decide +kernel
def lnK (M : mm_M) (Lk : Nat → Nat → Bool) : Prop := ∃ g, g < 32768 ∧ M.1 70 12 = nI g ∧ ∀ t, t < 15 → g / 2 ^ t % 2 = if Lk (eT t / 6) (eT t % 6) = true then 1 else 0
/-- the circuit that is looked at, and the CHIP, at the class -/
def rtD (M : mm_M) (n c W : Nat) (l : List bk_X) (Lk : Nat → Nat → Bool) : Prop := bk_iv M n ∧ c < n ∧ (1 ≤ W ∧ W ≤ 6) ∧ bk_c M c W l.length ∧ opsL M c W l ∧ allO W l ∧ (∀ j, j < l.length → wnX (zg l j) ≤ 2) ∧ nrM M Lk ∧ lnK M Lk
/-- what finding a WAY changes -/
def rwyF (M N : mm_M) : Prop := (∀ k, k ≠ 73 → k ≠ 74 → k ≠ 76 → N.1 k = M.1 k) ∧ ∀ k, k ≠ 75 → k ≠ 77 → N.2 k = M.2 k
theorem rwyF_r (M : mm_M) : rwyF M M := ⟨fun _ _ _ _ => rfl, fun _ _ _ => rfl⟩
theorem rwyF_t {M N K : mm_M} (h : rwyF M N) (g : rwyF N K) : rwyF M K := ⟨fun k a b c => (g.1 k a b c).trans (h.1 k a b c), fun k a b => (g.2 k a b).trans (h.2 k a b)⟩
theorem rtD_f {M N : mm_M} {n c W : Nat} {l : List bk_X} {Lk : Nat → Nat → Bool} (h : rwyF M N) (g : rtD M n c W l Lk) : rtD N n c W l Lk := by
  have e : ∀ k, k < 73 ∨ 76 < k → N.1 k = M.1 k := fun k hk => h.1 k (by omega) (by omega) (by omega)
  obtain ⟨g1, g2, g3, g4, g5, g6, g7, g8, g9⟩ := g
  refine ⟨?_, g2, g3, ?_, ?_, g6, g7, ?_, ?_⟩
  · obtain ⟨a, b, c', f⟩ := g1
    refine ⟨a, by rw [e 9 (by omega)]; exact b, by rw [e 108 (by omega)]; exact c', fun i hi => ?_⟩
    obtain ⟨V, S, k⟩ := f i hi
    refine ⟨V, S, ?_⟩
    unfold bk_c bk_o at k ⊢
    rw [e 10 (by omega), e 11 (by omega), e 12 (by omega), e 110 (by omega), e 111 (by omega), e 112 (by omega), e 113 (by omega), e 114 (by omega), e 115 (by omega), e 116 (by omega), e 117 (by omega)]
    exact k
  · unfold bk_c bk_o at g4 ⊢
    rw [e 10 (by omega), e 11 (by omega), e 12 (by omega), e 110 (by omega), e 111 (by omega), e 112 (by omega), e 113 (by omega), e 114 (by omega), e 115 (by omega), e 116 (by omega), e 117 (by omega)]
    exact g4
  · unfold opsL bk_o at g5 ⊢
    rw [e 10 (by omega), e 11 (by omega), e 111 (by omega), e 112 (by omega), e 113 (by omega), e 114 (by omega), e 115 (by omega), e 116 (by omega), e 117 (by omega)]
    exact g5
  · unfold nrM at g8 ⊢
    rw [e 72 (by omega)]
    exact g8
  · unfold lnK at g9 ⊢
    rw [e 70 (by omega)]
    exact g9
theorem pc_1 : ∀ c, c < 64 → pc c = 1 → c = 2 ^ lw c := by decide +kernel
theorem p2_1 : ∀ w, w < 6 → 2 ^ w &&& (2 ^ w - 1) = 0 ∧ 2 ^ w < 256 := by decide
theorem wsN_p {W : Nat} {x : bk_X} (hW : W ≤ 6) (ho : ogd W x) (h2 : wnX x ≤ 2) : wsP (prX x) (wsN x) ∧ 0 < wsN x := by
  have c64 : x.2.2.2.1 < 64 := Nat.lt_of_lt_of_le ho.1.2.2.2.1 (Nat.pow_le_pow_right (n := 2) (by decide) hW)
  have w6 : x.2.1 < 6 := by have := ho.1.2.1; omega
  have pos : 0 < wsN x := by
    unfold wsN
    apply Classical.byContradiction
    intro z
    have z : (2 ^ x.2.1 ||| (if x.1 = 8 then 2 ^ x.2.2.1 else 0) ||| x.2.2.2.1) = 0 := by omega
    have := (Nat.or_eq_zero_iff.mp (Nat.or_eq_zero_iff.mp z).1).1
    have := Nat.two_pow_pos x.2.1
    omega
  refine ⟨?_, pos⟩
  by_cases e8 : x.1 = 8
  · have c0 : x.2.2.2.1 = 0 := by
      unfold wnX at h2
      rw [if_pos e8] at h2
      exact pc_0 _ (by omega) (by omega)
    have eo : prX x = some (x.2.1, x.2.2.1) := by unfold prX; rw [if_pos e8]
    have es := ho.2.2 e8
    rw [eo]
    refine ⟨w6, by omega, es.2.1, ?_⟩
    unfold wsN
    rw [if_pos e8, c0, Nat.or_zero]
  · by_cases c0 : x.2.2.2.1 = 0
    · have eo : prX x = none := by unfold prX; rw [if_neg e8, if_pos c0]
      rw [eo]
      have ew : wsN x = 2 ^ x.2.1 := by
        unfold wsN
        rw [if_neg e8, c0, Nat.or_zero, Nat.or_zero]
      obtain ⟨q1, q2⟩ := p2_1 _ w6
      rw [ew]
      exact ⟨q2, q1⟩
    · have eo : prX x = some (x.2.1, lw x.2.2.2.1) := by unfold prX; rw [if_neg e8, if_neg c0]
      have p1 : pc x.2.2.2.1 = 1 := by
        unfold wnX at h2
        have : pc x.2.2.2.1 ≠ 0 := fun z => c0 (pc_0 _ (by omega) z)
        omega
      have hp := prX_w hW ho eo
      rw [eo]
      refine ⟨w6, by omega, hp.2.2, ?_⟩
      unfold wsN
      rw [if_neg e8, Nat.or_zero, ← pc_1 _ c64 p1]
section RTK
variable {d : Nat} {M : mm_M} {n c W : Nat} {l : List bk_X} {Lk : Nat → Nat → Bool} {p : List Nat}
set_option maxRecDepth 100000 in
theorem av_l {P : am_Q} {X : am_X} {v4 : Int32} {x : Nat} (hX : am_K (d + 3) false nm_X7_advance P X) (h : rtD M n c W l Lk) (ha : arr W p) (hP : P (.inl (some (aI (nI x)))) M) : ∀ (m k : Nat), k + m = l.length → adv (rtQq Lk (rtPp l) p) l.length k = x → X 4 [some (aR 70), some (aR 9), some (aI (nI c)), some (aI (nI (pk8 p))), some (aI v4), some (aI (nI k))] [] M := by
  obtain ⟨hb, hc, ⟨_, hW⟩, hC, hl, hO, h2, hn, _⟩ := h
  have hl3 := hl.2.2.1
  have n20 := hb.1
  intro m
  induction m with
  | zero =>
    intro k hk e
    obtain rfl : k = l.length := by omega
    rw [ad_o (Nat.le_refl _)] at e
    subst e
    refine am_run hX 6 _ _ _ _ ?_
    conv => whnf
    refine ⟨vp_in_nI (by show c < 20; omega) (by decide), ?_⟩
    conv => whnf
    rw [nI_clamp (n := c) (by omega), hl.1]
    refine ⟨fun _ => ?_, fun z => absurd (nI_le (Nat.le_refl _) (by omega)) z⟩
    refine am_run hX 2 _ _ _ _ ?_
    conv => whnf
    exact ⟨trivial, hP⟩
  | succ m ih =>
    intro k hk e
    have kl : k < l.length := by omega
    have ho := (hO k kl).1
    obtain ⟨q1, q2⟩ := wsN_p hW ho (h2 k kl)
    have key := bk_at (d := d) (M := M) hb hc hC kl
    rw [(hl.2.2.2 k kl).2.1] at key
    refine am_run hX 6 _ _ _ _ ?_
    conv => whnf
    refine ⟨vp_in_nI (by show c < 20; omega) (by decide), ?_⟩
    conv => whnf
    rw [nI_clamp (n := c) (by omega), hl.1]
    refine ⟨fun z => absurd z (nI_ge (by omega) (by omega)), fun _ => ?_⟩
    refine am_run hX 5 _ _ _ _ ?_
    conv => whnf
    refine am_c1 key ?_
    refine am_run hX 1 _ _ _ _ ?_
    conv => whnf
    refine am_c1 (ct_wsO (d := d + 1) (W := W) (by omega) ho.1) ?_
    refine am_run hX 2 _ _ _ _ ?_
    conv => whnf
    refine am_c1 (ct_cBD (d := d) (o := prX (zg l k)) hW ha hn q1 (fun a b eo => by have := prX_w hW ho eo; exact ⟨this.1, this.2.1⟩) q2) ?_
    refine am_run hX 1 _ _ _ _ ?_
    conv => whnf
    cases hq : lkB Lk p (prX (zg l k)) with
    | true =>
      refine ⟨fun z => absurd z (by decide), fun _ => ?_⟩
      refine am_run hX 2 _ _ _ _ ?_
      conv => whnf
      rw [nI_1]
      exact ih (k + 1) (by omega) (by rw [← e, ad_s hq kl])
    | false =>
      refine ⟨fun _ => ?_, fun z => absurd rfl z⟩
      rw [ad_z hq] at e
      subst e
      refine am_run hX 2 _ _ _ _ ?_
      conv => whnf
      exact ⟨trivial, hP⟩
set_option maxRecDepth 100000 in
theorem ct_adv {k : Nat} (h : rtD M n c W l Lk) (ha : arr W p) (hk : k ≤ l.length) : am_M (d + 4) false nm_X7_advance [aR 70, aR 9, aI (nI c), aI (nI (pk8 p)), aI (nI k)] M (am_q1 (aI (nI (adv (rtQq Lk (rtPp l) p) l.length k))) M) := by
  refine ⟨rfl, rfl, rfl, fun X hX => am_run hX 2 _ _ _ _ ?_⟩
  conv => whnf
  exact av_l (d := d) (M := M) hX h ha ⟨rfl, rfl⟩ (l.length - k) k (by omega) rfl
theorem nI_cl (k : Nat) : nI k &&& (nI k - 1) = nI (k &&& (k - 1)) := by
  cases k with
  | zero => rfl
  | succ k => rw [nI_s1 (k + 1) (by omega), nI_and]
/-- all is well on the way from a rank to its arrangement -/
def unB : Nat → Nat → Nat → Nat → Nat → Bool
  | 0, _, _, _, _ => true
  | m + 1, i, fr, lf, ea => decide (0 < ea / (6 - i)) && decide (lf / (ea / (6 - i)) < 6) && decide (0 < clL (lf / (ea / (6 - i))) fr) && decide (clL (lf / (ea / (6 - i))) fr < 64) && decide (fr < 64) && decide (fr &&& 2 ^ lw (clL (lf / (ea / (6 - i))) fr) = 2 ^ lw (clL (lf / (ea / (6 - i))) fr)) && unB m (i + 1) (fr ^^^ 2 ^ lw (clL (lf / (ea / (6 - i))) fr)) (lf % (ea / (6 - i))) (ea / (6 - i))
set_option maxRecDepth 100000 in
theorem unB_ok : ∀ W, W < 7 → ((List.range (cnW W)).all fun r => unB W 0 63 r (cnW W)) = true := by decide +kernel
theorem lw_6 : ∀ r, r < 64 → 0 < r → nI r &&& -nI r = nI (2 ^ lw r) ∧ lw r < 6 := by decide +kernel
set_option maxRecDepth 100000 in
theorem plo_i {P : am_Q} {X : am_X} {v0 v1 v2 v3 v4 v5 v6 v7 : Int32} {R : Nat} (hX : am_K (d + 2) false nm_X7_placesOf P X) (hK : X 62 [some (aI v0), some (aI v1), some (aI v2), some (aI v3), some (aI v4), some (aI v5), some (aI v6), some (aI v7), some (aI (nI R)), some (aI (nI 0))] [] M) : ∀ (k r : Nat), k < 6 → clL k r = R → X 42 [some (aI v0), some (aI v1), some (aI v2), some (aI v3), some (aI v4), some (aI v5), some (aI v6), some (aI v7), some (aI (nI r)), some (aI (nI k))] [] M := by
  intro k
  induction k with
  | zero =>
    intro r _ e
    have e : r = R := e
    subst e
    refine am_run hX 2 _ _ _ _ ?_
    conv => whnf
    exact ⟨fun _ => hK, fun z => absurd (by decide) z⟩
  | succ k ih =>
    intro r hk e
    refine am_run hX 2 _ _ _ _ ?_
    conv => whnf
    refine ⟨fun z => absurd z (nI_ge (a := 0) (b := k + 1) (by omega) (by omega)), fun _ => ?_⟩
    refine am_run hX 8 _ _ _ _ ?_
    conv => whnf
    rw [nI_cl, nI_d1]
    exact ih _ (by omega) e
set_option maxRecDepth 100000 in
theorem plo_l {P : am_Q} {X : am_X} {v0 v2 : Int32} {z : List Nat} (hX : am_K (d + 2) false nm_X7_placesOf P X) (hW : W ≤ 6) (hz : arr W z) (hP : P (.inl (some (aI (nI (pk8 z))))) M) : ∀ (m i fr lf ea : Nat) (v8 v9 : Option am_V), i + m = W → lf < 1000 → ea < 1000 → unB m i fr lf ea = true → z.drop i = unF m i fr lf ea → X 15 [some (aI v0), some (aI (nI W)), some (aI v2), some (aI (nI (pk8 (z.take i)))), some (aI (nI fr)), some (aI (nI lf)), some (aI (nI ea)), some (aI (nI i)), v8, v9] [] M := by
  intro m
  induction m with
  | zero =>
    intro i fr lf ea v8 v9 hi _ _ _ _
    obtain rfl : i = W := by omega
    refine am_run hX 3 _ _ _ _ ?_
    conv => whnf
    refine ⟨fun _ => ?_, fun z => absurd (nI_le (Nat.le_refl _) (by omega)) z⟩
    refine am_run hX 2 _ _ _ _ ?_
    conv => whnf
    rw [show z.take i = z from by rw [← hz.1, List.take_length]]
    exact ⟨trivial, hP⟩
  | succ m ih =>
    intro i fr lf ea v8 v9 hi hlf hea hB hz'
    have il : i < z.length := by rw [hz.1]; omega
    unfold unB at hB
    have hz' : z.drop i = lw (clL (lf / (ea / (6 - i))) fr) :: unF m (i + 1) (fr ^^^ 2 ^ lw (clL (lf / (ea / (6 - i))) fr)) (lf % (ea / (6 - i))) (ea / (6 - i)) := hz'
    have hea' : ea / (6 - i) < 1000 := Nat.lt_of_le_of_lt (Nat.div_le_self _ _) hea
    have hlf' : lf % (ea / (6 - i)) < 1000 := Nat.lt_of_le_of_lt (Nat.mod_le _ _) hlf
    generalize hE : ea / (6 - i) = E at *
    generalize hR : clL (lf / E) fr = R at *
    obtain ⟨hB, b7⟩ := (Bool.and_eq_true _ _).mp hB
    obtain ⟨hB, b6⟩ := (Bool.and_eq_true _ _).mp hB
    obtain ⟨hB, b5⟩ := (Bool.and_eq_true _ _).mp hB
    obtain ⟨hB, b4⟩ := (Bool.and_eq_true _ _).mp hB
    obtain ⟨hB, b3⟩ := (Bool.and_eq_true _ _).mp hB
    obtain ⟨b1, b2⟩ := (Bool.and_eq_true _ _).mp hB
    have b1 := of_decide_eq_true b1
    have b2 := of_decide_eq_true b2
    have b3 := of_decide_eq_true b3
    have b4 := of_decide_eq_true b4
    have b5 := of_decide_eq_true b5
    have b6 := of_decide_eq_true b6
    obtain ⟨g1, g2⟩ := lw_6 R b4 b3
    have hd := drp_c il
    rw [hz'] at hd
    obtain ⟨hx, hdr⟩ := List.cons.inj hd
    have tl : pk8 (z.take i) < 2 ^ (3 * i) := by
      rw [p8w]
      have := pk8_l (z.take i) (fun x hx => by have := hz.2.1 x (List.mem_of_mem_take hx); omega)
      rw [List.length_take, Nat.min_eq_left (by omega)] at this
      exact this
    have e1 : pk8 (z.take (i + 1)) = pk8 (z.take i) + 2 ^ (3 * i) * lw R := by
      rw [tk_c il, pk8_a, List.length_take, Nat.min_eq_left (by omega), p8w, ← hx]
      show _ + 8 ^ i * (lw R + 8 * 0) = _
      rw [Nat.mul_zero, Nat.add_zero]
    have hs : lw R * 2 ^ (3 * i) < 2 ^ 32 := by
      have a1 : 2 ^ (3 * i) ≤ 2 ^ 18 := Nat.pow_le_pow_right (by decide) (by omega)
      have a2 : lw R * 2 ^ (3 * i) ≤ 6 * 2 ^ 18 := Nat.mul_le_mul (by omega) a1
      omega
    refine am_run hX 3 _ _ _ _ ?_
    conv => whnf
    refine ⟨fun z => absurd z (nI_ge (by omega) (by omega)), fun _ => ?_⟩
    refine am_run hX 6 _ _ _ _ ?_
    conv => whnf
    rw [show (6 : Int32) - nI i = nI (6 - i) from by rw [show (6 : Int32) = nI 6 from rfl, nI_sub (by omega)]]
    refine ⟨nI_ne0 (by omega) (by omega), ?_⟩
    rw [nI_dv (by omega) (by omega), hE]
    refine am_run hX 6 _ _ _ _ ?_
    conv => whnf
    refine ⟨nI_ne0 (by omega) (by omega), ?_⟩
    rw [nI_dv (by omega) (by omega)]
    refine plo_i (M := M) (R := R) hX ?_ (lf / E) fr b2 hR
    refine am_run hX 4 _ _ _ _ ?_
    conv => whnf
    refine ⟨nI_ne0 (by omega) (by omega), ?_⟩
    rw [nI_rm (by omega) (by omega)]
    refine am_run hX 3 _ _ _ _ ?_
    conv => whnf
    refine am_c1 (ct_low (d := d) (by omega) b3) ?_
    refine am_run hX 17 _ _ _ _ ?_
    conv => whnf
    rw [show (3 : Int32) * nI i = nI (3 * i) from by rw [show (3 : Int32) = nI 3 from rfl, nI_mul], nI_ors (by omega) tl hs, ← e1, g1, nI_andn, b6, nI_1]
    exact ih (i + 1) _ _ _ _ _ (by omega) hlf' hea' b7 hdr.symm
set_option maxRecDepth 100000 in
theorem ct_plsO {r : Nat} (hW : W ≤ 6) (hr : r < cnW W) : am_M (d + 3) false nm_X7_placesOf [aI (nI r), aI (nI W), aI (nI (cnW W))] M (am_q1 (aI (nI (pk8 (unP W r)))) M) := by
  have h7 := (cnW_7 W (by omega)).1
  have hz := (unP_a hW hr).1
  have hB := List.all_eq_true.mp (unB_ok W (by omega)) r (List.mem_range.mpr hr)
  refine ⟨rfl, rfl, rfl, fun X hX => am_run hX 10 _ _ _ _ ?_⟩
  conv => whnf
  exact plo_l (d := d) (M := M) (z := unP W r) hX hW hz ⟨rfl, rfl⟩ W 0 63 r (cnW W) none none (by omega) (by omega) (by omega) hB rfl
end RTK
