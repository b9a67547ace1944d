/-! code: the reference examines: which corrections fail -/
section EXE
variable {d : Nat} {M : mm_M} {n s : Nat} {x z : Nat → Nat}
theorem cdRe_l {v : Nat} (hn : n ≤ 8) (hx : ∀ j, j < s → x j < 256 ∧ z j < 256) : cdRe x z n s v < 65536 := by
  have l1 := vcW_l (n := n) (x := v) cpX_1 hn
  have l2 := vcW_l (n := n) (x := v) cpZ_1 hn
  exact rdV_l (by omega) (fun j hj => rdT_l (s := s) (fun j hj => by have := hx j hj; omega) s (Nat.le_refl _) j)
/-- the product of two PAULIS, by its NUMBER -/
def prN (n v y : Nat) : Nat := nuF (vcW cpX n v ^^^ vcW cpX n y) (vcW cpZ n v ^^^ vcW cpZ n y) n
theorem vcW_p {h : Nat → Nat} {n v : Nat} (hh : ∀ k, h k ≤ 1) (hn : n ≤ 8) : vcW h n v < 2 ^ n := by
  refine Nat.lt_pow_two_of_testBit _ (fun i hi => ?_)
  refine Bool.eq_false_iff.mpr (fun q => ?_)
  have := ((vcW_t hh hn).mp q).1
  omega
theorem prN_r {v y : Nat} (hn : n ≤ 8) : cdRe x z n s (prN n v y) = cdRe x z n s v ^^^ cdRe x z n s y := by
  have px := Nat.xor_lt_two_pow (vcW_p (h := cpX) (v := v) cpX_1 hn) (vcW_p (h := cpX) (v := y) cpX_1 hn)
  have pz := Nat.xor_lt_two_pow (vcW_p (h := cpZ) (v := v) cpZ_1 hn) (vcW_p (h := cpZ) (v := y) cpZ_1 hn)
  unfold cdRe prN
  rw [nuF_v (c := fun _ _ => 0) cpX_1 hn px (fun j => (dg_bit j).1), nuF_v (c := fun _ _ => 0) cpZ_1 hn pz (fun j => (dg_bit j).2), ← xor_256 (vcW_l cpX_1 hn) (vcW_l cpX_1 hn), rdV_x]
def exK (M N : mm_M) (n s : Nat) (sy : Nat → Nat) (re : Nat → Int32) (v : Nat) : Prop := exF M N ∧ (∀ k, k ≠ 184 → N.1 k = M.1 k) ∧ ∀ w, w < 9 → N.1 184 w = nI (kN (pC sy re (4 ^ n) w) v)
set_option maxRecDepth 100000 in
theorem ex_6 {P : am_Q} {X : am_X} (hX : am_K (d + 3) false nm_X12_examine P X) (hR : exR M n s x z) (h181 : ∀ u, u < 4 ^ n → M.1 181 u = nI (srt (cdSy x z n s) (fun v => nI (cdRe x z n s v)) u)) (h185 : ∀ u, u < 256 → M.1 185 u = oN (lsCd (cdSy x z n s) (4 ^ n) u)) (hk : ∀ N, exK M N n s (cdSy x z n s) (fun v => nI (cdRe x z n s v)) (4 ^ n) → P (.inl none) N) : ∀ (m v : Nat) (N : mm_M) (l3 l4 l5 : Option am_V), v + m = 4 ^ n → exK M N n s (cdSy x z n s) (fun v => nI (cdRe x z n s v)) v → X 393 [some (aR 108), some (aI (nI (4 ^ n))), some (aI (nI v)), l3, l4, l5] [] N := by
  have h4 : 4 ^ n ≤ 65536 := Nat.pow_le_pow_right (n := 4) (j := 8) (by decide) hR.2.2.2.1
  have s8 := hR.2.2.2.2.1
  have n8 := hR.2.2.2.1
  have n1 := hR.2.2.1
  have hg : ∀ j, j < s → x j < 256 ∧ z j < 256 := fun j hj => (hR.2.2.2.2.2 j hj).2.2
  intro m
  induction m with
  | zero =>
    intro v N l3 l4 l5 ev h
    obtain rfl : v = 4 ^ n := by omega
    refine am_run hX 4 _ _ _ _ ?_
    conv => whnf
    refine ⟨fun _ => ?_, fun c => absurd (nI_le (Nat.le_refl _) (by omega)) c⟩
    conv => whnf
    exact ⟨trivial, hk N h⟩
  | succ m ih =>
    intro v N l3 l4 l5 ev h
    obtain ⟨hF, j1, j2⟩ := h
    have hN := exR_f hR hF
    have hv4 : v < 4 ^ n := by omega
    have hw8 := wN_le 8 v
    have hsl : cdSy x z n s v < 2 ^ s := fsY_l _ _ _ _ s
    have hy := pw2 s8 hsl
    obtain ⟨y, hyo⟩ := ls_n (sy := cdSy x z n s) (4 ^ n) hv4
    have hy4 := (ls_s (4 ^ n) hyo).1
    have e185 : N.1 185 (nI (cdSy x z n s v)).toNatClampNeg = nI y := by
      rw [nI_clamp (by omega), j1 185 (by decide), h185 _ hy, hyo]
      rfl
    have lx := vcW_l (n := n) (x := v) cpX_1 n8
    have lz := vcW_l (n := n) (x := v) cpZ_1 n8
    have lx' := vcW_l (n := n) (x := y) cpX_1 n8
    have lz' := vcW_l (n := n) (x := y) cpZ_1 n8
    have mx := xor_lt8 lx lx'
    have mz := xor_lt8 lz lz'
    have hp1 := ct_pOf (d := d + 2) (M := N) (n := n) (x := v) hN.1 n1 n8 (by omega)
    have hp2 := ct_pOf (d := d + 2) (M := N) (n := n) (x := y) hN.1 n1 n8 (by omega)
    rw [pfR_v n8] at hp1 hp2
    have hu4 : prN n v y < 4 ^ n := nuF_l _ _ n
    have hend : ∀ b : Nat, b = (if pC (cdSy x z n s) (fun v => nI (cdRe x z n s v)) (4 ^ n) (wN 8 v) v = true then 1 else 0) → ∀ l3, X 457 [some (aR 108), some (aI (nI (4 ^ n))), some (aI (nI v)), l3, l4, l5] [aI (nI b), aI (N.1 184 (wN 8 v)), aI (nI (wN 8 v)), aR 184] N := by
      intro b hb l3
      refine am_run hX 4 _ _ _ _ ?_
      conv => whnf
      refine ⟨vp_in_nI (by show wN 8 v < 9; omega) (by decide), ?_⟩
      conv => whnf
      rw [nI_clamp (n := wN 8 v) (by omega), nI_1]
      refine ih (v + 1) _ _ _ _ (by omega) ⟨exF_t hF (exF_i (by decide)), fun k hk => ?_, ?_⟩
      · rw [mm_ne _ _ _ _ hk]
        exact j1 k hk
      · rw [mm_i1]
        refine up_k (p := pC (cdSy x z n s) (fun v => nI (cdRe x z n s v)) (4 ^ n)) j2 hb (fun u hu => ?_) (by omega)
        exact decide_eq_false (fun q => hu q.1.symm)
    refine am_run hX 36 _ _ _ _ ?_
    conv => whnf
    refine ⟨fun c => absurd c (nI_ge (by omega) (by omega)), fun _ => ?_⟩
    conv => whnf
    refine am_c1 hp1 ?_
    conv => whnf
    refine am_c1 (ct_syE (d := d) hN (by omega)) ?_
    conv => whnf
    refine ⟨vp_in_nI (by show cdSy x z n s v < 256; omega) (by decide), ?_⟩
    conv => whnf
    rw [e185]
    refine am_c1 hp2 ?_
    conv => whnf
    rw [nI_xor, xor_256 lx lx']
    refine am_c1 (ct_wRf (d := d + 2) hN.1 n8 hv4) ?_
    conv => whnf
    refine ⟨vp_in_nI (by show wN 8 v < 9; omega) (by decide), ?_⟩
    conv => whnf
    rw [nI_clamp (n := wN 8 v) (by omega), nI_m255, nI_s8 (by omega), show ((vcW cpX n v ^^^ vcW cpX n y) + 256 * (vcW cpZ n v ^^^ vcW cpZ n y)) % 256 = vcW cpX n v ^^^ vcW cpX n y by omega, show ((vcW cpX n v ^^^ vcW cpX n y) + 256 * (vcW cpZ n v ^^^ vcW cpZ n y)) / 256 = vcW cpZ n v ^^^ vcW cpZ n y by omega]
    refine am_c1 (ct_numO (d := d + 2) n8 hN.1 mx mz) ?_
    conv => whnf
    refine ⟨vp_in_nI (by show prN n v y < 65536; omega) (by decide), ?_⟩
    conv => whnf
    have e181 : N.1 181 (nI (nuF (vcW cpX n v ^^^ vcW cpX n y) (vcW cpZ n v ^^^ vcW cpZ n y) n)).toNatClampNeg = nI (srt (cdSy x z n s) (fun v => nI (cdRe x z n s v)) (prN n v y)) := by
      show N.1 181 (nI (prN n v y)).toNatClampNeg = _
      rw [nI_clamp (by omega), j1 181 (by decide)]
      exact h181 _ hu4
    rw [e181]
    have hv6 := cdRe_l (v := v) n8 hg
    have hy6 := cdRe_l (v := y) n8 hg
    have hu6 := cdRe_l (v := prN n v y) n8 hg
    have hiff : srt (cdSy x z n s) (fun v => nI (cdRe x z n s v)) (prN n v y) = 2 ↔ cdRe x z n s v = cdRe x z n s y := by
      have e0 : nI (cdRe x z n s (prN n v y)) = 0 ↔ cdRe x z n s y = cdRe x z n s v := (nI_eq (b := 0) (by omega) (by decide)).trans (by rw [prN_r n8]; exact xor_0)
      unfold srt
      by_cases c : (fun v => nI (cdRe x z n s v)) (prN n v y) = 0
      · rw [if_pos c]
        exact ⟨fun _ => (e0.mp c).symm, fun _ => rfl⟩
      · rw [if_neg c]
        refine ⟨fun q => ?_, fun q => absurd (e0.mpr q.symm) c⟩
        split at q <;> cases q
    have t3 : srt (cdSy x z n s) (fun v => nI (cdRe x z n s v)) (prN n v y) < 3 := by
      unfold srt
      split
      · decide
      · split <;> decide
    have hpc : pC (cdSy x z n s) (fun v => nI (cdRe x z n s v)) (4 ^ n) (wN 8 v) v = true ↔ ¬ cdRe x z n s v = cdRe x z n s y := by
      unfold pC
      rw [hyo, decide_eq_true_eq]
      show (wN 8 v = wN 8 v ∧ ¬ nI (cdRe x z n s v) = nI (cdRe x z n s y)) ↔ _
      rw [nI_eq (by omega) (by omega)]
      exact ⟨fun q => q.2, fun q => ⟨rfl, q⟩⟩
    refine ⟨fun c => ?_, fun c => ?_⟩
    · have c0 : ¬ cdRe x z n s v = cdRe x z n s y := fun e => c (by rw [hiff.mpr e]; rfl)
      refine am_run hX 1 _ _ _ _ ?_
      conv => whnf
      exact hend 1 (by rw [if_pos (hpc.mpr c0)]) _
    · have c0 : cdRe x z n s v = cdRe x z n s y := hiff.mp ((nI_eq (b := 2) (by omega) (by decide)).mp (Classical.not_not.mp c))
      refine am_run hX 2 _ _ _ _ ?_
      conv => whnf
      exact hend 0 (by rw [if_neg (fun q => hpc.mp q c0)]) _
end EXE
