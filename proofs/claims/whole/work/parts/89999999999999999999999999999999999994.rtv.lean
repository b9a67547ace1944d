/-! ROUTE: the class's canRoute; the OPS laid are right -/
set_option maxRecDepth 100000 in
theorem wc_1 : ∀ w, w < 6 → ∀ c, c < 64 → c.testBit w = true ∨ pc (2 ^ w ||| c) = 1 + pc c := by decide +kernel
set_option maxRecDepth 100000 in
theorem wc_2 : ∀ w, w < 6 → ∀ s, s < 6 → ∀ c, c < 64 → (decide (w = s) || c.testBit w || c.testBit s) = true ∨ pc (2 ^ w ||| 2 ^ s ||| c) = 2 + pc c := by decide +kernel
theorem pc_ws {W : Nat} {x : bk_X} (hW : W ≤ 6) (ho : ogd W x) : pc (wsN x) = wnX x := by
  have c64 : x.2.2.2.1 < 64 := Nat.lt_of_lt_of_le ho.1.2.2.2.1 (Nat.pow_le_pow_right (n := 2) (by decide) hW)
  have w6 : x.2.1 < 6 := by have := ho.1.2.1; omega
  unfold wsN wnX
  by_cases e8 : x.1 = 8
  · obtain ⟨s1, s2, s3⟩ := ho.2.2 e8
    rw [if_pos e8, if_pos e8]
    rcases wc_2 x.2.1 w6 x.2.2.1 (by omega) x.2.2.2.1 c64 with z | z
    · rw [ho.2.1, s3, Bool.or_false, Bool.or_false] at z
      exact absurd (of_decide_eq_true z) s2
    · rw [z]
      omega
  · rw [if_neg e8, if_neg e8, Nat.or_zero]
    rcases wc_1 x.2.1 w6 x.2.2.2.1 c64 with z | z
    · rw [ho.2.1] at z
      exact absurd z (by decide)
    · rw [z, Nat.add_zero]
theorem arr_j {W : Nat} {p : List Nat} (h : arr W p) {a b : Nat} (ha : a < W) (hb : b < W) (e : p.getD a 0 = p.getD b 0) : a = b := by
  have ha' : a < p.length := by rw [h.1]; exact ha
  have hb' : b < p.length := by rw [h.1]; exact hb
  exact (List.getD_inj ha' hb' h.2.2).mp e
theorem hdW_t {p : List Nat} {s b : Nat} : ∀ m, (hdW p s m).testBit b = true → ∃ w, w < m ∧ s.testBit w = true ∧ p.getD w 0 = b
  | 0, h => by
    rw [show hdW p s 0 = 0 from rfl, Nat.zero_testBit] at h
    exact absurd h (by decide)
  | m + 1, h => by
    rw [show hdW p s (m + 1) = hdW p s m ||| (if s / 2 ^ m % 2 = 1 then 2 ^ p.getD m 0 else 0) from rfl, Nat.testBit_or] at h
    rcases Bool.or_eq_true_iff.mp h with h | h
    · obtain ⟨w, a, b, c⟩ := hdW_t m h
      exact ⟨w, by omega, b, c⟩
    · by_cases q : s / 2 ^ m % 2 = 1
      · rw [if_pos q, Nat.testBit_two_pow] at h
        exact ⟨m, Nat.lt_succ_self m, (tb_d s m).mpr q, of_decide_eq_true h⟩
      · rw [if_neg q, Nat.zero_testBit] at h
        exact absurd h (by decide)
section RTV
variable {d : Nat} {M : mm_M} {n c W : Nat} {l : List bk_X} {Lk : Nat → Nat → Bool} {p : List Nat}
theorem ogd_pl {x : bk_X} (ha : arr W p) (ho : ogd W x) : ogd 6 (plX W p x) := by
  have tb : ∀ v, v < W → x.2.2.2.1.testBit v = false → (hdW p x.2.2.2.1 W).testBit (p.getD v 0) = false := by
    intro v hv hz
    cases hq : (hdW p x.2.2.2.1 W).testBit (p.getD v 0) with
    | false => rfl
    | true =>
      obtain ⟨w, a, b, c⟩ := hdW_t W hq
      have e := arr_j ha a hv c
      rw [e, hz] at b
      exact absurd b (by decide)
  have p1 := l6 ha ho.1.2.1
  refine ⟨⟨ho.1.1, p1, ?_, hdW_l W (fun w hw => l6 ha hw), (by decide : 0 < 16), (by decide : 0 < 16)⟩, tb _ ho.1.2.1 ho.2.1, fun e8 => ?_⟩
  · show (if x.1 = 8 then p.getD x.2.2.1 0 else 0) < 8
    split
    · rename_i q
      have := l6 ha (ho.2.2 q).1
      omega
    · decide
  · have e8 : x.1 = 8 := e8
    obtain ⟨s1, s2, s3⟩ := ho.2.2 e8
    have es : (plX W p x).2.2.1 = p.getD x.2.2.1 0 := if_pos e8
    rw [es]
    exact ⟨l6 ha s1, fun z => s2 (arr_j ha ho.1.2.1 s1 z), tb _ s1 s3⟩
theorem sg_m {x : bk_X} : ∀ (m a : Nat), x ∈ sgL W p l a m → ∃ j, j < a + m ∧ x = plX W p (zg l j)
  | 0, _, h => absurd h List.not_mem_nil
  | m + 1, a, h => by
    rcases List.mem_append.mp h with h | h
    · obtain ⟨j, a1, a2⟩ := sg_m m a h
      exact ⟨j, by omega, a2⟩
    · exact ⟨a + m, by omega, List.mem_singleton.mp h⟩
theorem ogd_sw {e : Nat} (h : rtV Lk e) : ogd 6 (8, e / 6, e % 6, 0, 0, 0) := by
  obtain ⟨a, b, _⟩ := h
  refine ⟨⟨(by decide : 8 ≤ 10), (by omega : e / 6 < 6), (by omega : e % 6 < 8), (by decide : 0 < 2 ^ 6), (by decide : 0 < 16), (by decide : 0 < 16)⟩, Nat.zero_testBit _, fun _ => ⟨(by omega : e % 6 < 6), (by omega : e / 6 ≠ e % 6), Nat.zero_testBit _⟩⟩
theorem rtw_o (hO : ∀ j, j < l.length → ogd W (zg l j)) : ∀ (u : List Nat) (k : List Nat × Nat), alV (rtV Lk) u → arr W k.1 → k.2 ≤ l.length → ∀ x ∈ rtw W l Lk u k, ogd 6 x
  | [], _, _, _, _ => fun x hx => absurd hx List.not_mem_nil
  | e :: u, k, hu, ha, hk => by
    intro x hx
    have he := hu e List.mem_cons_self
    have ha' : arr W (rtS Lk (rtPp l) l.length e k).1 := arr_s he.1 he.2.1 ha
    have hk' : (rtS Lk (rtPp l) l.length e k).2 ≤ l.length := ad_le hk
    rcases List.mem_cons.mp hx with rfl | hx
    · exact ogd_sw he
    · rcases List.mem_append.mp hx with hx | hx
      · obtain ⟨j, a1, rfl⟩ := sg_m _ _ hx
        have g : k.2 ≤ (rtS Lk (rtPp l) l.length e k).2 := ad_ge _
        exact ogd_pl ha' (hO j (by omega))
      · exact rtw_o hO u _ (fun y hy => hu y (List.mem_cons_of_mem _ hy)) ha' hk' x hx
theorem rtT_o {w : List Nat} (hW : W ≤ 6) (hO : ∀ j, j < l.length → ogd W (zg l j)) (hw : alV (rtV Lk) w) : ∀ x ∈ rtT W l Lk w, ogd 6 x := by
  intro x hx
  have h0 : (rt0 Lk (rtPp l) l.length W).2 ≤ l.length := ad_le (Nat.zero_le _)
  rcases List.mem_append.mp hx with hx | hx
  · obtain ⟨j, a1, rfl⟩ := sg_m _ _ hx
    exact ogd_pl (arr_0 hW) (hO j (by omega))
  · exact rtw_o hO w _ hw (arr_0 hW) h0 x hx
set_option maxRecDepth 100000 in
theorem cnr_l {P : am_Q} {X : am_X} (hX : am_K (d + 4) false nm_X7_canRoute P X) (hb : bk_iv M n) (hc : c < n) (hW : W ≤ 6) (hC : bk_c M c W l.length) (hl : opsL M c W l) (hg : ∀ j, j < l.length → ogd W (zg l j)) (h1 : (∀ j, j < l.length → wnX (zg l j) ≤ 2) → P (.inl (some (aI 1))) M) (h0 : ¬ (∀ j, j < l.length → wnX (zg l j) ≤ 2) → P (.inl (some (aI 0))) M) : ∀ (m k : Nat), k + m = l.length → (∀ j, j < k → wnX (zg l j) ≤ 2) → X 23 [some (aR 70), some (aR 9), some (aI (nI c)), some (aI (nI k))] [] M := by
  have hl3 := hl.2.2.1
  have n20 := hb.1
  intro m
  induction m with
  | zero =>
    intro k hk hM
    obtain rfl : k = l.length := by omega
    refine am_run hX 6 _ _ _ _ ?_
    conv => whnf
    refine ⟨vp_in_nI (by show c < 20; omega) (by decide), ?_⟩
    conv => whnf
    rw [nI_clamp (n := c) (by omega), hl.1]
    refine ⟨fun _ => ?_, fun z => absurd (nI_le (Nat.le_refl _) (by omega)) z⟩
    refine am_run hX 2 _ _ _ _ ?_
    conv => whnf
    exact ⟨rfl, h1 hM⟩
  | succ m ih =>
    intro k hk hM
    have kl : k < l.length := by omega
    have ho := hg k kl
    have key := bk_at (d := d + 1) (M := M) hb hc hC kl
    rw [(hl.2.2.2 k kl).2.1] at key
    have q3 : wsN (zg l k) < 65536 := by
      have c64 : (zg l k).2.2.2.1 < 2 ^ 6 := Nat.lt_of_lt_of_le ho.1.2.2.2.1 (Nat.pow_le_pow_right (n := 2) (by decide) hW)
      have w6 : (zg l k).2.1 < 6 := by have := ho.1.2.1; omega
      have a1 : 2 ^ (zg l k).2.1 < 2 ^ 16 := Nat.pow_lt_pow_right (by decide) (by omega)
      have a2 : (if (zg l k).1 = 8 then 2 ^ (zg l k).2.2.1 else 0) < 2 ^ 16 := by
        split
        · exact Nat.pow_lt_pow_right (by decide) (by have := ho.1.2.2.1; omega)
        · decide
      exact Nat.or_lt_two_pow (Nat.or_lt_two_pow a1 a2) (Nat.lt_of_lt_of_le c64 (by decide))
    have hpc := pc_b (wsN (zg l k))
    rw [pc_ws hW ho] at hpc
    refine am_run hX 6 _ _ _ _ ?_
    conv => whnf
    refine ⟨vp_in_nI (by show c < 20; omega) (by decide), ?_⟩
    conv => whnf
    rw [nI_clamp (n := c) (by omega), hl.1]
    refine ⟨fun z => absurd z (nI_ge (by omega) (by omega)), fun _ => ?_⟩
    refine am_run hX 4 _ _ _ _ ?_
    conv => whnf
    refine am_c1 key ?_
    refine am_run hX 1 _ _ _ _ ?_
    conv => whnf
    refine am_c1 (ct_wsO (d := d + 2) (W := W) (by omega) ho.1) ?_
    refine am_run hX 1 _ _ _ _ ?_
    conv => whnf
    refine am_c1 (ct_bit16 (d + 3) (wsN (zg l k)) q3 M) ?_
    rw [pc_ws hW ho]
    refine am_run hX 2 _ _ _ _ ?_
    conv => whnf
    refine ⟨fun z => ?_, fun z => ?_⟩
    · have hw : wnX (zg l k) ≤ 2 := Classical.byContradiction fun q => absurd z (nI_ge (a := 2) (b := wnX (zg l k)) (by omega) (by omega))
      refine am_run hX 2 _ _ _ _ ?_
      conv => whnf
      rw [nI_1]
      refine ih (k + 1) (by omega) (fun j hj => ?_)
      by_cases e : j = k
      · rw [e]
        exact hw
      · exact hM j (by omega)
    · refine am_run hX 2 _ _ _ _ ?_
      conv => whnf
      exact ⟨rfl, h0 (fun w => z (nI_le (a := wnX (zg l k)) (b := 2) (w k kl) (by decide)))⟩
set_option maxRecDepth 100000 in
theorem ct_canRo {F : Nat → Nat × List bk_X} (hB : bkX M n F) (hc : c < n) : am_M (d + 5) false nm_X7_canRoute [aR 70, aR 9, aI (nI c)] M (fun r N => N = M ∧ ((rtE (F c).1 (F c).2 ∧ r = .inl (some (aI 1))) ∨ (¬ rtE (F c).1 (F c).2 ∧ r = .inl (some (aI 0))))) := by
  have n20 := hB.1
  have hC := bkX_c hB hc
  obtain ⟨w1, w8, f12, _, hl, ok, hg⟩ := hB.2.2.2 c hc
  refine ⟨rfl, rfl, rfl, fun X hX => am_run hX 6 _ _ _ _ ?_⟩
  conv => whnf
  refine ⟨vp_in_nI (by show c < 20; omega) (by decide), ?_⟩
  conv => whnf
  rw [nI_clamp (n := c) (by omega), f12]
  refine ⟨fun z => ?_, fun z => ?_⟩
  · have w6 : ¬ (F c).1 ≤ 6 := fun q => absurd z (nI_nlt (a := 6) (b := (F c).1) q (by decide))
    refine am_run hX 2 _ _ _ _ ?_
    conv => whnf
    exact ⟨rfl, rfl, Or.inr ⟨fun q => w6 q.2.1, rfl⟩⟩
  · have w6 : (F c).1 ≤ 6 := Classical.byContradiction fun q => z (nI_lt (a := 6) (b := (F c).1) (by omega) (by omega))
    refine am_run hX 3 _ _ _ _ ?_
    conv => whnf
    refine am_c1 (ct_isGates (d := d) (bkX_cir hB hc)) ?_
    refine am_run hX 1 _ _ _ _ ?_
    conv => whnf
    by_cases hp : allN (fun j => pureB (zg (F c).2 j)) (F c).2.length = true
    · rw [if_pos hp]
      have hp := pur_a.mp hp
      refine ⟨fun _ => ?_, fun z => absurd (by decide) z⟩
      refine am_run hX 2 _ _ _ _ ?_
      conv => whnf
      exact cnr_l (d := d) hX (bkX_i hB) hc w6 hC hl hg (fun h => ⟨rfl, Or.inl ⟨⟨hp, w6, h⟩, rfl⟩⟩) (fun h => ⟨rfl, Or.inr ⟨fun q => h q.2.2, rfl⟩⟩) (F c).2.length 0 (by omega) (fun j hj => absurd hj (Nat.not_lt_zero _))
    · rw [if_neg hp]
      refine ⟨fun z => absurd rfl z, fun _ => ?_⟩
      refine am_run hX 2 _ _ _ _ ?_
      conv => whnf
      exact ⟨rfl, rfl, Or.inr ⟨fun q => hp (pur_a.mpr q.1), rfl⟩⟩
end RTV
