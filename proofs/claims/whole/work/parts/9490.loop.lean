/-! the law: its loop, and from its entry to the loop -/
/-- what is asked of all pairs of methods, n calls behind the start -/
def la_Hyp (ac : Nat → ClassId) (lo : Nat) (ad as : Nat → Nat) (b L : Nat) (xs : Nat → Int32) (hp : mm_M → Nat → xm_H) (I : Nat → mm_M → Prop) (n : Nat) : Prop :=
  (∀ (p0 : Int64) (p1 : Int32), la_I ac lo ad as b L xs hp (I n) (I (n + 1)) nm_X11_type nm_X12_type [.long p0, .int p1]) ∧
  (la_TI ac lo ad as b L xs hp (I n) (I (n + 1)) nm_L_circuit nm_X12_circuit []) ∧
  (∀ (p0 : Int32), la_I ac lo ad as b L xs hp (I n) (I (n + 1)) nm_X11_fault nm_X12_fault [.int p0]) ∧
  (la_V ac lo ad as b L xs hp (I n) (I (n + 1)) nm_X11_clear nm_X12_clear []) ∧
  (∀ (p0 : Int32) (p1 : Int32), la_I ac lo ad as b L xs hp (I n) (I (n + 1)) nm_X11_look nm_X12_look [.int p0, .int p1]) ∧
  (∀ (p0 : Int32) (p1 : Int32) (p2 : Int32), la_I ac lo ad as b L xs hp (I n) (I (n + 1)) nm_X11_op nm_X12_op [.int p0, .int p1, .int p2]) ∧
  (∀ (p0 : Int32) (p1 : Int32), la_I ac lo ad as b L xs hp (I n) (I (n + 1)) nm_X11_written nm_X12_written [.int p0, .int p1]) ∧
  (∀ (p0 : Int32) (p1 : Int32) (p2 : Int32), la_I ac lo ad as b L xs hp (I n) (I (n + 1)) nm_X11_derive nm_X12_derive [.int p0, .int p1, .int p2]) ∧
  (∀ (p0 : Int32) (p1 : Int32) (p2 : Int64), la_I ac lo ad as b L xs hp (I n) (I (n + 1)) nm_X11_begin nm_X12_begin [.int p0, .int p1, .long p2]) ∧
  (∀ (p0 : Int32), la_TI ac lo ad as b L xs hp (I n) (I (n + 1)) nm_L_run nm_X12_run [.int p0]) ∧
  (∀ (p0 : Int32), la_I ac lo ad as b L xs hp (I n) (I (n + 1)) nm_X11_state nm_X12_state [.int p0]) ∧
  (∀ (p0 : Int32) (p1 : Int32), la_TJ ac lo ad as b L xs hp (I n) (I (n + 1)) nm_L_amplitude nm_X12_amplitude [.int p0, .int p1]) ∧
  (∀ (p0 : Int32) (p1 : Int32) (p2 : Int32), la_TJ ac lo ad as b L xs hp (I n) (I (n + 1)) nm_L_weight nm_X12_weight [.int p0, .int p1, .int p2]) ∧
  (∀ (p0 : Int32) (p1 : Int32) (p2 : Int32), la_TJ ac lo ad as b L xs hp (I n) (I (n + 1)) nm_L_expected nm_X12_expected [.int p0, .int p1, .int p2]) ∧
  (∀ (p0 : Int32) (p1 : Int32) (p2 : Int32) (p3 : Int32), la_TJ ac lo ad as b L xs hp (I n) (I (n + 1)) nm_L_mixed nm_X12_mixed [.int p0, .int p1, .int p2, .int p3]) ∧
  (∀ (p0 : Int32), la_I ac lo ad as b L xs hp (I n) (I (n + 1)) nm_X11_nodes nm_X12_nodes [.int p0]) ∧
  (∀ (p0 : Int32) (p1 : Int32), la_I ac lo ad as b L xs hp (I n) (I (n + 1)) nm_X11_group nm_X12_group [.int p0, .int p1]) ∧
  (∀ (p0 : Int32), la_I ac lo ad as b L xs hp (I n) (I (n + 1)) nm_X11_table nm_X12_table [.int p0]) ∧
  (∀ (p0 : Int32) (p1 : Int32) (p2 : Int32), la_I ac lo ad as b L xs hp (I n) (I (n + 1)) nm_X11_gate nm_X12_gate [.int p0, .int p1, .int p2]) ∧
  (∀ (p0 : Int32) (p1 : Int32), la_I ac lo ad as b L xs hp (I n) (I (n + 1)) nm_X11_measure nm_X12_measure [.int p0, .int p1]) ∧
  (∀ (p0 : Int32) (p1 : Int32), la_I ac lo ad as b L xs hp (I n) (I (n + 1)) nm_X11_row nm_X12_row [.int p0, .int p1]) ∧
  (∀ (p0 : Int32) (p1 : Int32), la_I ac lo ad as b L xs hp (I n) (I (n + 1)) nm_X11_equal nm_X12_equal [.int p0, .int p1]) ∧
  (la_I ac lo ad as b L xs hp (I n) (I (n + 1)) nm_X11_same nm_X12_same []) ∧
  (∀ (p0 : Int32), la_I ac lo ad as b L xs hp (I n) (I (n + 1)) nm_X11_diagram nm_X12_diagram [.int p0]) ∧
  (∀ (p0 : Int32) (p1 : Int32), la_I ac lo ad as b L xs hp (I n) (I (n + 1)) nm_X11_spider nm_X12_spider [.int p0, .int p1]) ∧
  (∀ (p0 : Int32) (p1 : Int32) (p2 : Int32), la_I ac lo ad as b L xs hp (I n) (I (n + 1)) nm_X11_rewrite nm_X12_rewrite [.int p0, .int p1, .int p2]) ∧
  (la_I ac lo ad as b L xs hp (I n) (I (n + 1)) nm_X11_reduce nm_X12_reduce []) ∧
  (∀ (p0 : Int32) (p1 : Int32) (p2 : Int32), la_TJ ac lo ad as b L xs hp (I n) (I (n + 1)) nm_L_meaning nm_X12_meaning [.int p0, .int p1, .int p2]) ∧
  (la_TI ac lo ad as b L xs hp (I n) (I (n + 1)) nm_L_code nm_X12_code []) ∧
  (∀ (p0 : Int32), la_I ac lo ad as b L xs hp (I n) (I (n + 1)) nm_X11_codes nm_X12_codes [.int p0]) ∧
  (∀ (p0 : Int32) (p1 : Int32), la_I ac lo ad as b L xs hp (I n) (I (n + 1)) nm_X11_pauli nm_X12_pauli [.int p0, .int p1]) ∧
  (∀ (p0 : Int32), la_I ac lo ad as b L xs hp (I n) (I (n + 1)) nm_X11_form nm_X12_form [.int p0]) ∧
  (∀ (p0 : Int32), la_I ac lo ad as b L xs hp (I n) (I (n + 1)) nm_X11_letter nm_X12_letter [.int p0]) ∧
  (∀ (p0 : Int32), la_I ac lo ad as b L xs hp (I n) (I (n + 1)) nm_X11_least nm_X12_least [.int p0]) ∧
  (∀ (p0 : Int32) (p1 : Int32) (p2 : Int32), (p2 = 0 ∨ p2 = 1) → la_I ac lo ad as b L xs hp (I n) (I (n + 1)) nm_X11_link nm_X12_link [.int p0, .int p1, .int p2]) ∧
  (∀ (p0 : Int32), la_I ac lo ad as b L xs hp (I n) (I (n + 1)) nm_X11_route nm_X12_route [.int p0]) ∧
  (∀ (p0 : Int64), la_I ac lo ad as b L xs hp (I n) (I (n + 1)) nm_X11_game nm_X12_game [.long p0]) ∧
  (la_I ac lo ad as b L xs hp (I n) (I (n + 1)) nm_X11_played nm_X12_played []) ∧
  (∀ (p0 : Int32) (p1 : Int32) (p2 : Int32) (p3 : Int32) (p4 : Int32), la_I ac lo ad as b L xs hp (I n) (I (n + 1)) nm_X11_faulty nm_X12_faulty [.int p0, .int p1, .int p2, .int p3, .int p4]) ∧
  (∀ (p0 : Int32), la_I ac lo ad as b L xs hp (I n) (I (n + 1)) nm_X11_sum nm_X12_sum [.int p0]) ∧
  (∀ (p0 : Int32) (p1 : Int32) (p2 : Int32) (p3 : Int32), la_I ac lo ad as b L xs hp (I n) (I (n + 1)) nm_X11_term nm_X12_term [.int p0, .int p1, .int p2, .int p3]) ∧
  (∀ (p0 : Int32) (p1 : Int32), (p1 = 0 ∨ p1 = 1) → la_I ac lo ad as b L xs hp (I n) (I (n + 1)) nm_X11_ladder nm_X12_ladder [.int p0, .int p1]) ∧
  (∀ (p0 : Int32) (p1 : Int32), la_TI ac lo ad as b L xs hp (I n) (I (n + 1)) nm_L_told nm_X12_told [.int p0, .int p1]) ∧
  (la_I ac lo ad as b L xs hp (I n) (I (n + 1)) nm_X11_commutes nm_X12_commutes []) ∧
  (∀ (p0 : Int32) (p1 : Int32), la_I ac lo ad as b L xs hp (I n) (I (n + 1)) nm_X11_density nm_X12_density [.int p0, .int p1]) ∧
  (∀ (p0 : Int32) (p1 : Int32), la_I ac lo ad as b L xs hp (I n) (I (n + 1)) nm_X11_mix nm_X12_mix [.int p0, .int p1]) ∧
  (∀ (p0 : Int32) (p1 : Int32) (p2 : Int32), la_I ac lo ad as b L xs hp (I n) (I (n + 1)) nm_X11_spoil nm_X12_spoil [.int p0, .int p1, .int p2]) ∧
  (∀ (p0 : Int32) (p1 : Int32) (p2 : Int32), la_TJ ac lo ad as b L xs hp (I n) (I (n + 1)) nm_L_entry nm_X12_entry [.int p0, .int p1, .int p2]) ∧
  (∀ (p0 : Int32), la_TJ ac lo ad as b L xs hp (I n) (I (n + 1)) nm_L_purity nm_X12_purity [.int p0]) ∧
  (∀ (p0 : Int32) (p1 : Int32) (p2 : Int32) (p3 : Int32), la_I ac lo ad as b L xs hp (I n) (I (n + 1)) nm_X11_turn nm_X12_turn [.int p0, .int p1, .int p2, .int p3]) ∧
  (∀ (p0 : Int32) (p1 : Int32) (p2 : Int32), la_I ac lo ad as b L xs hp (I n) (I (n + 1)) nm_X11_kin nm_X12_kin [.int p0, .int p1, .int p2]) ∧
  (∀ (p0 : Int32) (p1 : Int32), la_I ac lo ad as b L xs hp (I n) (I (n + 1)) nm_X11_tensor nm_X12_tensor [.int p0, .int p1]) ∧
  (∀ (p0 : Int32), la_I ac lo ad as b L xs hp (I n) (I (n + 1)) nm_X11_cost nm_X12_cost [.int p0]) ∧
  (∀ (p0 : Int32), la_I ac lo ad as b L xs hp (I n) (I (n + 1)) nm_X11_total nm_X12_total [.int p0])
theorem la_bd : ∀ L, L < 385 → ∀ n, n < 65 → ¬ (Int32.ofNat L - 6 < Int32.ofNat (6 * n)) → 6 * n + 6 ≤ L := by decide +kernel
theorem la_in0 : ∀ n, n < 64 → ∀ L, L < 385 → 6 * n + 6 ≤ L → ¬ (Int32.ofNat (6 * n) + 0 < 0 ∨ L ≤ (Int32.ofNat (6 * n) + 0).toNatClampNeg) := by decide +kernel
theorem la_in1 : ∀ n, n < 64 → ∀ L, L < 385 → 6 * n + 6 ≤ L → ¬ (Int32.ofNat (6 * n) + 1 < 0 ∨ L ≤ (Int32.ofNat (6 * n) + 1).toNatClampNeg) := by decide +kernel
theorem la_in2 : ∀ n, n < 64 → ∀ L, L < 385 → 6 * n + 6 ≤ L → ¬ (Int32.ofNat (6 * n) + 2 < 0 ∨ L ≤ (Int32.ofNat (6 * n) + 2).toNatClampNeg) := by decide +kernel
theorem la_in3 : ∀ n, n < 64 → ∀ L, L < 385 → 6 * n + 6 ≤ L → ¬ (Int32.ofNat (6 * n) + 3 < 0 ∨ L ≤ (Int32.ofNat (6 * n) + 3).toNatClampNeg) := by decide +kernel
theorem la_in4 : ∀ n, n < 64 → ∀ L, L < 385 → 6 * n + 6 ≤ L → ¬ (Int32.ofNat (6 * n) + 4 < 0 ∨ L ≤ (Int32.ofNat (6 * n) + 4).toNatClampNeg) := by decide +kernel
theorem la_in5 : ∀ n, n < 64 → ∀ L, L < 385 → 6 * n + 6 ≤ L → ¬ (Int32.ofNat (6 * n) + 5 < 0 ∨ L ≤ (Int32.ofNat (6 * n) + 5).toNatClampNeg) := by decide +kernel
theorem la_in {L n : Nat} (hL : L ≤ 384) (hn : 6 * n + 6 ≤ L) : ∀ c : Int32, 0 ≤ c → c ≤ 5 → vp_in (Int32.ofNat (6 * n) + c) L := by
  intro c h0 h5
  obtain ⟨j, hj, rfl⟩ := nI_of (Int32.not_lt.mpr h0)
  have h9 : nI j ≤ nI 5 := h5
  have hj5 : j ≤ 5 := by
    apply Decidable.byContradiction
    intro hc
    exact Int32.not_le.mpr ((nI_ltI (by decide) hj).mpr (by omega)) h9
  rcases (by omega : j = 0 ∨ j = 1 ∨ j = 2 ∨ j = 3 ∨ j = 4 ∨ j = 5) with rfl | rfl | rfl | rfl | rfl | rfl
  · exact la_in0 n (by omega) L (by omega) hn
  · exact la_in1 n (by omega) L (by omega) hn
  · exact la_in2 n (by omega) L (by omega) hn
  · exact la_in3 n (by omega) L (by omega) hn
  · exact la_in4 n (by omega) L (by omega) hn
  · exact la_in5 n (by omega) L (by omega) hn
theorem la_iv0 {L n : Nat} (hL : L ≤ 384) (hn : 6 * n + 6 ≤ L) : vp_in (Int32.ofNat (6 * n)) L := by
  have h := la_in hL hn 0 (by decide) (by decide)
  rwa [Int32.add_zero] at h
section LB
variable {ac : Nat → ClassId} {lo : Nat} {ad as : Nat → Nat} {b L : Nat} {xs : Nat → Int32} {hp : mm_M → Nat → xm_H}
set_option maxRecDepth 100000 in
set_option maxHeartbeats 4000000 in
theorem la_head (H : mm_L ac lo hp) (hL : L ≤ 384) {X : xm_X} (hX : (∀ pc L' st h rc rs, xm_G ac lo xp_fty xp_dfl xp.2.2.2.2.2.2.1 (xp_sv ad as (b, L, xs)) 1000 [] (xm_M xp ac lo xp_fty xp_dfl (xp_sv ad as (b, L, xs)) 1000) (fun pc => xl_L_law.lookup pc) (some .boolean) (fun r _ => r = .inl (some (.int 1))) X pc L' st h rc rs → X pc L' st h rc rs)) (I : Nat → mm_M → Prop) (hd : ∀ n M, I n M → I (n + 1) M) (hy : ∀ n, 6 * n + 6 ≤ L → la_Hyp ac lo ad as b L xs hp I n) : ∀ (m n : Nat) (M : mm_M) (z rc rs : Nat) (l5 l6 l7 : Option Value), L ≤ 6 * (n + m) + 5 → 6 * n ≤ L → I n M → m ≤ rc → 6 * m ≤ rs → X 23 [some (.ref b), some (.ref (lo + 0)), some (.ref (lo + 108)), some (.ref (lo + 202)), some (.int (Int32.ofNat (6 * n))), l5, l6, l7] [] (hp M z) rc rs := by
  intro m
  induction m with
  | zero =>
    intro n M z rc rs l5 l6 l7 hm hn hI h1 h6
    refine xm_run hX 6 _ _ _ _ _ _ ?_
    conv => whnf
    refine ⟨0, _, _, rfl, ?_⟩
    conv => whnf
    refine ⟨fun _ => ?_, fun c => ?_⟩
    · refine xm_run hX 2 _ _ _ _ _ _ ?_
      conv => whnf
      exact ⟨⟨.boolean, rfl, rfl⟩, rfl⟩
    · have := la_bd L (by omega) n (by omega) c
      omega
  | succ m ih =>
    intro n M z rc rs l5 l6 l7 hm hn hI h1 h6
    refine xm_run hX 6 _ _ _ _ _ _ ?_
    conv => whnf
    refine ⟨0, _, _, rfl, ?_⟩
    conv => whnf
    refine ⟨fun _ => ?_, fun c => ?_⟩
    · refine xm_run hX 2 _ _ _ _ _ _ ?_
      conv => whnf
      exact ⟨⟨.boolean, rfl, rfl⟩, rfl⟩
    · have hn6 := la_bd L (by omega) n (by omega) c
      have hin := la_in hL hn6
      have hK : ∀ M z rc' rs' l5 l6 l7, I (n + 1) M → rc ≤ rc' + 1 → rs ≤ rs' + 6 → X 2622 [some (.ref b), some (.ref (lo + 0)), some (.ref (lo + 108)), some (.ref (lo + 202)), some (.int (Int32.ofNat (6 * n))), l5, l6, l7] [] (hp M z) rc' rs' := by
        intro M z rc' rs' l5 l6 l7 hI' h1' h6'
        refine xm_run hX 2 _ _ _ _ _ _ ?_
        conv => whnf
        refine ⟨Nat.le_of_ble_eq_true rfl, ?_⟩
        have hq := ih (n + 1) M z rc' rs' l5 l6 l7 (by omega) (by omega) hI' (by omega) (by omega)
        have e6 : Int32.ofNat (6 * (n + 1)) = Int32.ofNat (6 * n) + 6 := by rw [Nat.mul_succ, Int32.ofNat_add]; rfl
        rw [e6] at hq
        exact hq
      have hyn := hy n hn6
      obtain ⟨y0, y1, y2, y3, y4, y5, y6, y7, y8, y9, y10, y11, y12, y13, y14, y15, y16, y17, y18, y19, y20, y21, y22, y23, y24, y25, y26, y27, y28, y29, y30, y31, y32, y33, y34, y35, y36, y37, y38, y39, y40, y41, y42, y43, y44, y45, y46, y47, y48, y49, y50, y51, y52, y53⟩ := hyn
      refine xm_run hX 6 _ _ _ _ _ _ ?_
      conv => whnf
      refine ⟨0, _, _, rfl, la_iv0 hL hn6, ?_⟩
      conv => whnf
      refine ⟨fun _ => lar_0 H hX hin y0 (by omega) (by omega) hK z hI l5 l6 l7, fun _ => ?_⟩
      conv => whnf
      refine ⟨fun _ => lar_1 H hX hin y1 (by omega) (by omega) hK z hI l5 l6 l7, fun _ => ?_⟩
      conv => whnf
      refine ⟨fun _ => lar_2 H hX hin y2 (by omega) (by omega) hK z hI l5 l6 l7, fun _ => ?_⟩
      conv => whnf
      refine ⟨fun _ => lar_3 H hX hin y3 (by omega) (by omega) hK z hI l5 l6 l7, fun _ => ?_⟩
      conv => whnf
      refine ⟨fun _ => lar_4 H hX hin y4 (by omega) (by omega) hK z hI l5 l6 l7, fun _ => ?_⟩
      conv => whnf
      refine ⟨fun _ => lar_5 H hX hin y5 (by omega) (by omega) hK z hI l5 l6 l7, fun _ => ?_⟩
      conv => whnf
      refine ⟨fun _ => lar_6 H hX hin y6 (by omega) (by omega) hK z hI l5 l6 l7, fun _ => ?_⟩
      conv => whnf
      refine ⟨fun _ => lar_7 H hX hin y7 (by omega) (by omega) hK z hI l5 l6 l7, fun _ => ?_⟩
      conv => whnf
      refine ⟨fun _ => lar_8 H hX hin y8 (by omega) (by omega) hK z hI l5 l6 l7, fun _ => ?_⟩
      conv => whnf
      refine ⟨fun _ => lar_9 H hX hin y9 (by omega) (by omega) hK z hI l5 l6 l7, fun _ => ?_⟩
      conv => whnf
      refine ⟨fun _ => lar_10 H hX hin y10 (by omega) (by omega) hK z hI l5 l6 l7, fun _ => ?_⟩
      conv => whnf
      refine ⟨fun _ => lar_11 H hX hin y11 (by omega) (by omega) hK z hI l5 l6 l7, fun _ => ?_⟩
      conv => whnf
      refine ⟨fun _ => lar_12 H hX hin y12 (by omega) (by omega) hK z hI l5 l6 l7, fun _ => ?_⟩
      conv => whnf
      refine ⟨fun _ => lar_13 H hX hin y13 (by omega) (by omega) hK z hI l5 l6 l7, fun _ => ?_⟩
      conv => whnf
      refine ⟨fun _ => lar_14 H hX hin y14 (by omega) (by omega) hK z hI l5 l6 l7, fun _ => ?_⟩
      conv => whnf
      refine ⟨fun _ => lar_15 H hX hin y15 (by omega) (by omega) hK z hI l5 l6 l7, fun _ => ?_⟩
      conv => whnf
      refine ⟨fun _ => lar_16 H hX hin y16 (by omega) (by omega) hK z hI l5 l6 l7, fun _ => ?_⟩
      conv => whnf
      refine ⟨fun _ => lar_17 H hX hin y17 (by omega) (by omega) hK z hI l5 l6 l7, fun _ => ?_⟩
      conv => whnf
      refine ⟨fun _ => lar_18 H hX hin y18 (by omega) (by omega) hK z hI l5 l6 l7, fun _ => ?_⟩
      conv => whnf
      refine ⟨fun _ => lar_19 H hX hin y19 (by omega) (by omega) hK z hI l5 l6 l7, fun _ => ?_⟩
      conv => whnf
      refine ⟨fun _ => lar_20 H hX hin y20 (by omega) (by omega) hK z hI l5 l6 l7, fun _ => ?_⟩
      conv => whnf
      refine ⟨fun _ => lar_21 H hX hin y21 (by omega) (by omega) hK z hI l5 l6 l7, fun _ => ?_⟩
      conv => whnf
      refine ⟨fun _ => lar_22 H hX hin y22 (by omega) (by omega) hK z hI l5 l6 l7, fun _ => ?_⟩
      conv => whnf
      refine ⟨fun _ => lar_23 H hX hin y23 (by omega) (by omega) hK z hI l5 l6 l7, fun _ => ?_⟩
      conv => whnf
      refine ⟨fun _ => lar_24 H hX hin y24 (by omega) (by omega) hK z hI l5 l6 l7, fun _ => ?_⟩
      conv => whnf
      refine ⟨fun _ => lar_25 H hX hin y25 (by omega) (by omega) hK z hI l5 l6 l7, fun _ => ?_⟩
      conv => whnf
      refine ⟨fun _ => lar_26 H hX hin y26 (by omega) (by omega) hK z hI l5 l6 l7, fun _ => ?_⟩
      conv => whnf
      refine ⟨fun _ => lar_27 H hX hin y27 (by omega) (by omega) hK z hI l5 l6 l7, fun _ => ?_⟩
      conv => whnf
      refine ⟨fun _ => lar_28 H hX hin y28 (by omega) (by omega) hK z hI l5 l6 l7, fun _ => ?_⟩
      conv => whnf
      refine ⟨fun _ => lar_29 H hX hin y29 (by omega) (by omega) hK z hI l5 l6 l7, fun _ => ?_⟩
      conv => whnf
      refine ⟨fun _ => lar_30 H hX hin y30 (by omega) (by omega) hK z hI l5 l6 l7, fun _ => ?_⟩
      conv => whnf
      refine ⟨fun _ => lar_31 H hX hin y31 (by omega) (by omega) hK z hI l5 l6 l7, fun _ => ?_⟩
      conv => whnf
      refine ⟨fun _ => lar_32 H hX hin y32 (by omega) (by omega) hK z hI l5 l6 l7, fun _ => ?_⟩
      conv => whnf
      refine ⟨fun _ => lar_33 H hX hin y33 (by omega) (by omega) hK z hI l5 l6 l7, fun _ => ?_⟩
      conv => whnf
      refine ⟨fun _ => lar_34 H hX hin y34 (by omega) (by omega) hK z hI l5 l6 l7, fun _ => ?_⟩
      conv => whnf
      refine ⟨fun _ => lar_35 H hX hin y35 (by omega) (by omega) hK z hI l5 l6 l7, fun _ => ?_⟩
      conv => whnf
      refine ⟨fun _ => lar_36 H hX hin y36 (by omega) (by omega) hK z hI l5 l6 l7, fun _ => ?_⟩
      conv => whnf
      refine ⟨fun _ => lar_37 H hX hin y37 (by omega) (by omega) hK z hI l5 l6 l7, fun _ => ?_⟩
      conv => whnf
      refine ⟨fun _ => lar_38 H hX hin y38 (by omega) (by omega) hK z hI l5 l6 l7, fun _ => ?_⟩
      conv => whnf
      refine ⟨fun _ => lar_39 H hX hin y39 (by omega) (by omega) hK z hI l5 l6 l7, fun _ => ?_⟩
      conv => whnf
      refine ⟨fun _ => lar_40 H hX hin y40 (by omega) (by omega) hK z hI l5 l6 l7, fun _ => ?_⟩
      conv => whnf
      refine ⟨fun _ => lar_41 H hX hin y41 (by omega) (by omega) hK z hI l5 l6 l7, fun _ => ?_⟩
      conv => whnf
      refine ⟨fun _ => lar_42 H hX hin y42 (by omega) (by omega) hK z hI l5 l6 l7, fun _ => ?_⟩
      conv => whnf
      refine ⟨fun _ => lar_43 H hX hin y43 (by omega) (by omega) hK z hI l5 l6 l7, fun _ => ?_⟩
      conv => whnf
      refine ⟨fun _ => lar_44 H hX hin y44 (by omega) (by omega) hK z hI l5 l6 l7, fun _ => ?_⟩
      conv => whnf
      refine ⟨fun _ => lar_45 H hX hin y45 (by omega) (by omega) hK z hI l5 l6 l7, fun _ => ?_⟩
      conv => whnf
      refine ⟨fun _ => lar_46 H hX hin y46 (by omega) (by omega) hK z hI l5 l6 l7, fun _ => ?_⟩
      conv => whnf
      refine ⟨fun _ => lar_47 H hX hin y47 (by omega) (by omega) hK z hI l5 l6 l7, fun _ => ?_⟩
      conv => whnf
      refine ⟨fun _ => lar_48 H hX hin y48 (by omega) (by omega) hK z hI l5 l6 l7, fun _ => ?_⟩
      conv => whnf
      refine ⟨fun _ => lar_49 H hX hin y49 (by omega) (by omega) hK z hI l5 l6 l7, fun _ => ?_⟩
      conv => whnf
      refine ⟨fun _ => lar_50 H hX hin y50 (by omega) (by omega) hK z hI l5 l6 l7, fun _ => ?_⟩
      conv => whnf
      refine ⟨fun _ => lar_51 H hX hin y51 (by omega) (by omega) hK z hI l5 l6 l7, fun _ => ?_⟩
      conv => whnf
      refine ⟨fun _ => lar_52 H hX hin y52 (by omega) (by omega) hK z hI l5 l6 l7, fun _ => ?_⟩
      conv => whnf
      refine ⟨fun _ => lar_53 H hX hin y53 (by omega) (by omega) hK z hI l5 l6 l7, fun _ => ?_⟩
      conv => whnf
      exact hK M z rc rs l5 l6 l7 (hd n M hI) (by omega) (by omega)
end LB
