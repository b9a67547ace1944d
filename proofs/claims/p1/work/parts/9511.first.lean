/-! THE PAIRS OF THE FIRST CALL -/
def p1I : Nat → mm_M → Prop
  | 0 => fun M => M = mm_0
  | _ + 1 => fun _ => True
section PON
variable {ac : Nat → ClassId} {lo : Nat} {ad as : Nat → Nat} {b L : Nat} {xs : Nat → Int32} {hp : mm_M → Nat → xm_H}
theorem p1_weight (H : mm_L ac lo hp) (p q r : Int32) : la_TJ ac lo ad as b L xs hp (fun M => M = mm_0) (fun _ => True) nm_L_weight nm_X12_weight [.int p, .int q, .int r] := by
  refine lt_weight H p q r fun M hI => ?_
  subst hI
  refine am_wk (fr_x_weight rfl) fun r M1 e => Or.inr ⟨e.1, ?_⟩
  rw [e.2]
  exact am_wk (fr_m_weight (d := 998) rfl) fun r M2 e => ⟨⟨0, e.1⟩, e.2, trivial⟩
theorem p1_expected (H : mm_L ac lo hp) (p q r : Int32) : la_TJ ac lo ad as b L xs hp (fun M => M = mm_0) (fun _ => True) nm_L_expected nm_X12_expected [.int p, .int q, .int r] := by
  refine lt_expected H p q r fun M hI => ?_
  subst hI
  refine am_wk (fr_x_expected rfl) fun r M1 e => Or.inr ⟨e.1, ?_⟩
  rw [e.2]
  exact am_wk (fr_m_expected (d := 998) rfl) fun r M2 e => ⟨⟨0, e.1⟩, e.2, trivial⟩
theorem p1_mixed (H : mm_L ac lo hp) (p q r s : Int32) : la_TJ ac lo ad as b L xs hp (fun M => M = mm_0) (fun _ => True) nm_L_mixed nm_X12_mixed [.int p, .int q, .int r, .int s] := by
  refine lt_mixed H p q r s fun M hI => ?_
  subst hI
  refine am_wk (fr_x_mixed rfl) fun r M1 e => Or.inr ⟨e.1, ?_⟩
  rw [e.2]
  exact am_wk (fr_m_mixed (d := 998) rfl) fun r M2 e => ⟨⟨0, e.1⟩, e.2, trivial⟩
theorem p1_circuit (H : mm_L ac lo hp) : la_TI ac lo ad as b L xs hp (fun M => M = mm_0) (fun _ => True) nm_L_circuit nm_X12_circuit [] := by
  refine lt_circuit H fun M hI => ?_
  subst hI
  refine am_wk (fc_x rfl rfl) fun r M1 e => Or.inr (Or.inr ⟨e.1, ?_⟩)
  exact am_wk (fc_m (d := 996) (by rw [e.2.1 108 (by decide)]; rfl) (by rw [e.2.1 108 (by decide)]; rfl)) fun r M2 e => ⟨⟨0, e.1⟩, e.2, trivial⟩
theorem p1_measure (H : mm_L ac lo hp) (p q : Int32) : la_I ac lo ad as b L xs hp (fun M => M = mm_0) (fun _ => True) nm_X11_measure nm_X12_measure [.int p, .int q] := by
  refine am_la_I (us := [aI p, aI q]) H fun M hI => ?_
  subst hI
  by_cases c : p < 0 ∨ ¬ p < 1
  · refine am_wk (fm_xn_measure (d := 996) c) fun r M1 e => ⟨-1, e.1, ?_⟩
    rw [e.2]
    exact am_wk (fm_mn_measure (d := 996) c) fun r M2 e => ⟨e, trivial⟩
  · have c1 : ¬ p < 0 := fun z => c (.inl z)
    have c2 : p < 1 := Decidable.byContradiction fun z => c (.inr z)
    have p0 : p = 0 := by
      obtain ⟨n, hn, rfl⟩ := nI_of c1
      have : n < 1 := Nat.lt_of_not_le fun z => nI_nlt (b := 1) z hn c2
      have : n = 0 := by omega
      subst this
      rfl
    subst p0
    refine am_wk (fm_mx (d := 995)) fun r M1 e => ⟨0, e.1, ?_⟩
    rw [e.2]
    exact am_wk (fm_mm (d := 995)) fun r M2 e => ⟨e, trivial⟩
theorem p1_row (H : mm_L ac lo hp) (p q : Int32) : la_I ac lo ad as b L xs hp (fun M => M = mm_0) (fun _ => True) nm_X11_row nm_X12_row [.int p, .int q] := by
  refine am_la_I (us := [aI p, aI q]) H fun M hI => ?_
  subst hI
  by_cases c : p < 0 ∨ ¬ p < 1
  · refine am_wk (fm_xn_row (d := 996) c) fun r M1 e => ⟨-1, e.1, ?_⟩
    rw [e.2]
    exact am_wk (fm_mn_row (d := 996) c) fun r M2 e => ⟨e, trivial⟩
  · have c1 : ¬ p < 0 := fun z => c (.inl z)
    have c2 : p < 1 := Decidable.byContradiction fun z => c (.inr z)
    have p0 : p = 0 := by
      obtain ⟨n, hn, rfl⟩ := nI_of c1
      have : n < 1 := Nat.lt_of_not_le fun z => nI_nlt (b := 1) z hn c2
      have : n = 0 := by omega
      subst this
      rfl
    subst p0
    by_cases q0 : q = 0
    · subst q0
      refine am_wk (fm_rx0 (d := 996)) fun r M1 e => ⟨0, e.1, ?_⟩
      rw [e.2]
      exact am_wk (fm_rm0 (d := 996)) fun r M2 e => ⟨e, trivial⟩
    · by_cases q1 : q = 1
      · subst q1
        refine am_wk (fm_rx1 (d := 996)) fun r M1 e => ⟨1, e.1, ?_⟩
        rw [e.2]
        exact am_wk (fm_rm1 (d := 996)) fun r M2 e => ⟨e, trivial⟩
      · by_cases q2 : q = 2
        · subst q2
          refine am_wk (fm_rx2 (d := 996)) fun r M1 e => ⟨0, e.1, ?_⟩
          rw [e.2]
          exact am_wk (fm_rm2 (d := 996)) fun r M2 e => ⟨e, trivial⟩
        · have h : q < 0 ∨ ¬ q ≤ 2 := by
            by_cases z : q < 0
            · exact .inl z
            · right
              intro le
              obtain ⟨n, hn, rfl⟩ := nI_of z
              have : n ≤ 2 := Nat.le_of_not_lt fun y => nI_ge (a := 2) y hn le
              rcases (by omega : n = 0 ∨ n = 1 ∨ n = 2) with rfl | rfl | rfl
              · exact q0 rfl
              · exact q1 rfl
              · exact q2 rfl
          refine am_wk (fm_rxn (d := 996) ⟨q0, q1, q2⟩) fun r M1 e => ⟨-1, e.1, ?_⟩
          rw [e.2]
          exact am_wk (fm_rmn (d := 996) h) fun r M2 e => ⟨e, trivial⟩
theorem p1_total (H : mm_L ac lo hp) (p : Int32) : la_I ac lo ad as b L xs hp (fun M => M = mm_0) (fun _ => True) nm_X11_total nm_X12_total [.int p] := by
  refine am_la_I (us := [aI p]) H fun M hI => ?_
  subst hI
  by_cases q0 : p = 0
  · subst q0
    refine am_wk (ft_x0 (d := 997)) fun r M1 e => ⟨_, e.1, ?_⟩
    rw [e.2]
    exact am_wk (ft_m0 (d := 997)) fun r M2 e => ⟨e, trivial⟩
  by_cases q1 : p = 1
  · subst q1
    refine am_wk (ft_x1 (d := 997)) fun r M1 e => ⟨_, e.1, ?_⟩
    rw [e.2]
    exact am_wk (ft_m1 (d := 997)) fun r M2 e => ⟨e, trivial⟩
  by_cases q2 : p = 2
  · subst q2
    refine am_wk (ft_x2 (d := 997)) fun r M1 e => ⟨_, e.1, ?_⟩
    rw [e.2]
    exact am_wk (ft_m2 (d := 997)) fun r M2 e => ⟨e, trivial⟩
  by_cases q3 : p = 3
  · subst q3
    refine am_wk (ft_x3 (d := 997)) fun r M1 e => ⟨_, e.1, ?_⟩
    rw [e.2]
    exact am_wk (ft_m3 (d := 997)) fun r M2 e => ⟨e, trivial⟩
  by_cases q4 : p = 4
  · subst q4
    refine am_wk (ft_x4 (d := 997)) fun r M1 e => ⟨_, e.1, ?_⟩
    rw [e.2]
    exact am_wk (ft_m4 (d := 997)) fun r M2 e => ⟨e, trivial⟩
  by_cases q5 : p = 5
  · subst q5
    refine am_wk (ft_x5 (d := 997)) fun r M1 e => ⟨_, e.1, ?_⟩
    rw [e.2]
    exact am_wk (ft_m5 (d := 997)) fun r M2 e => ⟨e, trivial⟩
  by_cases q6 : p = 6
  · subst q6
    refine am_wk (ft_x6 (d := 997)) fun r M1 e => ⟨_, e.1, ?_⟩
    rw [e.2]
    exact am_wk (ft_m6 (d := 997)) fun r M2 e => ⟨e, trivial⟩
  by_cases q7 : p = 7
  · subst q7
    refine am_wk (ft_x7 (d := 997)) fun r M1 e => ⟨_, e.1, ?_⟩
    rw [e.2]
    exact am_wk (ft_m7 (d := 997)) fun r M2 e => ⟨e, trivial⟩
  refine am_wk (ft_xn (d := 997) ⟨q0, q1, q2, q3, q4, q5, q6, q7⟩) fun r M1 e => ⟨_, e.1, ?_⟩
  rw [e.2]
  exact am_wk (ft_mn (d := 997) ⟨q0, q1, q2, q3, q4, q5, q6, q7⟩) fun r M2 e => ⟨e, trivial⟩
theorem p1_smz : smz mm_0 := ⟨rfl, rfl, rfl, rfl, ⟨rfl, rfl, rfl⟩, ⟨rfl, rfl, rfl⟩, ⟨rfl, rfl, rfl⟩⟩
theorem p1_tmz : tmz mm_0 := ⟨rfl, rfl, rfl, rfl, rfl, fun _ => rfl, fun _ => rfl, fun _ => rfl⟩
theorem p1_tb : tb_s mm_0 1 (fun _ => (0, 1, 0)) := ⟨by decide, by decide, rfl, rfl, fun j hj => by
  have : j = 0 := by omega
  subst this
  exact ⟨by unfold rw_ok; decide, by unfold rA; exact ⟨rfl, rfl, rfl⟩, by unfold rB; exact ⟨rfl, rfl, rfl⟩⟩⟩
theorem p1_hyp (H : mm_L ac lo hp) : la_Hyp ac lo ad as b L xs hp p1I 0 := by
  refine ⟨fun p0 p1 => pr_type H (fun M h => ⟨0, by rw [show M = mm_0 from h]; exact ⟨by decide, rfl, rfl, fun j hj => absurd hj (by omega)⟩⟩) (fun _ _ => trivial) (fun _ _ _ _ _ _ _ _ _ _ => trivial) p0 p1,
    p1_circuit H,
    pk_2 H,
    pk_3 H,
    pk_4 H,
    pk_5 H,
    pk_6 H,
    pk_7 H,
    pk_8 H,
    pk_9 H,
    pk_10 H,
    pk_11 H,
    fun p0 p1 p2 => p1_weight H p0 p1 p2,
    fun p0 p1 p2 => p1_expected H p0 p1 p2,
    fun p0 p1 p2 p3 => p1_mixed H p0 p1 p2 p3,
    pk_15 H,
    pk_16 H,
    fun p0 => pr_table H (fun _ _ => trivial) (fun _ _ _ _ _ => trivial) p0,
    fun p0 p1 p2 => pr_gate H (fun M h => ⟨1, fun _ => (0, 1, 0), by rw [show M = mm_0 from h]; exact p1_tb⟩) (fun _ _ => trivial) (fun _ _ _ _ _ _ _ _ _ _ => trivial) p0 p1 p2,
    fun p0 p1 => p1_measure H p0 p1,
    fun p0 p1 => p1_row H p0 p1,
    pk_21 H,
    pk_22 H,
    pk_23 H,
    pk_24 H,
    pk_25 H,
    pk_26 H,
    pk_27 H,
    pk_28 H,
    pk_29 H,
    pk_30 H,
    pk_31 H,
    pk_32 H,
    fun p0 => pr_least H (fun M h => by rw [show M = mm_0 from h]; exact ⟨⟨0, by decide, rfl, rfl, fun i hi => absurd hi (by omega)⟩, .inl (fun _ _ => rfl), .inl rfl⟩) (fun _ _ => trivial) (fun _ _ _ _ _ _ _ _ _ _ _ _ _ _ _ _ _ _ => trivial) p0,
    fun p0 p1 p2 h => pr_link H (fun _ _ => trivial) (fun _ _ _ _ _ _ _ _ _ => trivial) p0 p1 p2 h,
    pk_35 H,
    fun p0 => pr_game H (fun M h => by rw [show M = mm_0 from h]; rfl) (fun _ _ _ => trivial) p0,
    pk_37 H,
    pk_38 H,
    fun p0 => pz_sum H (fun M h => by rw [show M = mm_0 from h]; exact ⟨p1_smz, p1_tmz⟩) (fun _ => trivial) p0,
    fun p0 p1 p2 p3 => pz_term H (fun M h => by rw [show M = mm_0 from h]; exact ⟨p1_smz, p1_tmz⟩) (fun _ => trivial) p0 p1 p2 p3,
    fun p0 p1 _ => pz_ladder H (fun M h => by rw [show M = mm_0 from h]; exact ⟨p1_smz, p1_tmz⟩) (fun _ => trivial) p0 p1,
    pk_42 H,
    pk_43 H,
    fun p0 p1 => pr_density H (fun _ _ => trivial) (fun _ _ _ _ _ _ _ => trivial) p0 p1,
    pk_45 H,
    pk_46 H,
    pk_47 H,
    pk_48 H,
    pk_49 H,
    fun p0 p1 p2 => pr_kin H (fun _ _ => trivial) (fun _ _ _ _ _ _ => trivial) p0 p1 p2,
    pk_51 H,
    fun p0 => pr_cost H (fun M h => by rw [show M = mm_0 from h]; exact ⟨rfl, fun i hi => ⟨0, by decide, rfl, rfl⟩⟩) (fun _ _ => trivial) (fun _ _ _ _ _ _ _ => trivial) p0,
    fun p0 => p1_total H p0⟩
theorem xl_owed (ac : Nat → ClassId) (lo : Nat) (ad as : Nat → Nat) (b L : Nat) (xs : Nat → Int32) (hL : L ≤ 6) : xl_Owed ac lo ad as (b, L, xs) := by
  refine xl_owed_of (by omega) p1I rfl (fun _ _ _ => trivial) (fun hp H n hn => ?_)
  have e : n = 0 := by omega
  subst e
  exact p1_hyp H
end PON
